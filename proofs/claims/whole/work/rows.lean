section
-- ===== PART A: goes FIRST, ahead of the names: the tables' words, and 'selects' of the private methods out of them =====
/-- a private method of a class that the tables say can be made, by its rows of tables_1 -/
def lw_okq (q : MethodName × Nat) : Prop := (q.1.cls ≠ "java/lang/invoke/MethodHandle" ∧ q.1.cls ≠ "java/lang/invoke/VarHandle") ∧ Cond.instantiable q.1.cls q.2 ∈ tables_1 ∧ Cond.privateMethod q.1 ∈ tables_1 ∧ Cond.instanceMethod q.1 ∈ tables_1
theorem lw_p0 : lw_okq (⟨"RoundSlack", "isOrder", "(I)Z"⟩, 19) := ⟨⟨by decide +kernel, by decide +kernel⟩, List.mem_of_getElem? (i := 17) (by decide +kernel), List.mem_of_getElem? (i := 473) (by decide +kernel), List.mem_of_getElem? (i := 474) (by decide +kernel)⟩
theorem lw_p1 : lw_okq (⟨"RoundSlack$Reader", "begin", "()V"⟩, 4) := ⟨⟨by decide +kernel, by decide +kernel⟩, List.mem_of_getElem? (i := 358) (by decide +kernel), List.mem_of_getElem? (i := 512) (by decide +kernel), List.mem_of_getElem? (i := 513) (by decide +kernel)⟩
theorem lw_p2 : lw_okq (⟨"RoundSlack$Reader", "readOrder", "([I)V"⟩, 4) := ⟨⟨by decide +kernel, by decide +kernel⟩, List.mem_of_getElem? (i := 358) (by decide +kernel), List.mem_of_getElem? (i := 516) (by decide +kernel), List.mem_of_getElem? (i := 517) (by decide +kernel)⟩
theorem lw_p3 : lw_okq (⟨"RoundSlack$Reader", "number", "(III)I"⟩, 4) := ⟨⟨by decide +kernel, by decide +kernel⟩, List.mem_of_getElem? (i := 358) (by decide +kernel), List.mem_of_getElem? (i := 520) (by decide +kernel), List.mem_of_getElem? (i := 521) (by decide +kernel)⟩
theorem lw_p4 : lw_okq (⟨"RoundSlack$Reader", "failAt", "(I)V"⟩, 4) := ⟨⟨by decide +kernel, by decide +kernel⟩, List.mem_of_getElem? (i := 358) (by decide +kernel), List.mem_of_getElem? (i := 531) (by decide +kernel), List.mem_of_getElem? (i := 532) (by decide +kernel)⟩
theorem lw_p5 : lw_okq (⟨"RoundSlack$Reader", "pass", "(I)V"⟩, 4) := ⟨⟨by decide +kernel, by decide +kernel⟩, List.mem_of_getElem? (i := 358) (by decide +kernel), List.mem_of_getElem? (i := 535) (by decide +kernel), List.mem_of_getElem? (i := 536) (by decide +kernel)⟩
theorem lw_p6 : lw_okq (⟨"RoundSlack$Reader", "sees", "(I)Z"⟩, 4) := ⟨⟨by decide +kernel, by decide +kernel⟩, List.mem_of_getElem? (i := 358) (by decide +kernel), List.mem_of_getElem? (i := 539) (by decide +kernel), List.mem_of_getElem? (i := 540) (by decide +kernel)⟩
theorem lw_p7 : lw_okq (⟨"RoundSlack$Reader", "readLoad", "(I)I"⟩, 4) := ⟨⟨by decide +kernel, by decide +kernel⟩, List.mem_of_getElem? (i := 358) (by decide +kernel), List.mem_of_getElem? (i := 543) (by decide +kernel), List.mem_of_getElem? (i := 544) (by decide +kernel)⟩
theorem lw_p8 : lw_okq (⟨"RoundSlack$Reader", "isAtEnd", "()Z"⟩, 4) := ⟨⟨by decide +kernel, by decide +kernel⟩, List.mem_of_getElem? (i := 358) (by decide +kernel), List.mem_of_getElem? (i := 547) (by decide +kernel), List.mem_of_getElem? (i := 548) (by decide +kernel)⟩
theorem lw_p9 : lw_okq (⟨"RoundSlack$Reader", "readRound", "(LRoundSlack$Rounds;II)V"⟩, 4) := ⟨⟨by decide +kernel, by decide +kernel⟩, List.mem_of_getElem? (i := 358) (by decide +kernel), List.mem_of_getElem? (i := 563) (by decide +kernel), List.mem_of_getElem? (i := 564) (by decide +kernel)⟩
theorem lw_p10 : lw_okq (⟨"RoundSlack$Judge", "costOfPart", "(I)I"⟩, 3) := ⟨⟨by decide +kernel, by decide +kernel⟩, List.mem_of_getElem? (i := 205) (by decide +kernel), List.mem_of_getElem? (i := 593) (by decide +kernel), List.mem_of_getElem? (i := 594) (by decide +kernel)⟩
theorem lw_p11 : lw_okq (⟨"RoundSlack", "isStopOrReturn", "(II)Z"⟩, 19) := ⟨⟨by decide +kernel, by decide +kernel⟩, List.mem_of_getElem? (i := 17) (by decide +kernel), List.mem_of_getElem? (i := 649) (by decide +kernel), List.mem_of_getElem? (i := 650) (by decide +kernel)⟩
theorem lw_p12 : lw_okq (⟨"RoundSlack$Moves", "lastPlaceFor", "(II)I"⟩, 12) := ⟨⟨by decide +kernel, by decide +kernel⟩, List.mem_of_getElem? (i := 250) (by decide +kernel), List.mem_of_getElem? (i := 740) (by decide +kernel), List.mem_of_getElem? (i := 741) (by decide +kernel)⟩
theorem lw_p13 : lw_okq (⟨"RoundSlack$Moves", "changes", "(IIII)Z"⟩, 12) := ⟨⟨by decide +kernel, by decide +kernel⟩, List.mem_of_getElem? (i := 250) (by decide +kernel), List.mem_of_getElem? (i := 754) (by decide +kernel), List.mem_of_getElem? (i := 755) (by decide +kernel)⟩
theorem lw_p14 : lw_okq (⟨"RoundSlack$Moves", "shape", "(IIII)V"⟩, 12) := ⟨⟨by decide +kernel, by decide +kernel⟩, List.mem_of_getElem? (i := 250) (by decide +kernel), List.mem_of_getElem? (i := 760) (by decide +kernel), List.mem_of_getElem? (i := 761) (by decide +kernel)⟩
theorem lw_p15 : lw_okq (⟨"RoundSlack$Moves", "crossTail", "(IIII)V"⟩, 12) := ⟨⟨by decide +kernel, by decide +kernel⟩, List.mem_of_getElem? (i := 250) (by decide +kernel), List.mem_of_getElem? (i := 766) (by decide +kernel), List.mem_of_getElem? (i := 767) (by decide +kernel)⟩
def lw_privs_1 : List (MethodName × Nat) := [(⟨"RoundSlack", "isOrder", "(I)Z"⟩, 19), (⟨"RoundSlack$Reader", "begin", "()V"⟩, 4), (⟨"RoundSlack$Reader", "readOrder", "([I)V"⟩, 4), (⟨"RoundSlack$Reader", "number", "(III)I"⟩, 4), (⟨"RoundSlack$Reader", "failAt", "(I)V"⟩, 4), (⟨"RoundSlack$Reader", "pass", "(I)V"⟩, 4), (⟨"RoundSlack$Reader", "sees", "(I)Z"⟩, 4), (⟨"RoundSlack$Reader", "readLoad", "(I)I"⟩, 4), (⟨"RoundSlack$Reader", "isAtEnd", "()Z"⟩, 4), (⟨"RoundSlack$Reader", "readRound", "(LRoundSlack$Rounds;II)V"⟩, 4), (⟨"RoundSlack$Judge", "costOfPart", "(I)I"⟩, 3), (⟨"RoundSlack", "isStopOrReturn", "(II)Z"⟩, 19), (⟨"RoundSlack$Moves", "lastPlaceFor", "(II)I"⟩, 12), (⟨"RoundSlack$Moves", "changes", "(IIII)Z"⟩, 12), (⟨"RoundSlack$Moves", "shape", "(IIII)V"⟩, 12), (⟨"RoundSlack$Moves", "crossTail", "(IIII)V"⟩, 12)]
theorem lw_r1 : ∀ q ∈ lw_privs_1, lw_okq q := List.forall_mem_cons.mpr ⟨lw_p0, List.forall_mem_cons.mpr ⟨lw_p1, List.forall_mem_cons.mpr ⟨lw_p2, List.forall_mem_cons.mpr ⟨lw_p3, List.forall_mem_cons.mpr ⟨lw_p4, List.forall_mem_cons.mpr ⟨lw_p5, List.forall_mem_cons.mpr ⟨lw_p6, List.forall_mem_cons.mpr ⟨lw_p7, List.forall_mem_cons.mpr ⟨lw_p8, List.forall_mem_cons.mpr ⟨lw_p9, List.forall_mem_cons.mpr ⟨lw_p10, List.forall_mem_cons.mpr ⟨lw_p11, List.forall_mem_cons.mpr ⟨lw_p12, List.forall_mem_cons.mpr ⟨lw_p13, List.forall_mem_cons.mpr ⟨lw_p14, List.forall_mem_cons.mpr ⟨lw_p15, fun _ h => absurd h List.not_mem_nil⟩⟩⟩⟩⟩⟩⟩⟩⟩⟩⟩⟩⟩⟩⟩⟩
theorem lw_p16 : lw_okq (⟨"RoundSlack$Moves", "mostC", "(III)I"⟩, 12) := ⟨⟨by decide +kernel, by decide +kernel⟩, List.mem_of_getElem? (i := 250) (by decide +kernel), List.mem_of_getElem? (i := 788) (by decide +kernel), List.mem_of_getElem? (i := 789) (by decide +kernel)⟩
theorem lw_p17 : lw_okq (⟨"RoundSlack$Moves", "note", "(III)V"⟩, 12) := ⟨⟨by decide +kernel, by decide +kernel⟩, List.mem_of_getElem? (i := 250) (by decide +kernel), List.mem_of_getElem? (i := 794) (by decide +kernel), List.mem_of_getElem? (i := 795) (by decide +kernel)⟩
theorem lw_p18 : lw_okq (⟨"RoundSlack$Filling", "cheapestVan", "()I"⟩, 9) := ⟨⟨by decide +kernel, by decide +kernel⟩, List.mem_of_getElem? (i := 302) (by decide +kernel), List.mem_of_getElem? (i := 845) (by decide +kernel), List.mem_of_getElem? (i := 846) (by decide +kernel)⟩
theorem lw_p19 : lw_okq (⟨"RoundSlack$Filling", "nearestTo", "(I)I"⟩, 9) := ⟨⟨by decide +kernel, by decide +kernel⟩, List.mem_of_getElem? (i := 302) (by decide +kernel), List.mem_of_getElem? (i := 868) (by decide +kernel), List.mem_of_getElem? (i := 869) (by decide +kernel)⟩
theorem lw_p20 : lw_okq (⟨"RoundSlack", "endsFourTimes", "(II)Z"⟩, 19) := ⟨⟨by decide +kernel, by decide +kernel⟩, List.mem_of_getElem? (i := 17) (by decide +kernel), List.mem_of_getElem? (i := 916) (by decide +kernel), List.mem_of_getElem? (i := 917) (by decide +kernel)⟩
theorem lw_p21 : lw_okq (⟨"RoundSlack", "thinkOfRow", "(II)Z"⟩, 19) := ⟨⟨by decide +kernel, by decide +kernel⟩, List.mem_of_getElem? (i := 17) (by decide +kernel), List.mem_of_getElem? (i := 920) (by decide +kernel), List.mem_of_getElem? (i := 921) (by decide +kernel)⟩
theorem lw_p22 : lw_okq (⟨"RoundSlackModel", "isEmpty", "()Z"⟩, 35) := ⟨⟨by decide +kernel, by decide +kernel⟩, List.mem_of_getElem? (i := 943) (by decide +kernel), List.mem_of_getElem? (i := 1062) (by decide +kernel), List.mem_of_getElem? (i := 1063) (by decide +kernel)⟩
theorem lw_p23 : lw_okq (⟨"RoundSlackModel", "stopsOf", "(I)I"⟩, 35) := ⟨⟨by decide +kernel, by decide +kernel⟩, List.mem_of_getElem? (i := 943) (by decide +kernel), List.mem_of_getElem? (i := 1066) (by decide +kernel), List.mem_of_getElem? (i := 1067) (by decide +kernel)⟩
theorem lw_p24 : lw_okq (⟨"RoundSlackModel", "forgets", "(I)I"⟩, 35) := ⟨⟨by decide +kernel, by decide +kernel⟩, List.mem_of_getElem? (i := 943) (by decide +kernel), List.mem_of_getElem? (i := 1070) (by decide +kernel), List.mem_of_getElem? (i := 1071) (by decide +kernel)⟩
theorem lw_p25 : lw_okq (⟨"RoundSlackModel", "adds", "(IIIIIII)V"⟩, 35) := ⟨⟨by decide +kernel, by decide +kernel⟩, List.mem_of_getElem? (i := 943) (by decide +kernel), List.mem_of_getElem? (i := 1078) (by decide +kernel), List.mem_of_getElem? (i := 1079) (by decide +kernel)⟩
theorem lw_p26 : lw_okq (⟨"RoundSlackModel", "isOrder", "(I)Z"⟩, 35) := ⟨⟨by decide +kernel, by decide +kernel⟩, List.mem_of_getElem? (i := 943) (by decide +kernel), List.mem_of_getElem? (i := 1086) (by decide +kernel), List.mem_of_getElem? (i := 1087) (by decide +kernel)⟩
theorem lw_p27 : lw_okq (⟨"RoundSlackModel", "isLeft", "(I)Z"⟩, 35) := ⟨⟨by decide +kernel, by decide +kernel⟩, List.mem_of_getElem? (i := 943) (by decide +kernel), List.mem_of_getElem? (i := 1090) (by decide +kernel), List.mem_of_getElem? (i := 1091) (by decide +kernel)⟩
theorem lw_p28 : lw_okq (⟨"RoundSlackModel", "vanOf", "(I)I"⟩, 35) := ⟨⟨by decide +kernel, by decide +kernel⟩, List.mem_of_getElem? (i := 943) (by decide +kernel), List.mem_of_getElem? (i := 1094) (by decide +kernel), List.mem_of_getElem? (i := 1095) (by decide +kernel)⟩
theorem lw_p29 : lw_okq (⟨"RoundSlackModel", "ofOrder", "(II)I"⟩, 35) := ⟨⟨by decide +kernel, by decide +kernel⟩, List.mem_of_getElem? (i := 943) (by decide +kernel), List.mem_of_getElem? (i := 1098) (by decide +kernel), List.mem_of_getElem? (i := 1099) (by decide +kernel)⟩
theorem lw_p30 : lw_okq (⟨"RoundSlackModel", "readsOrder", "(I)Z"⟩, 35) := ⟨⟨by decide +kernel, by decide +kernel⟩, List.mem_of_getElem? (i := 943) (by decide +kernel), List.mem_of_getElem? (i := 1125) (by decide +kernel), List.mem_of_getElem? (i := 1126) (by decide +kernel)⟩
theorem lw_p31 : lw_okq (⟨"RoundSlackModel", "readsNumber", "(III)Z"⟩, 35) := ⟨⟨by decide +kernel, by decide +kernel⟩, List.mem_of_getElem? (i := 943) (by decide +kernel), List.mem_of_getElem? (i := 1129) (by decide +kernel), List.mem_of_getElem? (i := 1130) (by decide +kernel)⟩
def lw_privs_2 : List (MethodName × Nat) := [(⟨"RoundSlack$Moves", "mostC", "(III)I"⟩, 12), (⟨"RoundSlack$Moves", "note", "(III)V"⟩, 12), (⟨"RoundSlack$Filling", "cheapestVan", "()I"⟩, 9), (⟨"RoundSlack$Filling", "nearestTo", "(I)I"⟩, 9), (⟨"RoundSlack", "endsFourTimes", "(II)Z"⟩, 19), (⟨"RoundSlack", "thinkOfRow", "(II)Z"⟩, 19), (⟨"RoundSlackModel", "isEmpty", "()Z"⟩, 35), (⟨"RoundSlackModel", "stopsOf", "(I)I"⟩, 35), (⟨"RoundSlackModel", "forgets", "(I)I"⟩, 35), (⟨"RoundSlackModel", "adds", "(IIIIIII)V"⟩, 35), (⟨"RoundSlackModel", "isOrder", "(I)Z"⟩, 35), (⟨"RoundSlackModel", "isLeft", "(I)Z"⟩, 35), (⟨"RoundSlackModel", "vanOf", "(I)I"⟩, 35), (⟨"RoundSlackModel", "ofOrder", "(II)I"⟩, 35), (⟨"RoundSlackModel", "readsOrder", "(I)Z"⟩, 35), (⟨"RoundSlackModel", "readsNumber", "(III)Z"⟩, 35)]
theorem lw_r2 : ∀ q ∈ lw_privs_2, lw_okq q := List.forall_mem_cons.mpr ⟨lw_p16, List.forall_mem_cons.mpr ⟨lw_p17, List.forall_mem_cons.mpr ⟨lw_p18, List.forall_mem_cons.mpr ⟨lw_p19, List.forall_mem_cons.mpr ⟨lw_p20, List.forall_mem_cons.mpr ⟨lw_p21, List.forall_mem_cons.mpr ⟨lw_p22, List.forall_mem_cons.mpr ⟨lw_p23, List.forall_mem_cons.mpr ⟨lw_p24, List.forall_mem_cons.mpr ⟨lw_p25, List.forall_mem_cons.mpr ⟨lw_p26, List.forall_mem_cons.mpr ⟨lw_p27, List.forall_mem_cons.mpr ⟨lw_p28, List.forall_mem_cons.mpr ⟨lw_p29, List.forall_mem_cons.mpr ⟨lw_p30, List.forall_mem_cons.mpr ⟨lw_p31, fun _ h => absurd h List.not_mem_nil⟩⟩⟩⟩⟩⟩⟩⟩⟩⟩⟩⟩⟩⟩⟩⟩
theorem lw_p32 : lw_okq (⟨"RoundSlackModel", "number", "(III)I"⟩, 35) := ⟨⟨by decide +kernel, by decide +kernel⟩, List.mem_of_getElem? (i := 943) (by decide +kernel), List.mem_of_getElem? (i := 1133) (by decide +kernel), List.mem_of_getElem? (i := 1134) (by decide +kernel)⟩
theorem lw_p33 : lw_okq (⟨"RoundSlackModel", "here", "()I"⟩, 35) := ⟨⟨by decide +kernel, by decide +kernel⟩, List.mem_of_getElem? (i := 943) (by decide +kernel), List.mem_of_getElem? (i := 1137) (by decide +kernel), List.mem_of_getElem? (i := 1138) (by decide +kernel)⟩
theorem lw_p34 : lw_okq (⟨"RoundSlackModel", "takesSign", "(I)Z"⟩, 35) := ⟨⟨by decide +kernel, by decide +kernel⟩, List.mem_of_getElem? (i := 943) (by decide +kernel), List.mem_of_getElem? (i := 1141) (by decide +kernel), List.mem_of_getElem? (i := 1142) (by decide +kernel)⟩
theorem lw_p35 : lw_okq (⟨"RoundSlackModel", "empties", "()V"⟩, 35) := ⟨⟨by decide +kernel, by decide +kernel⟩, List.mem_of_getElem? (i := 943) (by decide +kernel), List.mem_of_getElem? (i := 1149) (by decide +kernel), List.mem_of_getElem? (i := 1150) (by decide +kernel)⟩
theorem lw_p36 : lw_okq (⟨"RoundSlackModel", "readsVan", "(I)I"⟩, 35) := ⟨⟨by decide +kernel, by decide +kernel⟩, List.mem_of_getElem? (i := 943) (by decide +kernel), List.mem_of_getElem? (i := 1153) (by decide +kernel), List.mem_of_getElem? (i := 1154) (by decide +kernel)⟩
theorem lw_p37 : lw_okq (⟨"RoundSlackModel", "readsStop", "(I)Z"⟩, 35) := ⟨⟨by decide +kernel, by decide +kernel⟩, List.mem_of_getElem? (i := 943) (by decide +kernel), List.mem_of_getElem? (i := 1157) (by decide +kernel), List.mem_of_getElem? (i := 1158) (by decide +kernel)⟩
theorem lw_p38 : lw_okq (⟨"RoundSlackModel", "sizeOf", "([II)I"⟩, 35) := ⟨⟨by decide +kernel, by decide +kernel⟩, List.mem_of_getElem? (i := 943) (by decide +kernel), List.mem_of_getElem? (i := 1161) (by decide +kernel), List.mem_of_getElem? (i := 1162) (by decide +kernel)⟩
theorem lw_p39 : lw_okq (⟨"RoundSlackModel", "isGood", "([I)Z"⟩, 35) := ⟨⟨by decide +kernel, by decide +kernel⟩, List.mem_of_getElem? (i := 943) (by decide +kernel), List.mem_of_getElem? (i := 1168) (by decide +kernel), List.mem_of_getElem? (i := 1169) (by decide +kernel)⟩
theorem lw_p40 : lw_okq (⟨"RoundSlackModel", "isGoodOf", "([II)Z"⟩, 35) := ⟨⟨by decide +kernel, by decide +kernel⟩, List.mem_of_getElem? (i := 943) (by decide +kernel), List.mem_of_getElem? (i := 1172) (by decide +kernel), List.mem_of_getElem? (i := 1173) (by decide +kernel)⟩
theorem lw_p41 : lw_okq (⟨"RoundSlackModel", "wholeOf", "([II)V"⟩, 35) := ⟨⟨by decide +kernel, by decide +kernel⟩, List.mem_of_getElem? (i := 943) (by decide +kernel), List.mem_of_getElem? (i := 1176) (by decide +kernel), List.mem_of_getElem? (i := 1177) (by decide +kernel)⟩
theorem lw_p42 : lw_okq (⟨"RoundSlackModel", "nodesOf", "([IIII)V"⟩, 35) := ⟨⟨by decide +kernel, by decide +kernel⟩, List.mem_of_getElem? (i := 943) (by decide +kernel), List.mem_of_getElem? (i := 1180) (by decide +kernel), List.mem_of_getElem? (i := 1181) (by decide +kernel)⟩
theorem lw_p43 : lw_okq (⟨"RoundSlackModel", "at", "([III)I"⟩, 35) := ⟨⟨by decide +kernel, by decide +kernel⟩, List.mem_of_getElem? (i := 943) (by decide +kernel), List.mem_of_getElem? (i := 1184) (by decide +kernel), List.mem_of_getElem? (i := 1185) (by decide +kernel)⟩
theorem lw_p44 : lw_okq (⟨"RoundSlackModel", "openOf", "(II)I"⟩, 35) := ⟨⟨by decide +kernel, by decide +kernel⟩, List.mem_of_getElem? (i := 943) (by decide +kernel), List.mem_of_getElem? (i := 1188) (by decide +kernel), List.mem_of_getElem? (i := 1189) (by decide +kernel)⟩
theorem lw_p45 : lw_okq (⟨"RoundSlackModel", "drives", "(III)V"⟩, 35) := ⟨⟨by decide +kernel, by decide +kernel⟩, List.mem_of_getElem? (i := 943) (by decide +kernel), List.mem_of_getElem? (i := 1192) (by decide +kernel), List.mem_of_getElem? (i := 1193) (by decide +kernel)⟩
theorem lw_p46 : lw_okq (⟨"RoundSlackModel", "serviceOf", "(I)I"⟩, 35) := ⟨⟨by decide +kernel, by decide +kernel⟩, List.mem_of_getElem? (i := 943) (by decide +kernel), List.mem_of_getElem? (i := 1196) (by decide +kernel), List.mem_of_getElem? (i := 1197) (by decide +kernel)⟩
theorem lw_p47 : lw_okq (⟨"RoundSlackModel", "wayOf", "(II)I"⟩, 35) := ⟨⟨by decide +kernel, by decide +kernel⟩, List.mem_of_getElem? (i := 943) (by decide +kernel), List.mem_of_getElem? (i := 1200) (by decide +kernel), List.mem_of_getElem? (i := 1201) (by decide +kernel)⟩
def lw_privs_3 : List (MethodName × Nat) := [(⟨"RoundSlackModel", "number", "(III)I"⟩, 35), (⟨"RoundSlackModel", "here", "()I"⟩, 35), (⟨"RoundSlackModel", "takesSign", "(I)Z"⟩, 35), (⟨"RoundSlackModel", "empties", "()V"⟩, 35), (⟨"RoundSlackModel", "readsVan", "(I)I"⟩, 35), (⟨"RoundSlackModel", "readsStop", "(I)Z"⟩, 35), (⟨"RoundSlackModel", "sizeOf", "([II)I"⟩, 35), (⟨"RoundSlackModel", "isGood", "([I)Z"⟩, 35), (⟨"RoundSlackModel", "isGoodOf", "([II)Z"⟩, 35), (⟨"RoundSlackModel", "wholeOf", "([II)V"⟩, 35), (⟨"RoundSlackModel", "nodesOf", "([IIII)V"⟩, 35), (⟨"RoundSlackModel", "at", "([III)I"⟩, 35), (⟨"RoundSlackModel", "openOf", "(II)I"⟩, 35), (⟨"RoundSlackModel", "drives", "(III)V"⟩, 35), (⟨"RoundSlackModel", "serviceOf", "(I)I"⟩, 35), (⟨"RoundSlackModel", "wayOf", "(II)I"⟩, 35)]
theorem lw_r3 : ∀ q ∈ lw_privs_3, lw_okq q := List.forall_mem_cons.mpr ⟨lw_p32, List.forall_mem_cons.mpr ⟨lw_p33, List.forall_mem_cons.mpr ⟨lw_p34, List.forall_mem_cons.mpr ⟨lw_p35, List.forall_mem_cons.mpr ⟨lw_p36, List.forall_mem_cons.mpr ⟨lw_p37, List.forall_mem_cons.mpr ⟨lw_p38, List.forall_mem_cons.mpr ⟨lw_p39, List.forall_mem_cons.mpr ⟨lw_p40, List.forall_mem_cons.mpr ⟨lw_p41, List.forall_mem_cons.mpr ⟨lw_p42, List.forall_mem_cons.mpr ⟨lw_p43, List.forall_mem_cons.mpr ⟨lw_p44, List.forall_mem_cons.mpr ⟨lw_p45, List.forall_mem_cons.mpr ⟨lw_p46, List.forall_mem_cons.mpr ⟨lw_p47, fun _ h => absurd h List.not_mem_nil⟩⟩⟩⟩⟩⟩⟩⟩⟩⟩⟩⟩⟩⟩⟩⟩
theorem lw_p48 : lw_okq (⟨"RoundSlackModel", "closeOf", "(II)I"⟩, 35) := ⟨⟨by decide +kernel, by decide +kernel⟩, List.mem_of_getElem? (i := 943) (by decide +kernel), List.mem_of_getElem? (i := 1206) (by decide +kernel), List.mem_of_getElem? (i := 1207) (by decide +kernel)⟩
theorem lw_p49 : lw_okq (⟨"RoundSlackModel", "topOf", "()I"⟩, 35) := ⟨⟨by decide +kernel, by decide +kernel⟩, List.mem_of_getElem? (i := 943) (by decide +kernel), List.mem_of_getElem? (i := 1210) (by decide +kernel), List.mem_of_getElem? (i := 1211) (by decide +kernel)⟩
theorem lw_p50 : lw_okq (⟨"RoundSlackModel", "sumOf", "(I)I"⟩, 35) := ⟨⟨by decide +kernel, by decide +kernel⟩, List.mem_of_getElem? (i := 943) (by decide +kernel), List.mem_of_getElem? (i := 1214) (by decide +kernel), List.mem_of_getElem? (i := 1215) (by decide +kernel)⟩
theorem lw_p51 : lw_okq (⟨"RoundSlackModel", "becomes", "()V"⟩, 35) := ⟨⟨by decide +kernel, by decide +kernel⟩, List.mem_of_getElem? (i := 943) (by decide +kernel), List.mem_of_getElem? (i := 1218) (by decide +kernel), List.mem_of_getElem? (i := 1219) (by decide +kernel)⟩
theorem lw_p52 : lw_okq (⟨"RoundSlackModel", "stopsIn", "()I"⟩, 35) := ⟨⟨by decide +kernel, by decide +kernel⟩, List.mem_of_getElem? (i := 943) (by decide +kernel), List.mem_of_getElem? (i := 1222) (by decide +kernel), List.mem_of_getElem? (i := 1223) (by decide +kernel)⟩
theorem lw_p53 : lw_okq (⟨"RoundSlackModel", "writes", "(I)V"⟩, 35) := ⟨⟨by decide +kernel, by decide +kernel⟩, List.mem_of_getElem? (i := 943) (by decide +kernel), List.mem_of_getElem? (i := 1230) (by decide +kernel), List.mem_of_getElem? (i := 1231) (by decide +kernel)⟩
theorem lw_p54 : lw_okq (⟨"RoundSlackModel", "placeOf", "(I)I"⟩, 35) := ⟨⟨by decide +kernel, by decide +kernel⟩, List.mem_of_getElem? (i := 943) (by decide +kernel), List.mem_of_getElem? (i := 1246) (by decide +kernel), List.mem_of_getElem? (i := 1247) (by decide +kernel)⟩
theorem lw_p55 : lw_okq (⟨"RoundSlackModel", "isStop", "(II)Z"⟩, 35) := ⟨⟨by decide +kernel, by decide +kernel⟩, List.mem_of_getElem? (i := 943) (by decide +kernel), List.mem_of_getElem? (i := 1262) (by decide +kernel), List.mem_of_getElem? (i := 1263) (by decide +kernel)⟩
theorem lw_p56 : lw_okq (⟨"RoundSlackModel", "drivesTo", "(II)V"⟩, 35) := ⟨⟨by decide +kernel, by decide +kernel⟩, List.mem_of_getElem? (i := 943) (by decide +kernel), List.mem_of_getElem? (i := 1266) (by decide +kernel), List.mem_of_getElem? (i := 1267) (by decide +kernel)⟩
theorem lw_p57 : lw_okq (⟨"RoundSlackModel", "looks", "()V"⟩, 35) := ⟨⟨by decide +kernel, by decide +kernel⟩, List.mem_of_getElem? (i := 943) (by decide +kernel), List.mem_of_getElem? (i := 1270) (by decide +kernel), List.mem_of_getElem? (i := 1271) (by decide +kernel)⟩
theorem lw_p58 : lw_okq (⟨"RoundSlackModel", "loadBehind", "(II)I"⟩, 35) := ⟨⟨by decide +kernel, by decide +kernel⟩, List.mem_of_getElem? (i := 943) (by decide +kernel), List.mem_of_getElem? (i := 1274) (by decide +kernel), List.mem_of_getElem? (i := 1275) (by decide +kernel)⟩
theorem lw_p59 : lw_okq (⟨"RoundSlackModel", "latestOf", "(II)I"⟩, 35) := ⟨⟨by decide +kernel, by decide +kernel⟩, List.mem_of_getElem? (i := 943) (by decide +kernel), List.mem_of_getElem? (i := 1282) (by decide +kernel), List.mem_of_getElem? (i := 1283) (by decide +kernel)⟩
theorem lw_p60 : lw_okq (⟨"RoundSlackModel", "toldOf", "(II)I"⟩, 35) := ⟨⟨by decide +kernel, by decide +kernel⟩, List.mem_of_getElem? (i := 943) (by decide +kernel), List.mem_of_getElem? (i := 1295) (by decide +kernel), List.mem_of_getElem? (i := 1296) (by decide +kernel)⟩
theorem lw_p61 : lw_okq (⟨"RoundSlackModel", "driveOf", "()I"⟩, 35) := ⟨⟨by decide +kernel, by decide +kernel⟩, List.mem_of_getElem? (i := 943) (by decide +kernel), List.mem_of_getElem? (i := 1299) (by decide +kernel), List.mem_of_getElem? (i := 1300) (by decide +kernel)⟩
theorem lw_p62 : lw_okq (⟨"RoundSlackModel", "hoursOf", "(II)I"⟩, 35) := ⟨⟨by decide +kernel, by decide +kernel⟩, List.mem_of_getElem? (i := 943) (by decide +kernel), List.mem_of_getElem? (i := 1303) (by decide +kernel), List.mem_of_getElem? (i := 1304) (by decide +kernel)⟩
theorem lw_p63 : lw_okq (⟨"RoundSlackModel", "costOf", "([I)I"⟩, 35) := ⟨⟨by decide +kernel, by decide +kernel⟩, List.mem_of_getElem? (i := 943) (by decide +kernel), List.mem_of_getElem? (i := 1315) (by decide +kernel), List.mem_of_getElem? (i := 1316) (by decide +kernel)⟩
def lw_privs_4 : List (MethodName × Nat) := [(⟨"RoundSlackModel", "closeOf", "(II)I"⟩, 35), (⟨"RoundSlackModel", "topOf", "()I"⟩, 35), (⟨"RoundSlackModel", "sumOf", "(I)I"⟩, 35), (⟨"RoundSlackModel", "becomes", "()V"⟩, 35), (⟨"RoundSlackModel", "stopsIn", "()I"⟩, 35), (⟨"RoundSlackModel", "writes", "(I)V"⟩, 35), (⟨"RoundSlackModel", "placeOf", "(I)I"⟩, 35), (⟨"RoundSlackModel", "isStop", "(II)Z"⟩, 35), (⟨"RoundSlackModel", "drivesTo", "(II)V"⟩, 35), (⟨"RoundSlackModel", "looks", "()V"⟩, 35), (⟨"RoundSlackModel", "loadBehind", "(II)I"⟩, 35), (⟨"RoundSlackModel", "latestOf", "(II)I"⟩, 35), (⟨"RoundSlackModel", "toldOf", "(II)I"⟩, 35), (⟨"RoundSlackModel", "driveOf", "()I"⟩, 35), (⟨"RoundSlackModel", "hoursOf", "(II)I"⟩, 35), (⟨"RoundSlackModel", "costOf", "([I)I"⟩, 35)]
theorem lw_r4 : ∀ q ∈ lw_privs_4, lw_okq q := List.forall_mem_cons.mpr ⟨lw_p48, List.forall_mem_cons.mpr ⟨lw_p49, List.forall_mem_cons.mpr ⟨lw_p50, List.forall_mem_cons.mpr ⟨lw_p51, List.forall_mem_cons.mpr ⟨lw_p52, List.forall_mem_cons.mpr ⟨lw_p53, List.forall_mem_cons.mpr ⟨lw_p54, List.forall_mem_cons.mpr ⟨lw_p55, List.forall_mem_cons.mpr ⟨lw_p56, List.forall_mem_cons.mpr ⟨lw_p57, List.forall_mem_cons.mpr ⟨lw_p58, List.forall_mem_cons.mpr ⟨lw_p59, List.forall_mem_cons.mpr ⟨lw_p60, List.forall_mem_cons.mpr ⟨lw_p61, List.forall_mem_cons.mpr ⟨lw_p62, List.forall_mem_cons.mpr ⟨lw_p63, fun _ h => absurd h List.not_mem_nil⟩⟩⟩⟩⟩⟩⟩⟩⟩⟩⟩⟩⟩⟩⟩⟩
theorem lw_p64 : lw_okq (⟨"RoundSlackModel", "costOfVan", "([II)I"⟩, 35) := ⟨⟨by decide +kernel, by decide +kernel⟩, List.mem_of_getElem? (i := 943) (by decide +kernel), List.mem_of_getElem? (i := 1319) (by decide +kernel), List.mem_of_getElem? (i := 1320) (by decide +kernel)⟩
theorem lw_p65 : lw_okq (⟨"RoundSlackModel", "isPut", "(III)Z"⟩, 35) := ⟨⟨by decide +kernel, by decide +kernel⟩, List.mem_of_getElem? (i := 943) (by decide +kernel), List.mem_of_getElem? (i := 1335) (by decide +kernel), List.mem_of_getElem? (i := 1336) (by decide +kernel)⟩
theorem lw_p66 : lw_okq (⟨"RoundSlackModel", "isGoodWith", "(III)Z"⟩, 35) := ⟨⟨by decide +kernel, by decide +kernel⟩, List.mem_of_getElem? (i := 943) (by decide +kernel), List.mem_of_getElem? (i := 1339) (by decide +kernel), List.mem_of_getElem? (i := 1340) (by decide +kernel)⟩
theorem lw_p67 : lw_okq (⟨"RoundSlackModel", "tries", "()V"⟩, 35) := ⟨⟨by decide +kernel, by decide +kernel⟩, List.mem_of_getElem? (i := 943) (by decide +kernel), List.mem_of_getElem? (i := 1343) (by decide +kernel), List.mem_of_getElem? (i := 1344) (by decide +kernel)⟩
theorem lw_p68 : lw_okq (⟨"RoundSlackModel", "marks", "()V"⟩, 35) := ⟨⟨by decide +kernel, by decide +kernel⟩, List.mem_of_getElem? (i := 943) (by decide +kernel), List.mem_of_getElem? (i := 1347) (by decide +kernel), List.mem_of_getElem? (i := 1348) (by decide +kernel)⟩
theorem lw_p69 : lw_okq (⟨"RoundSlackModel", "steps", "()V"⟩, 35) := ⟨⟨by decide +kernel, by decide +kernel⟩, List.mem_of_getElem? (i := 943) (by decide +kernel), List.mem_of_getElem? (i := 1351) (by decide +kernel), List.mem_of_getElem? (i := 1352) (by decide +kernel)⟩
theorem lw_p70 : lw_okq (⟨"RoundSlackModel", "moreBy", "(I)I"⟩, 35) := ⟨⟨by decide +kernel, by decide +kernel⟩, List.mem_of_getElem? (i := 943) (by decide +kernel), List.mem_of_getElem? (i := 1359) (by decide +kernel), List.mem_of_getElem? (i := 1360) (by decide +kernel)⟩
theorem lw_p71 : lw_okq (⟨"RoundSlackModel", "isMove", "(IIII)Z"⟩, 35) := ⟨⟨by decide +kernel, by decide +kernel⟩, List.mem_of_getElem? (i := 943) (by decide +kernel), List.mem_of_getElem? (i := 1375) (by decide +kernel), List.mem_of_getElem? (i := 1376) (by decide +kernel)⟩
theorem lw_p72 : lw_okq (⟨"RoundSlackModel", "isInRound", "(I)Z"⟩, 35) := ⟨⟨by decide +kernel, by decide +kernel⟩, List.mem_of_getElem? (i := 943) (by decide +kernel), List.mem_of_getElem? (i := 1379) (by decide +kernel), List.mem_of_getElem? (i := 1380) (by decide +kernel)⟩
theorem lw_p73 : lw_okq (⟨"RoundSlackModel", "mayBe", "(IIII)Z"⟩, 35) := ⟨⟨by decide +kernel, by decide +kernel⟩, List.mem_of_getElem? (i := 943) (by decide +kernel), List.mem_of_getElem? (i := 1383) (by decide +kernel), List.mem_of_getElem? (i := 1384) (by decide +kernel)⟩
theorem lw_p74 : lw_okq (⟨"RoundSlackModel", "makes", "(IIII)V"⟩, 35) := ⟨⟨by decide +kernel, by decide +kernel⟩, List.mem_of_getElem? (i := 943) (by decide +kernel), List.mem_of_getElem? (i := 1387) (by decide +kernel), List.mem_of_getElem? (i := 1388) (by decide +kernel)⟩
theorem lw_p75 : lw_okq (⟨"RoundSlackModel", "crosses", "(IIII)V"⟩, 35) := ⟨⟨by decide +kernel, by decide +kernel⟩, List.mem_of_getElem? (i := 943) (by decide +kernel), List.mem_of_getElem? (i := 1391) (by decide +kernel), List.mem_of_getElem? (i := 1392) (by decide +kernel)⟩
theorem lw_p76 : lw_okq (⟨"RoundSlackModel", "turns", "(III)V"⟩, 35) := ⟨⟨by decide +kernel, by decide +kernel⟩, List.mem_of_getElem? (i := 943) (by decide +kernel), List.mem_of_getElem? (i := 1395) (by decide +kernel), List.mem_of_getElem? (i := 1396) (by decide +kernel)⟩
theorem lw_p77 : lw_okq (⟨"RoundSlackModel", "isOtherwise", "()Z"⟩, 35) := ⟨⟨by decide +kernel, by decide +kernel⟩, List.mem_of_getElem? (i := 943) (by decide +kernel), List.mem_of_getElem? (i := 1399) (by decide +kernel), List.mem_of_getElem? (i := 1400) (by decide +kernel)⟩
theorem lw_p78 : lw_okq (⟨"RoundSlackModel", "gained", "()I"⟩, 35) := ⟨⟨by decide +kernel, by decide +kernel⟩, List.mem_of_getElem? (i := 943) (by decide +kernel), List.mem_of_getElem? (i := 1407) (by decide +kernel), List.mem_of_getElem? (i := 1408) (by decide +kernel)⟩
theorem lw_p79 : lw_okq (⟨"RoundSlackModel", "goesOver", "(I)V"⟩, 35) := ⟨⟨by decide +kernel, by decide +kernel⟩, List.mem_of_getElem? (i := 943) (by decide +kernel), List.mem_of_getElem? (i := 1419) (by decide +kernel), List.mem_of_getElem? (i := 1420) (by decide +kernel)⟩
def lw_privs_5 : List (MethodName × Nat) := [(⟨"RoundSlackModel", "costOfVan", "([II)I"⟩, 35), (⟨"RoundSlackModel", "isPut", "(III)Z"⟩, 35), (⟨"RoundSlackModel", "isGoodWith", "(III)Z"⟩, 35), (⟨"RoundSlackModel", "tries", "()V"⟩, 35), (⟨"RoundSlackModel", "marks", "()V"⟩, 35), (⟨"RoundSlackModel", "steps", "()V"⟩, 35), (⟨"RoundSlackModel", "moreBy", "(I)I"⟩, 35), (⟨"RoundSlackModel", "isMove", "(IIII)Z"⟩, 35), (⟨"RoundSlackModel", "isInRound", "(I)Z"⟩, 35), (⟨"RoundSlackModel", "mayBe", "(IIII)Z"⟩, 35), (⟨"RoundSlackModel", "makes", "(IIII)V"⟩, 35), (⟨"RoundSlackModel", "crosses", "(IIII)V"⟩, 35), (⟨"RoundSlackModel", "turns", "(III)V"⟩, 35), (⟨"RoundSlackModel", "isOtherwise", "()Z"⟩, 35), (⟨"RoundSlackModel", "gained", "()I"⟩, 35), (⟨"RoundSlackModel", "goesOver", "(I)V"⟩, 35)]
theorem lw_r5 : ∀ q ∈ lw_privs_5, lw_okq q := List.forall_mem_cons.mpr ⟨lw_p64, List.forall_mem_cons.mpr ⟨lw_p65, List.forall_mem_cons.mpr ⟨lw_p66, List.forall_mem_cons.mpr ⟨lw_p67, List.forall_mem_cons.mpr ⟨lw_p68, List.forall_mem_cons.mpr ⟨lw_p69, List.forall_mem_cons.mpr ⟨lw_p70, List.forall_mem_cons.mpr ⟨lw_p71, List.forall_mem_cons.mpr ⟨lw_p72, List.forall_mem_cons.mpr ⟨lw_p73, List.forall_mem_cons.mpr ⟨lw_p74, List.forall_mem_cons.mpr ⟨lw_p75, List.forall_mem_cons.mpr ⟨lw_p76, List.forall_mem_cons.mpr ⟨lw_p77, List.forall_mem_cons.mpr ⟨lw_p78, List.forall_mem_cons.mpr ⟨lw_p79, fun _ h => absurd h List.not_mem_nil⟩⟩⟩⟩⟩⟩⟩⟩⟩⟩⟩⟩⟩⟩⟩⟩
theorem lw_p80 : lw_okq (⟨"RoundSlackModel", "goesBy", "(IIII)V"⟩, 35) := ⟨⟨by decide +kernel, by decide +kernel⟩, List.mem_of_getElem? (i := 943) (by decide +kernel), List.mem_of_getElem? (i := 1423) (by decide +kernel), List.mem_of_getElem? (i := 1424) (by decide +kernel)⟩
theorem lw_p81 : lw_okq (⟨"RoundSlackModel", "descends", "(I)I"⟩, 35) := ⟨⟨by decide +kernel, by decide +kernel⟩, List.mem_of_getElem? (i := 943) (by decide +kernel), List.mem_of_getElem? (i := 1435) (by decide +kernel), List.mem_of_getElem? (i := 1436) (by decide +kernel)⟩
theorem lw_p82 : lw_okq (⟨"RoundSlackModel", "prices", "(II)V"⟩, 35) := ⟨⟨by decide +kernel, by decide +kernel⟩, List.mem_of_getElem? (i := 943) (by decide +kernel), List.mem_of_getElem? (i := 1443) (by decide +kernel), List.mem_of_getElem? (i := 1444) (by decide +kernel)⟩
theorem lw_p83 : lw_okq (⟨"RoundSlackModel", "regretOf", "(II)I"⟩, 35) := ⟨⟨by decide +kernel, by decide +kernel⟩, List.mem_of_getElem? (i := 943) (by decide +kernel), List.mem_of_getElem? (i := 1456) (by decide +kernel), List.mem_of_getElem? (i := 1457) (by decide +kernel)⟩
theorem lw_p84 : lw_okq (⟨"RoundSlackModel", "sorts", "(I)V"⟩, 35) := ⟨⟨by decide +kernel, by decide +kernel⟩, List.mem_of_getElem? (i := 943) (by decide +kernel), List.mem_of_getElem? (i := 1460) (by decide +kernel), List.mem_of_getElem? (i := 1461) (by decide +kernel)⟩
theorem lw_p85 : lw_okq (⟨"RoundSlackModel", "firstOf", "(I)I"⟩, 35) := ⟨⟨by decide +kernel, by decide +kernel⟩, List.mem_of_getElem? (i := 943) (by decide +kernel), List.mem_of_getElem? (i := 1468) (by decide +kernel), List.mem_of_getElem? (i := 1469) (by decide +kernel)⟩
theorem lw_p86 : lw_okq (⟨"RoundSlackModel", "fills", "(I)I"⟩, 35) := ⟨⟨by decide +kernel, by decide +kernel⟩, List.mem_of_getElem? (i := 943) (by decide +kernel), List.mem_of_getElem? (i := 1476) (by decide +kernel), List.mem_of_getElem? (i := 1477) (by decide +kernel)⟩
theorem lw_p87 : lw_okq (⟨"RoundSlackModel", "ruins", "(II)I"⟩, 35) := ⟨⟨by decide +kernel, by decide +kernel⟩, List.mem_of_getElem? (i := 943) (by decide +kernel), List.mem_of_getElem? (i := 1484) (by decide +kernel), List.mem_of_getElem? (i := 1485) (by decide +kernel)⟩
theorem lw_p88 : lw_okq (⟨"RoundSlackModel", "nearest", "(I)I"⟩, 35) := ⟨⟨by decide +kernel, by decide +kernel⟩, List.mem_of_getElem? (i := 943) (by decide +kernel), List.mem_of_getElem? (i := 1488) (by decide +kernel), List.mem_of_getElem? (i := 1489) (by decide +kernel)⟩
theorem lw_p89 : lw_okq (⟨"RoundSlackModel", "marksBack", "()V"⟩, 35) := ⟨⟨by decide +kernel, by decide +kernel⟩, List.mem_of_getElem? (i := 943) (by decide +kernel), List.mem_of_getElem? (i := 1497) (by decide +kernel), List.mem_of_getElem? (i := 1498) (by decide +kernel)⟩
theorem lw_p90 : lw_okq (⟨"RoundSlackModel", "leftMany", "()I"⟩, 35) := ⟨⟨by decide +kernel, by decide +kernel⟩, List.mem_of_getElem? (i := 943) (by decide +kernel), List.mem_of_getElem? (i := 1505) (by decide +kernel), List.mem_of_getElem? (i := 1506) (by decide +kernel)⟩
theorem lw_p91 : lw_okq (⟨"RoundSlackModel", "toldPlaces", "(II)I"⟩, 35) := ⟨⟨by decide +kernel, by decide +kernel⟩, List.mem_of_getElem? (i := 943) (by decide +kernel), List.mem_of_getElem? (i := 1532) (by decide +kernel), List.mem_of_getElem? (i := 1533) (by decide +kernel)⟩
def lw_privs_6 : List (MethodName × Nat) := [(⟨"RoundSlackModel", "goesBy", "(IIII)V"⟩, 35), (⟨"RoundSlackModel", "descends", "(I)I"⟩, 35), (⟨"RoundSlackModel", "prices", "(II)V"⟩, 35), (⟨"RoundSlackModel", "regretOf", "(II)I"⟩, 35), (⟨"RoundSlackModel", "sorts", "(I)V"⟩, 35), (⟨"RoundSlackModel", "firstOf", "(I)I"⟩, 35), (⟨"RoundSlackModel", "fills", "(I)I"⟩, 35), (⟨"RoundSlackModel", "ruins", "(II)I"⟩, 35), (⟨"RoundSlackModel", "nearest", "(I)I"⟩, 35), (⟨"RoundSlackModel", "marksBack", "()V"⟩, 35), (⟨"RoundSlackModel", "leftMany", "()I"⟩, 35), (⟨"RoundSlackModel", "toldPlaces", "(II)I"⟩, 35)]
theorem lw_r6 : ∀ q ∈ lw_privs_6, lw_okq q := List.forall_mem_cons.mpr ⟨lw_p80, List.forall_mem_cons.mpr ⟨lw_p81, List.forall_mem_cons.mpr ⟨lw_p82, List.forall_mem_cons.mpr ⟨lw_p83, List.forall_mem_cons.mpr ⟨lw_p84, List.forall_mem_cons.mpr ⟨lw_p85, List.forall_mem_cons.mpr ⟨lw_p86, List.forall_mem_cons.mpr ⟨lw_p87, List.forall_mem_cons.mpr ⟨lw_p88, List.forall_mem_cons.mpr ⟨lw_p89, List.forall_mem_cons.mpr ⟨lw_p90, List.forall_mem_cons.mpr ⟨lw_p91, fun _ h => absurd h List.not_mem_nil⟩⟩⟩⟩⟩⟩⟩⟩⟩⟩⟩⟩
def lw_privs : List (MethodName × Nat) := lw_privs_1 ++ (lw_privs_2 ++ (lw_privs_3 ++ (lw_privs_4 ++ (lw_privs_5 ++ (lw_privs_6)))))
def lw_tbl : List Cond := k2_sels lw_privs ++ tables_1
theorem lw_privs_ok : ∀ q ∈ lw_privs, lw_okq q := by
  show ∀ q ∈ lw_privs_1 ++ (lw_privs_2 ++ (lw_privs_3 ++ (lw_privs_4 ++ (lw_privs_5 ++ (lw_privs_6))))), lw_okq q
  exact List.forall_mem_append.mpr ⟨lw_r1, List.forall_mem_append.mpr ⟨lw_r2, List.forall_mem_append.mpr ⟨lw_r3, List.forall_mem_append.mpr ⟨lw_r4, List.forall_mem_append.mpr ⟨lw_r5, lw_r6⟩⟩⟩⟩⟩
/-! classes, fields, types (out of claim/NAMES.whole.lean.txt) -/
def RX0 : String := "RoundSlack$Book"
def TX0 : u_T := fun k => match k with
  | 0 => ("RoundSlack$Book", "count", "I", false)
  | 1 => ("RoundSlack$Book", "x", "[I", true)
  | 2 => ("RoundSlack$Book", "y", "[I", true)
  | 3 => ("RoundSlack$Book", "open", "[I", true)
  | 4 => ("RoundSlack$Book", "close", "[I", true)
  | 5 => ("RoundSlack$Book", "service", "[I", true)
  | 6 => ("RoundSlack$Book", "down", "[I", true)
  | 7 => ("RoundSlack$Book", "up", "[I", true)
  | 8 => ("RoundSlack$Book", "penalty", "[I", true)
  | _ => ("RoundSlack$Book", "ways", "[[I", true)
def tyX0 : Nat → FieldType := fun k => match k with
  | 0 => .int
  | 1 => .array .int
  | 2 => .array .int
  | 3 => .array .int
  | 4 => .array .int
  | 5 => .array .int
  | 6 => .array .int
  | 7 => .array .int
  | 8 => .array .int
  | _ => .array (.array .int)
theorem nmX0 : ∀ a, a < 10 → ∀ b, b < 10 → a ≠ b → (TX0 a).2.1 ≠ (TX0 b).2.1 := by decide +kernel
theorem tyX0_ok : ∀ k, k < 10 → parseFieldDescriptor (TX0 k).2.2.1 = some (tyX0 k) := by decide +kernel
set_option maxRecDepth 20000 in
theorem inX0 : ∀ w ∈ u_ws RX0 TX0 10, w ∈ lw_tbl := fun w h => by
  have e : u_ws RX0 TX0 10 = ([160, 162, 164, 166, 168, 170, 172, 174, 176, 178] : List Nat).filterMap (fun i => lw_tbl[i]?) := by decide +kernel
  rw [e] at h
  obtain ⟨i, -, hi⟩ := List.mem_filterMap.mp h
  exact List.mem_of_getElem? hi
def RX1 : String := "RoundSlack$Drive"
def TX1 : u_T := fun k => match k with
  | 0 => ("RoundSlack$Drive", "book", "LRoundSlack$Book;", true)
  | 1 => ("RoundSlack$Drive", "fleet", "LRoundSlack$Fleet;", true)
  | 2 => ("RoundSlack$Drive", "comes", "I", false)
  | 3 => ("RoundSlack$Drive", "begins", "I", false)
  | 4 => ("RoundSlack$Drive", "leaves", "I", false)
  | _ => ("RoundSlack$Drive", "aboard", "I", false)
def tyX1 : Nat → FieldType := fun k => match k with
  | 0 => .object "RoundSlack$Book"
  | 1 => .object "RoundSlack$Fleet"
  | 2 => .int
  | 3 => .int
  | 4 => .int
  | _ => .int
theorem nmX1 : ∀ a, a < 6 → ∀ b, b < 6 → a ≠ b → (TX1 a).2.1 ≠ (TX1 b).2.1 := by decide +kernel
theorem tyX1_ok : ∀ k, k < 6 → parseFieldDescriptor (TX1 k).2.2.1 = some (tyX1 k) := by decide +kernel
set_option maxRecDepth 20000 in
theorem inX1 : ∀ w ∈ u_ws RX1 TX1 6, w ∈ lw_tbl := fun w h => by
  have e : u_ws RX1 TX1 6 = ([328, 330, 332, 334, 336, 338] : List Nat).filterMap (fun i => lw_tbl[i]?) := by decide +kernel
  rw [e] at h
  obtain ⟨i, -, hi⟩ := List.mem_filterMap.mp h
  exact List.mem_of_getElem? hi
def RX2 : String := "RoundSlack$Filling"
def TX2 : u_T := fun k => match k with
  | 0 => ("RoundSlack$Filling", "book", "LRoundSlack$Book;", true)
  | 1 => ("RoundSlack$Filling", "rounds", "LRoundSlack$Rounds;", true)
  | 2 => ("RoundSlack$Filling", "referee", "LRoundSlack$Judge;", true)
  | 3 => ("RoundSlack$Filling", "least", "[I", true)
  | 4 => ("RoundSlack$Filling", "place", "[I", true)
  | 5 => ("RoundSlack$Filling", "sorted", "[I", true)
  | 6 => ("RoundSlack$Filling", "chosen", "I", false)
  | 7 => ("RoundSlack$Filling", "chosenVan", "I", false)
  | _ => ("RoundSlack$Filling", "chosenPlace", "I", false)
def tyX2 : Nat → FieldType := fun k => match k with
  | 0 => .object "RoundSlack$Book"
  | 1 => .object "RoundSlack$Rounds"
  | 2 => .object "RoundSlack$Judge"
  | 3 => .array .int
  | 4 => .array .int
  | 5 => .array .int
  | 6 => .int
  | 7 => .int
  | _ => .int
theorem nmX2 : ∀ a, a < 9 → ∀ b, b < 9 → a ≠ b → (TX2 a).2.1 ≠ (TX2 b).2.1 := by decide +kernel
theorem tyX2_ok : ∀ k, k < 9 → parseFieldDescriptor (TX2 k).2.2.1 = some (tyX2 k) := by decide +kernel
set_option maxRecDepth 20000 in
theorem inX2 : ∀ w ∈ u_ws RX2 TX2 9, w ∈ lw_tbl := fun w h => by
  have e : u_ws RX2 TX2 9 = ([411, 413, 415, 417, 419, 421, 423, 425, 427] : List Nat).filterMap (fun i => lw_tbl[i]?) := by decide +kernel
  rw [e] at h
  obtain ⟨i, -, hi⟩ := List.mem_filterMap.mp h
  exact List.mem_of_getElem? hi
def RX3 : String := "RoundSlack$Fleet"
def TX3 : u_T := fun k => match k with
  | 0 => ("RoundSlack$Fleet", "capacity", "[I", true)
  | 1 => ("RoundSlack$Fleet", "start", "[I", true)
  | 2 => ("RoundSlack$Fleet", "end", "[I", true)
  | _ => ("RoundSlack$Fleet", "prices", "[I", true)
def tyX3 : Nat → FieldType := fun k => match k with
  | 0 => .array .int
  | 1 => .array .int
  | 2 => .array .int
  | _ => .array .int
theorem nmX3 : ∀ a, a < 4 → ∀ b, b < 4 → a ≠ b → (TX3 a).2.1 ≠ (TX3 b).2.1 := by decide +kernel
theorem tyX3_ok : ∀ k, k < 4 → parseFieldDescriptor (TX3 k).2.2.1 = some (tyX3 k) := by decide +kernel
set_option maxRecDepth 20000 in
theorem inX3 : ∀ w ∈ u_ws RX3 TX3 4, w ∈ lw_tbl := fun w h => by
  have e : u_ws RX3 TX3 4 = ([202, 204, 206, 208] : List Nat).filterMap (fun i => lw_tbl[i]?) := by decide +kernel
  rw [e] at h
  obtain ⟨i, -, hi⟩ := List.mem_filterMap.mp h
  exact List.mem_of_getElem? hi
def RX4 : String := "RoundSlack$Judge"
def TX4 : u_T := fun k => match k with
  | 0 => ("RoundSlack$Judge", "book", "LRoundSlack$Book;", true)
  | 1 => ("RoundSlack$Judge", "fleet", "LRoundSlack$Fleet;", true)
  | _ => ("RoundSlack$Judge", "part", "LRoundSlack$Piece;", true)
def tyX4 : Nat → FieldType := fun k => match k with
  | 0 => .object "RoundSlack$Book"
  | 1 => .object "RoundSlack$Fleet"
  | _ => .object "RoundSlack$Piece"
theorem nmX4 : ∀ a, a < 3 → ∀ b, b < 3 → a ≠ b → (TX4 a).2.1 ≠ (TX4 b).2.1 := by decide +kernel
theorem tyX4_ok : ∀ k, k < 3 → parseFieldDescriptor (TX4 k).2.2.1 = some (tyX4 k) := by decide +kernel
set_option maxRecDepth 20000 in
theorem inX4 : ∀ w ∈ u_ws RX4 TX4 3, w ∈ lw_tbl := fun w h => by
  have e : u_ws RX4 TX4 3 = ([305, 307, 309] : List Nat).filterMap (fun i => lw_tbl[i]?) := by decide +kernel
  rw [e] at h
  obtain ⟨i, -, hi⟩ := List.mem_filterMap.mp h
  exact List.mem_of_getElem? hi
def RX5 : String := "RoundSlack$Moves"
def TX5 : u_T := fun k => match k with
  | 0 => ("RoundSlack$Moves", "rounds", "LRoundSlack$Rounds;", true)
  | 1 => ("RoundSlack$Moves", "referee", "LRoundSlack$Judge;", true)
  | 2 => ("RoundSlack$Moves", "costNow", "[I", true)
  | 3 => ("RoundSlack$Moves", "then", "LRoundSlack$Rounds;", true)
  | 4 => ("RoundSlack$Moves", "oneVan", "I", false)
  | 5 => ("RoundSlack$Moves", "otherVan", "I", false)
  | 6 => ("RoundSlack$Moves", "gained", "I", false)
  | 7 => ("RoundSlack$Moves", "fit", "I", false)
  | 8 => ("RoundSlack$Moves", "bestA", "I", false)
  | 9 => ("RoundSlack$Moves", "bestB", "I", false)
  | 10 => ("RoundSlack$Moves", "bestC", "I", false)
  | _ => ("RoundSlack$Moves", "bestGain", "I", false)
def tyX5 : Nat → FieldType := fun k => match k with
  | 0 => .object "RoundSlack$Rounds"
  | 1 => .object "RoundSlack$Judge"
  | 2 => .array .int
  | 3 => .object "RoundSlack$Rounds"
  | 4 => .int
  | 5 => .int
  | 6 => .int
  | 7 => .int
  | 8 => .int
  | 9 => .int
  | 10 => .int
  | _ => .int
theorem nmX5 : ∀ a, a < 12 → ∀ b, b < 12 → a ≠ b → (TX5 a).2.1 ≠ (TX5 b).2.1 := by decide +kernel
theorem tyX5_ok : ∀ k, k < 12 → parseFieldDescriptor (TX5 k).2.2.1 = some (tyX5 k) := by decide +kernel
set_option maxRecDepth 20000 in
theorem inX5 : ∀ w ∈ u_ws RX5 TX5 12, w ∈ lw_tbl := fun w h => by
  have e : u_ws RX5 TX5 12 = ([368, 370, 372, 374, 376, 378, 380, 382, 384, 386, 388, 390] : List Nat).filterMap (fun i => lw_tbl[i]?) := by decide +kernel
  rw [e] at h
  obtain ⟨i, -, hi⟩ := List.mem_filterMap.mp h
  exact List.mem_of_getElem? hi
def RX6 : String := "RoundSlack$Piece"
def TX6 : u_T := fun k => match k with
  | 0 => ("RoundSlack$Piece", "book", "LRoundSlack$Book;", true)
  | 1 => ("RoundSlack$Piece", "last", "I", false)
  | 2 => ("RoundSlack$Piece", "early", "I", false)
  | 3 => ("RoundSlack$Piece", "late", "I", false)
  | 4 => ("RoundSlack$Piece", "downs", "I", false)
  | 5 => ("RoundSlack$Piece", "ups", "I", false)
  | 6 => ("RoundSlack$Piece", "duration", "I", false)
  | 7 => ("RoundSlack$Piece", "length", "I", false)
  | 8 => ("RoundSlack$Piece", "top", "I", false)
  | _ => ("RoundSlack$Piece", "inTime", "Z", false)
def tyX6 : Nat → FieldType := fun k => match k with
  | 0 => .object "RoundSlack$Book"
  | 1 => .int
  | 2 => .int
  | 3 => .int
  | 4 => .int
  | 5 => .int
  | 6 => .int
  | 7 => .int
  | 8 => .int
  | _ => .boolean
theorem nmX6 : ∀ a, a < 10 → ∀ b, b < 10 → a ≠ b → (TX6 a).2.1 ≠ (TX6 b).2.1 := by decide +kernel
theorem tyX6_ok : ∀ k, k < 10 → parseFieldDescriptor (TX6 k).2.2.1 = some (tyX6 k) := by decide +kernel
set_option maxRecDepth 20000 in
theorem inX6 : ∀ w ∈ u_ws RX6 TX6 10, w ∈ lw_tbl := fun w h => by
  have e : u_ws RX6 TX6 10 = ([275, 277, 279, 281, 283, 285, 287, 289, 291, 293] : List Nat).filterMap (fun i => lw_tbl[i]?) := by decide +kernel
  rw [e] at h
  obtain ⟨i, -, hi⟩ := List.mem_filterMap.mp h
  exact List.mem_of_getElem? hi
def RX7 : String := "RoundSlack$Reader"
def TX7 : u_T := fun k => match k with
  | 0 => ("RoundSlack$Reader", "tape", "LRoundSlack$Text;", true)
  | 1 => ("RoundSlack$Reader", "at", "I", false)
  | 2 => ("RoundSlack$Reader", "fault", "I", false)
  | _ => ("RoundSlack$Reader", "parts", "[[I", true)
def tyX7 : Nat → FieldType := fun k => match k with
  | 0 => .object "RoundSlack$Text"
  | 1 => .int
  | 2 => .int
  | _ => .array (.array .int)
theorem nmX7 : ∀ a, a < 4 → ∀ b, b < 4 → a ≠ b → (TX7 a).2.1 ≠ (TX7 b).2.1 := by decide +kernel
theorem tyX7_ok : ∀ k, k < 4 → parseFieldDescriptor (TX7 k).2.2.1 = some (tyX7 k) := by decide +kernel
set_option maxRecDepth 20000 in
theorem inX7 : ∀ w ∈ u_ws RX7 TX7 4, w ∈ lw_tbl := fun w h => by
  have e : u_ws RX7 TX7 4 = ([461, 463, 465, 467] : List Nat).filterMap (fun i => lw_tbl[i]?) := by decide +kernel
  rw [e] at h
  obtain ⟨i, -, hi⟩ := List.mem_filterMap.mp h
  exact List.mem_of_getElem? hi
def RX8 : String := "RoundSlack$Rounds"
def TX8 : u_T := fun k => match k with
  | 0 => ("RoundSlack$Rounds", "size", "[I", true)
  | _ => ("RoundSlack$Rounds", "stop", "[[I", true)
def tyX8 : Nat → FieldType := fun k => match k with
  | 0 => .array .int
  | _ => .array (.array .int)
theorem nmX8 : ∀ a, a < 2 → ∀ b, b < 2 → a ≠ b → (TX8 a).2.1 ≠ (TX8 b).2.1 := by decide +kernel
theorem tyX8_ok : ∀ k, k < 2 → parseFieldDescriptor (TX8 k).2.2.1 = some (tyX8 k) := by decide +kernel
set_option maxRecDepth 20000 in
theorem inX8 : ∀ w ∈ u_ws RX8 TX8 2, w ∈ lw_tbl := fun w h => by
  have e : u_ws RX8 TX8 2 = ([230, 232] : List Nat).filterMap (fun i => lw_tbl[i]?) := by decide +kernel
  rw [e] at h
  obtain ⟨i, -, hi⟩ := List.mem_filterMap.mp h
  exact List.mem_of_getElem? hi
def RX9 : String := "RoundSlack$Steps"
def TX9 : u_T := fun k => match k with
  | 0 => ("RoundSlack$Steps", "ring", "[LRoundSlack$Rounds;", true)
  | 1 => ("RoundSlack$Steps", "next", "I", false)
  | _ => ("RoundSlack$Steps", "count", "I", false)
def tyX9 : Nat → FieldType := fun k => match k with
  | 0 => .array (.object "RoundSlack$Rounds")
  | 1 => .int
  | _ => .int
theorem nmX9 : ∀ a, a < 3 → ∀ b, b < 3 → a ≠ b → (TX9 a).2.1 ≠ (TX9 b).2.1 := by decide +kernel
theorem tyX9_ok : ∀ k, k < 3 → parseFieldDescriptor (TX9 k).2.2.1 = some (tyX9 k) := by decide +kernel
set_option maxRecDepth 20000 in
theorem inX9 : ∀ w ∈ u_ws RX9 TX9 3, w ∈ lw_tbl := fun w h => by
  have e : u_ws RX9 TX9 3 = ([248, 250, 252] : List Nat).filterMap (fun i => lw_tbl[i]?) := by decide +kernel
  rw [e] at h
  obtain ⟨i, -, hi⟩ := List.mem_filterMap.mp h
  exact List.mem_of_getElem? hi
def RX10 : String := "RoundSlack$Text"
def TX10 : u_T := fun k => match k with
  | 0 => ("RoundSlack$Text", "bytes", "[B", true)
  | _ => ("RoundSlack$Text", "length", "I", false)
def tyX10 : Nat → FieldType := fun k => match k with
  | 0 => .array .byte
  | _ => .int
theorem nmX10 : ∀ a, a < 2 → ∀ b, b < 2 → a ≠ b → (TX10 a).2.1 ≠ (TX10 b).2.1 := by decide +kernel
theorem tyX10_ok : ∀ k, k < 2 → parseFieldDescriptor (TX10 k).2.2.1 = some (tyX10 k) := by decide +kernel
set_option maxRecDepth 20000 in
theorem inX10 : ∀ w ∈ u_ws RX10 TX10 2, w ∈ lw_tbl := fun w h => by
  have e : u_ws RX10 TX10 2 = ([443, 445] : List Nat).filterMap (fun i => lw_tbl[i]?) := by decide +kernel
  rw [e] at h
  obtain ⟨i, -, hi⟩ := List.mem_filterMap.mp h
  exact List.mem_of_getElem? hi
def RX11 : String := "RoundSlack"
def TX11 : u_T := fun k => match k with
  | 0 => ("RoundSlack", "book", "LRoundSlack$Book;", true)
  | 1 => ("RoundSlack", "fleet", "LRoundSlack$Fleet;", true)
  | 2 => ("RoundSlack", "rounds", "LRoundSlack$Rounds;", true)
  | 3 => ("RoundSlack", "bookOfImage", "LRoundSlack$Book;", true)
  | 4 => ("RoundSlack", "fleetOfImage", "LRoundSlack$Fleet;", true)
  | 5 => ("RoundSlack", "roundsOfImage", "LRoundSlack$Rounds;", true)
  | 6 => ("RoundSlack", "imageTaken", "Z", false)
  | 7 => ("RoundSlack", "aside", "LRoundSlack$Rounds;", true)
  | 8 => ("RoundSlack", "steps", "LRoundSlack$Steps;", true)
  | 9 => ("RoundSlack", "part", "LRoundSlack$Piece;", true)
  | 10 => ("RoundSlack", "referee", "LRoundSlack$Judge;", true)
  | 11 => ("RoundSlack", "drive", "LRoundSlack$Drive;", true)
  | 12 => ("RoundSlack", "moves", "LRoundSlack$Moves;", true)
  | 13 => ("RoundSlack", "filling", "LRoundSlack$Filling;", true)
  | 14 => ("RoundSlack", "tape", "LRoundSlack$Text;", true)
  | 15 => ("RoundSlack", "sheet", "LRoundSlack$Text;", true)
  | 16 => ("RoundSlack", "reader", "LRoundSlack$Reader;", true)
  | 17 => ("RoundSlack", "rowInts", "[[I", true)
  | _ => ("RoundSlack", "rowSize", "[I", true)
def tyX11 : Nat → FieldType := fun k => match k with
  | 0 => .object "RoundSlack$Book"
  | 1 => .object "RoundSlack$Fleet"
  | 2 => .object "RoundSlack$Rounds"
  | 3 => .object "RoundSlack$Book"
  | 4 => .object "RoundSlack$Fleet"
  | 5 => .object "RoundSlack$Rounds"
  | 6 => .boolean
  | 7 => .object "RoundSlack$Rounds"
  | 8 => .object "RoundSlack$Steps"
  | 9 => .object "RoundSlack$Piece"
  | 10 => .object "RoundSlack$Judge"
  | 11 => .object "RoundSlack$Drive"
  | 12 => .object "RoundSlack$Moves"
  | 13 => .object "RoundSlack$Filling"
  | 14 => .object "RoundSlack$Text"
  | 15 => .object "RoundSlack$Text"
  | 16 => .object "RoundSlack$Reader"
  | 17 => .array (.array .int)
  | _ => .array .int
theorem nmX11 : ∀ a, a < 19 → ∀ b, b < 19 → a ≠ b → (TX11 a).2.1 ≠ (TX11 b).2.1 := by decide +kernel
theorem tyX11_ok : ∀ k, k < 19 → parseFieldDescriptor (TX11 k).2.2.1 = some (tyX11 k) := by decide +kernel
set_option maxRecDepth 20000 in
theorem inX11 : ∀ w ∈ u_ws RX11 TX11 19, w ∈ lw_tbl := fun w h => by
  have e : u_ws RX11 TX11 19 = ([490, 492, 494, 496, 498, 500, 502, 504, 506, 508, 510, 512, 514, 516, 518, 520, 522, 524, 526] : List Nat).filterMap (fun i => lw_tbl[i]?) := by decide +kernel
  rw [e] at h
  obtain ⟨i, -, hi⟩ := List.mem_filterMap.mp h
  exact List.mem_of_getElem? hi
def RX12 : String := "RoundSlackModel"
def TX12 : u_T := fun k => match k with
  | 0 => ("RoundSlackModel", "g", "[I", true)
  | 1 => ("RoundSlackModel", "kept", "[I", true)
  | 2 => ("RoundSlackModel", "isKept", "Z", false)
  | 3 => ("RoundSlackModel", "done", "[I", true)
  | 4 => ("RoundSlackModel", "steps", "I", false)
  | 5 => ("RoundSlackModel", "now", "[I", true)
  | 6 => ("RoundSlackModel", "tried", "[I", true)
  | 7 => ("RoundSlackModel", "node", "[I", true)
  | 8 => ("RoundSlackModel", "nodes", "I", false)
  | 9 => ("RoundSlackModel", "comes", "I", false)
  | 10 => ("RoundSlackModel", "begins", "I", false)
  | 11 => ("RoundSlackModel", "leaves", "I", false)
  | 12 => ("RoundSlackModel", "isLate", "Z", false)
  | 13 => ("RoundSlackModel", "tape", "[I", true)
  | 14 => ("RoundSlackModel", "came", "[I", true)
  | 15 => ("RoundSlackModel", "paper", "[I", true)
  | 16 => ("RoundSlackModel", "fed", "I", false)
  | 17 => ("RoundSlackModel", "place", "I", false)
  | 18 => ("RoundSlackModel", "papered", "I", false)
  | 19 => ("RoundSlackModel", "told", "I", false)
  | 20 => ("RoundSlackModel", "before", "[I", true)
  | 21 => ("RoundSlackModel", "tail", "[I", true)
  | 22 => ("RoundSlackModel", "bestA", "I", false)
  | 23 => ("RoundSlackModel", "bestB", "I", false)
  | 24 => ("RoundSlackModel", "bestC", "I", false)
  | 25 => ("RoundSlackModel", "bestGain", "I", false)
  | 26 => ("RoundSlackModel", "mayMany", "I", false)
  | 27 => ("RoundSlackModel", "bestPlace", "I", false)
  | 28 => ("RoundSlackModel", "bestPrice", "I", false)
  | 29 => ("RoundSlackModel", "sorted", "[I", true)
  | 30 => ("RoundSlackModel", "leastPrice", "I", false)
  | 31 => ("RoundSlackModel", "leastVan", "I", false)
  | 32 => ("RoundSlackModel", "leastPlace", "I", false)
  | 33 => ("RoundSlackModel", "count", "[I", true)
  | _ => ("RoundSlackModel", "item", "[I", true)
def tyX12 : Nat → FieldType := fun k => match k with
  | 0 => .array .int
  | 1 => .array .int
  | 2 => .boolean
  | 3 => .array .int
  | 4 => .int
  | 5 => .array .int
  | 6 => .array .int
  | 7 => .array .int
  | 8 => .int
  | 9 => .int
  | 10 => .int
  | 11 => .int
  | 12 => .boolean
  | 13 => .array .int
  | 14 => .array .int
  | 15 => .array .int
  | 16 => .int
  | 17 => .int
  | 18 => .int
  | 19 => .int
  | 20 => .array .int
  | 21 => .array .int
  | 22 => .int
  | 23 => .int
  | 24 => .int
  | 25 => .int
  | 26 => .int
  | 27 => .int
  | 28 => .int
  | 29 => .array .int
  | 30 => .int
  | 31 => .int
  | 32 => .int
  | 33 => .array .int
  | _ => .array .int
theorem nmX12 : ∀ a, a < 35 → ∀ b, b < 35 → a ≠ b → (TX12 a).2.1 ≠ (TX12 b).2.1 := by decide +kernel
theorem tyX12_ok : ∀ k, k < 35 → parseFieldDescriptor (TX12 k).2.2.1 = some (tyX12 k) := by decide +kernel
set_option maxRecDepth 20000 in
theorem inX12 : ∀ w ∈ u_ws RX12 TX12 35, w ∈ lw_tbl := fun w h => by
  have e : u_ws RX12 TX12 35 = ([1075, 1077, 1079, 1081, 1083, 1085, 1087, 1089, 1091, 1093, 1095, 1097, 1099, 1101, 1103, 1105, 1107, 1109, 1111, 1113, 1115, 1117, 1119, 1121, 1123, 1125, 1127, 1129, 1131, 1133, 1135, 1137, 1139, 1141, 1143] : List Nat).filterMap (fun i => lw_tbl[i]?) := by decide +kernel
  rw [e] at h
  obtain ⟨i, -, hi⟩ := List.mem_filterMap.mp h
  exact List.mem_of_getElem? hi
abbrev vwCl : List vw_C := [(RX0, TX0, 10), (RX1, TX1, 6), (RX2, TX2, 9), (RX3, TX3, 4), (RX4, TX4, 3), (RX5, TX5, 12), (RX6, TX6, 10), (RX7, TX7, 4), (RX8, TX8, 2), (RX9, TX9, 3), (RX10, TX10, 2), (RX11, TX11, 19), (RX12, TX12, 35)]
def RL : String := "RoundSlackLaw"
def am_names : List String := [RX0, RX1, RX2, RX3, RX4, RX5, RX6, RX7, RX8, RX9, RX10, RX11, RX12, RL]
def lw_gt : List Cond := lw_tbl.filter goodWord
end
section
/-! AM: an abstract machine over whole numbers; a step is 'none' where the machine would throw or a number would leave its range -/
abbrev AV : Type := Int ⊕ (Int ⊕ Nat)
abbrev vI (x : Int) : AV := Sum.inl x
abbrev vL (x : Int) : AV := Sum.inr (Sum.inl x)
abbrev vR (o : Nat) : AV := Sum.inr (Sum.inr o)
abbrev vU : AV := vL 0
abbrev AO : Type := Nat × Nat × List Nat
abbrev AH : Type := (Nat → Nat → Int) × List AO
abbrev RI : Type := Nat × Nat × Int × List (Int × Nat)
abbrev inR (x : Int) : Prop := -2147483648 ≤ x ∧ x ≤ 2147483647
abbrev inL (x : Int) : Prop := -9223372036854775808 ≤ x ∧ x ≤ 9223372036854775807
def iup (I : Nat → Nat → Int) (o k : Nat) (x : Int) : Nat → Nat → Int := fun o' k' => if o' = o ∧ k' = k then x else I o' k'
def iclr (I : Nat → Nat → Int) (n : Nat) : Nat → Nat → Int := fun o' k' => if n ≤ o' ∧ o' < 1000 then 0 else I o' k'
def icp (I : Nat → Nat → Int) (src sp dst dp n : Nat) : Nat → Nat → Int := fun o' k' => if o' = dst ∧ dp ≤ k' ∧ k' < dp + n then I src (sp + (k' - dp)) else I o' k'
def okRefs (n : Nat) (l : List AV) : Bool := l.all (fun v => match v with | .inr (.inr o) => decide (o < n ∨ 1000 ≤ o) | _ => true)
def okS (S : List AO) : Bool := S.all (fun q => q.2.2.all (fun r => decide (r < S.length ∨ r = 3000)))
def wcat (l : List AV) : Nat := (l.map (fun v => match v with | .inr (.inl _) => 2 | _ => 1)).sum
def bop (a : Nat) (x y : Int) : Option Int :=
  if a = 0 then (if inR (x + y) then some (x + y) else none)
  else if a = 1 then (if inR (x - y) then some (x - y) else none)
  else if a = 2 then (if inR (x * y) then some (x * y) else none)
  else if a = 3 then (if y ≠ 0 ∧ inR (x.tdiv y) then some (x.tdiv y) else none)
  else if a = 4 then (if y ≠ 0 ∧ inR (x.tdiv y) then some (x.tmod y) else none)
  else if a = 5 then some (Int32.ofInt x <<< (Int32.ofInt y &&& 31)).toInt
  else if a = 6 then some (Int32.ofInt x >>> (Int32.ofInt y &&& 31)).toInt
  else if a = 7 then some (Int32.ofInt x &&& Int32.ofInt y).toInt
  else if a = 8 then some (Int32.ofInt x ||| Int32.ofInt y).toInt
  else if a = 9 then some (Int32.ofInt x ^^^ Int32.ofInt y).toInt
  else none
abbrev cop (b : Nat) (x y : Int) : Prop :=
  if b = 0 then x = y else if b = 1 then ¬ x = y else if b = 2 then x < y else if b = 3 then y ≤ x else if b = 4 then y < x else x ≤ y
def tlook : List (Int × Nat) → Int → Nat → Nat
  | [], _, d => d
  | q :: l, x, d => if x = q.1 then q.2 else tlook l x d
abbrev PF : Type := Nat → Int → List (Int × Nat) → Nat → List AV → List AV → AH → Option (Nat × List AV × List AV × AH)
def p0 : PF := fun a b tb np ls st h => (if inR b then some (np, ls, vI b :: st, h) else none)
def p1 : PF := fun a b tb np ls st h => (if inL b then some (np, ls, vL b :: st, h) else none)
def p2 : PF := fun a b tb np ls st h => (match ls[a]? with | some (.inl x) => some (np, ls, vI x :: st, h) | _ => none)
def p3 : PF := fun a b tb np ls st h => (match ls[a]? with | some (.inr (.inr o)) => some (np, ls, vR o :: st, h) | _ => none)
def p4 : PF := fun a b tb np ls st h => (match st with | .inl x :: r => (if a < ls.length then some (np, ls.set a (vI x), r, h) else none) | _ => none)
def p5 : PF := fun a b tb np ls st h => (match st with | .inr (.inr o) :: r => (if a < ls.length then some (np, ls.set a (vR o), r, h) else none) | _ => none)
def p6 : PF := fun a b tb np ls st h => (match ls[a]? with | some (.inl x) => (if inR (x + b) then some (np, ls.set a (vI (x + b)), st, h) else none) | _ => none)
def p7 : PF := fun a b tb np ls st h => (match st with | .inr (.inr o) :: r => (match h.2[o]? with | some (kd, sz, _) => (if kd = a ∧ b.toNat < sz then some (np, ls, vI (h.1 o b.toNat) :: r, h) else none) | none => none) | _ => none)
def p8 : PF := fun a b tb np ls st h => (match st with | .inr (.inr o) :: r => (match h.2[o]? with | some (kd, sz, rf) => (match rf[b.toNat]? with | some q => (if kd = a ∧ b.toNat < sz ∧ q < 1000 then some (np, ls, vR q :: r, h) else none) | none => none) | none => none) | _ => none)
def p9 : PF := fun a b tb np ls st h => (match st with | .inl x :: .inr (.inr o) :: r => (match h.2[o]? with | some (kd, sz, _) => (if kd = a ∧ b.toNat < sz ∧ (tb = [] ∨ x = 0 ∨ x = 1) then some (np, ls, r, (iup h.1 o b.toNat x, h.2)) else none) | none => none) | _ => none)
def p10 : PF := fun a b tb np ls st h => (match st with | .inr (.inr q) :: .inr (.inr o) :: r => (match h.2[o]? with | some (kd, sz, rf) => (if kd = a ∧ b.toNat < sz ∧ q < h.2.length ∧ b.toNat < rf.length then some (np, ls, r, (h.1, h.2.set o (kd, sz, rf.set b.toNat q))) else none) | none => none) | _ => none)
def p11 : PF := fun a b tb np ls st h => (match st with | .inl i :: .inr (.inr o) :: r => (match h.2[o]? with | some (kd, sz, _) => (if kd = a ∧ 0 ≤ i ∧ i < sz then some (np, ls, vI (h.1 o i.toNat) :: r, h) else none) | none => none) | _ => none)
def p12 : PF := fun a b tb np ls st h => (match st with | .inl i :: .inr (.inr o) :: r => (match h.2[o]? with | some (kd, sz, rf) => (match rf[i.toNat]? with | some q => (if (kd = 102 ∨ kd = 103) ∧ 0 ≤ i ∧ i < sz ∧ q < 1000 then some (np, ls, vR q :: r, h) else none) | none => none) | none => none) | _ => none)
def p13 : PF := fun a b tb np ls st h => (match st with | .inl x :: .inl i :: .inr (.inr o) :: r => (match h.2[o]? with | some (kd, sz, _) => (if kd = a ∧ 0 ≤ i ∧ i < sz ∧ (a = 100 ∨ (-128 ≤ x ∧ x ≤ 127)) then some (np, ls, r, (iup h.1 o i.toNat x, h.2)) else none) | none => none) | _ => none)
def p14 : PF := fun a b tb np ls st h => (match st with | .inr (.inr q) :: .inl i :: .inr (.inr o) :: r => (match h.2[o]?, h.2[q]? with | some (kd, sz, rf), some (kq, _, _) => (if kd = 103 ∧ kq = 8 ∧ 0 ≤ i ∧ i < sz ∧ i.toNat < rf.length then some (np, ls, r, (h.1, h.2.set o (kd, sz, rf.set i.toNat q))) else none) | _, _ => none) | _ => none)
def p15 : PF := fun a b tb np ls st h => (match st with | .inr (.inr o) :: r => (match h.2[o]? with | some (kd, sz, _) => (if 100 ≤ kd ∧ kd ≤ 103 ∧ sz ≤ 100000 then some (np, ls, vI sz :: r, h) else none) | none => none) | _ => none)
def p16 : PF := fun a b tb np ls st h => (match st with | .inl y :: .inl x :: r => (match bop a x y with | some z => some (np, ls, vI z :: r, h) | none => none) | _ => none)
def p17 : PF := fun a b tb np ls st h => (match st with | .inl x :: r => (if -128 ≤ x ∧ x ≤ 127 then some (np, ls, vI x :: r, h) else none) | _ => none)
def p18 : PF := fun a b tb np ls st h => (match st with | .inl x :: r => some (np, ls, vL x :: r, h) | _ => none)
def p19 : PF := fun a b tb np ls st h => (match st with | .inr (.inl y) :: .inr (.inl x) :: r => some (np, ls, vI (if y < x then 1 else if x = y then 0 else -1) :: r, h) | _ => none)
def p20 : PF := fun a b tb np ls st h => (match st with | .inl x :: r => some ((if cop a x 0 then b.toNat else np), ls, r, h) | _ => none)
def p21 : PF := fun a b tb np ls st h => (match st with | .inl y :: .inl x :: r => some ((if cop a x y then b.toNat else np), ls, r, h) | _ => none)
def p22 : PF := fun a b tb np ls st h => some (b.toNat, ls, st, h)
def p23 : PF := fun a b tb np ls st h => (match st with | .inl x :: r => some (tlook tb x b.toNat, ls, r, h) | _ => none)
def p24 : PF := fun a b tb np ls st h => (match st with | .inl x :: r => some (np, ls, vI x :: vI x :: r, h) | .inr (.inr o) :: r => some (np, ls, vR o :: vR o :: r, h) | _ => none)
def p25 : PF := fun a b tb np ls st h => (match st with | .inl y :: .inr (.inr o) :: r => some (np, ls, vI y :: vR o :: vI y :: vR o :: r, h) | _ => none)
def p26 : PF := fun a b tb np ls st h => (match st with | .inl _ :: r => some (np, ls, r, h) | _ => none)
def p27 : PF := fun a b tb np ls st h => (if h.2.length < 1000 ∧ okS h.2 = true ∧ okRefs h.2.length ls = true ∧ okRefs h.2.length st = true then some (np, ls, vR h.2.length :: st, (iclr h.1 h.2.length, h.2 ++ [(a, b.toNat, List.replicate b.toNat 3000)])) else none)
def p28 : PF := fun a b tb np ls st h => (match st with | .inl n :: r => (if 0 ≤ n ∧ n ≤ 100000 ∧ h.2.length < 1000 ∧ okS h.2 = true ∧ okRefs h.2.length ls = true ∧ okRefs h.2.length r = true then some (np, ls, vR h.2.length :: r, (iclr h.1 h.2.length, h.2 ++ [(a, n.toNat, [])])) else none) | _ => none)
def p29 : PF := fun a b tb np ls st h => (match st with | .inl n :: r => (if 0 ≤ n ∧ n ≤ 100000 ∧ h.2.length < 1000 ∧ okS h.2 = true ∧ okRefs h.2.length ls = true ∧ okRefs h.2.length r = true then some (np, ls, vR h.2.length :: r, (iclr h.1 h.2.length, h.2 ++ [(103, n.toNat, List.replicate n.toNat 3000)])) else none) | _ => none)
def p30 : PF := fun a b tb np ls st h => (match st with | .inl k :: .inl n :: r => (if 0 ≤ n ∧ n ≤ 900 ∧ 0 ≤ k ∧ k ≤ 1000 ∧ h.2.length + 1 + n.toNat ≤ 1000 ∧ okS h.2 = true ∧ okRefs h.2.length ls = true ∧ okRefs h.2.length r = true then some (np, ls, vR h.2.length :: r, (iclr h.1 h.2.length, (h.2 ++ [(102, n.toNat, (List.range n.toNat).map (fun i => h.2.length + 1 + i))]) ++ List.replicate n.toNat (100, k.toNat, []))) else none) | _ => none)
def p31 : PF := fun a b tb np ls st h => (match st with | .inl x :: r => (if inR (-x) ∧ wcat r ≤ 8 then some (np, ls, vI (if 0 ≤ x then x else -x) :: r, h) else none) | _ => none)
def p32 : PF := fun a b tb np ls st h => (match st with | .inl y :: .inl x :: r => (if wcat r ≤ 8 then some (np, ls, vI (if x < y then y else x) :: r, h) else none) | _ => none)
def p33 : PF := fun a b tb np ls st h => (match st with | .inl y :: .inl x :: r => (if wcat r ≤ 8 then some (np, ls, vI (if y < x then y else x) :: r, h) else none) | _ => none)
def p34 : PF := fun a b tb np ls st h => (match st with | .inl n :: .inl dp :: .inr (.inr d) :: .inl sp :: .inr (.inr c) :: r => (match h.2[c]?, h.2[d]? with | some (kc, zc, _), some (kd, zd, _) => (if kc = 100 ∧ kd = 100 ∧ 0 ≤ sp ∧ 0 ≤ dp ∧ 0 ≤ n ∧ sp + n ≤ zc ∧ dp + n ≤ zd ∧ wcat r ≤ 8 then some (np, ls, r, (icp h.1 c sp.toNat d dp.toNat n.toNat, h.2)) else none) | _, _ => none) | _ => none)
def p35 : PF := fun a b tb np ls st h => (match st with | .inr (.inr _) :: r => (if wcat r ≤ 8 then some (np, ls, r, h) else none) | _ => none)
def p36 : PF := fun a b tb np ls st h => (match st with | .inl i :: .inr (.inr o) :: r => (if o = 1000 ∧ 0 ≤ i ∧ i < h.1 1001 0 then some (np, ls, vI (h.1 1000 i.toNat) :: r, h) else none) | _ => none)
def p37 : PF := fun a b tb np ls st h => (match st with | .inr (.inr o) :: r => (if o = 1000 then some (np, ls, vI (h.1 1001 0) :: r, h) else none) | _ => none)
def pfs : List PF := [p0, p1, p2, p3, p4, p5, p6, p7, p8, p9, p10, p11, p12, p13, p14, p15, p16, p17, p18, p19, p20, p21, p22, p23, p24, p25, p26, p27, p28, p29, p30, p31, p32, p33, p34, p35, p36, p37]
def pstep (op a : Nat) (b : Int) (tb : List (Int × Nat)) (np : Nat) (ls st : List AV) (h : AH) : Option (Nat × List AV × List AV × AH) := match pfs[op]? with | some f => f a b tb np ls st h | none => none
/-! what a step keeps -/
def okV (v : AV) : Prop := match v with | .inl x => inR x | .inr (.inl x) => inL x | .inr (.inr _) => True
def okL (l : List AV) : Prop := ∀ v ∈ l, okV v
def okI (I : Nat → Nat → Int) : Prop := ∀ o k, inR (I o k)
def sl (S : List AO) : Nat := (S.map (fun q => q.2.1)).sum
theorem okL_cons {v : AV} {l : List AV} : okL (v :: l) ↔ okV v ∧ okL l := by simp [okL]
theorem okL_nil : okL [] := by simp [okL]
theorem okL_app {a b : List AV} : okL (a ++ b) ↔ okL a ∧ okL b := by
  simp only [okL, List.mem_append]
  exact ⟨fun h => ⟨fun v hv => h v (Or.inl hv), fun v hv => h v (Or.inr hv)⟩, fun h v hv => hv.elim (h.1 v) (h.2 v)⟩
theorem okL_get {l : List AV} {k : Nat} {v : AV} (h : okL l) (hk : l[k]? = some v) : okV v := h v (List.mem_of_getElem? hk)
theorem okL_set {l : List AV} {k : Nat} {v : AV} (h : okL l) (hv : okV v) : okL (l.set k v) := fun w hw => by
  rcases List.mem_or_eq_of_mem_set hw with h1 | h1
  · exact h w h1
  · rw [h1]; exact hv
theorem okI_up {I : Nat → Nat → Int} {o k : Nat} {x : Int} (h : okI I) (hx : inR x) : okI (iup I o k x) := fun o' k' => by
  unfold iup
  split
  · exact hx
  · exact h _ _
theorem okI_clr {I : Nat → Nat → Int} {n : Nat} (h : okI I) : okI (iclr I n) := fun o' k' => by
  unfold iclr
  split
  · exact ⟨by decide, by decide⟩
  · exact h _ _
theorem okI_cp {I : Nat → Nat → Int} {a b c d n : Nat} (h : okI I) : okI (icp I a b c d n) := fun o' k' => by
  unfold icp
  split <;> exact h _ _
theorem i32_in (x : Int32) : inR x.toInt := ⟨by have := x.le_toInt; omega, by have := x.toInt_lt; omega⟩
theorem bop_in {a : Nat} {x y z : Int} (hx : inR x) (hy : inR y) (h : bop a x y = some z) : inR z := by
  unfold bop at h
  repeat' split at h
  all_goals first
    | (cases h; assumption)
    | (cases h; exact i32_in _)
    | (cases h; rename_i hh; exact hh.2)
    | (cases h; done)
    | skip
  · cases h
    rename_i hh
    have h2 : x.tmod y = x - y * x.tdiv y := by have := Int.mul_tdiv_add_tmod x y; omega
    have h3 : (x.tmod y).natAbs < y.natAbs := by rw [Int.natAbs_tmod]; exact Nat.mod_lt _ (by omega)
    have h4 : (x.tmod y).natAbs ≤ x.natAbs := by rw [Int.natAbs_tmod]; exact Nat.mod_le _ _
    unfold inR at *
    omega
theorem sl_set {S : List AO} {o kd sz : Nat} {rf rf' : List Nat} (h : S[o]? = some (kd, sz, rf)) : sl S ≤ sl (S.set o (kd, sz, rf')) := by
  induction S generalizing o with
  | nil => simp [sl]
  | cons q S ih =>
    cases o with
    | zero => simp at h; subst h; simp [sl]
    | succ o => simp at h; have := ih h; simp [sl] at this ⊢; omega
theorem sl_app {S T : List AO} : sl (S ++ T) = sl S + sl T := by simp [sl]
def okPF (f : PF) : Prop := ∀ {a : Nat} {b : Int} {tb : List (Int × Nat)} {np pc' : Nat} {ls st ls' st' : List AV} {h h' : AH}, f a b tb np ls st h = some (pc', ls', st', h') → okL ls → okL st → okI h.1 → okL ls' ∧ okL st' ∧ okI h'.1 ∧ h.2.length ≤ h'.2.length ∧ sl h.2 ≤ sl h'.2 ∧ ls'.length = ls.length
theorem ok_p0 : okPF p0 := by
  intro a b tb np pc' ls st ls' st' h h' e hl hs hI
  unfold p0 at e
  (try dsimp only at e)
  (repeat' split at e)
  all_goals first
    | (cases e; done)
    | (cases e; exact ⟨hl, okL_cons.mpr ⟨by assumption, hs⟩, hI, Nat.le_refl _, Nat.le_refl _, rfl⟩)
theorem ok_p1 : okPF p1 := by
  intro a b tb np pc' ls st ls' st' h h' e hl hs hI
  unfold p1 at e
  (try dsimp only at e)
  (repeat' split at e)
  all_goals first
    | (cases e; done)
    | (cases e; exact ⟨hl, okL_cons.mpr ⟨by assumption, hs⟩, hI, Nat.le_refl _, Nat.le_refl _, rfl⟩)
theorem ok_p2 : okPF p2 := by
  intro a b tb np pc' ls st ls' st' h h' e hl hs hI
  unfold p2 at e
  (try dsimp only at e)
  (repeat' split at e)
  all_goals first
    | (cases e; done)
    | (cases e; exact ⟨hl, okL_cons.mpr ⟨okL_get hl (by assumption), hs⟩, hI, Nat.le_refl _, Nat.le_refl _, rfl⟩)
theorem ok_p3 : okPF p3 := by
  intro a b tb np pc' ls st ls' st' h h' e hl hs hI
  unfold p3 at e
  (try dsimp only at e)
  (repeat' split at e)
  all_goals first
    | (cases e; done)
    | (cases e; exact ⟨hl, okL_cons.mpr ⟨okL_get hl (by assumption), hs⟩, hI, Nat.le_refl _, Nat.le_refl _, rfl⟩)
theorem ok_p4 : okPF p4 := by
  intro a b tb np pc' ls st ls' st' h h' e hl hs hI
  unfold p4 at e
  (try dsimp only at e)
  (repeat' split at e)
  all_goals first
    | (cases e; done)
    | (cases e; exact ⟨okL_set hl (okL_cons.mp hs).1, (okL_cons.mp hs).2, hI, Nat.le_refl _, Nat.le_refl _, by simp⟩)
theorem ok_p5 : okPF p5 := by
  intro a b tb np pc' ls st ls' st' h h' e hl hs hI
  unfold p5 at e
  (try dsimp only at e)
  (repeat' split at e)
  all_goals first
    | (cases e; done)
    | (cases e; exact ⟨okL_set hl (okL_cons.mp hs).1, (okL_cons.mp hs).2, hI, Nat.le_refl _, Nat.le_refl _, by simp⟩)
theorem ok_p6 : okPF p6 := by
  intro a b tb np pc' ls st ls' st' h h' e hl hs hI
  unfold p6 at e
  (try dsimp only at e)
  (repeat' split at e)
  all_goals first
    | (cases e; done)
    | (cases e; exact ⟨okL_set hl (by assumption), hs, hI, Nat.le_refl _, Nat.le_refl _, by simp⟩)
theorem ok_p7 : okPF p7 := by
  intro a b tb np pc' ls st ls' st' h h' e hl hs hI
  unfold p7 at e
  (try dsimp only at e)
  (repeat' split at e)
  all_goals first
    | (cases e; done)
    | (cases e; exact ⟨hl, okL_cons.mpr ⟨hI _ _, (okL_cons.mp hs).2⟩, hI, Nat.le_refl _, Nat.le_refl _, rfl⟩)
theorem ok_p8 : okPF p8 := by
  intro a b tb np pc' ls st ls' st' h h' e hl hs hI
  unfold p8 at e
  (try dsimp only at e)
  (repeat' split at e)
  all_goals first
    | (cases e; done)
    | (cases e; exact ⟨hl, okL_cons.mpr ⟨trivial, (okL_cons.mp hs).2⟩, hI, Nat.le_refl _, Nat.le_refl _, rfl⟩)
theorem ok_p9 : okPF p9 := by
  intro a b tb np pc' ls st ls' st' h h' e hl hs hI
  unfold p9 at e
  (try dsimp only at e)
  (repeat' split at e)
  all_goals first
    | (cases e; done)
    | (cases e; exact ⟨hl, (okL_cons.mp (okL_cons.mp hs).2).2, okI_up hI (okL_cons.mp hs).1, Nat.le_refl _, Nat.le_refl _, rfl⟩)
theorem ok_p10 : okPF p10 := by
  intro a b tb np pc' ls st ls' st' h h' e hl hs hI
  unfold p10 at e
  (try dsimp only at e)
  (repeat' split at e)
  all_goals first
    | (cases e; done)
    | (cases e; exact ⟨hl, (okL_cons.mp (okL_cons.mp hs).2).2, hI, by simp, sl_set (by assumption), rfl⟩)
theorem ok_p11 : okPF p11 := by
  intro a b tb np pc' ls st ls' st' h h' e hl hs hI
  unfold p11 at e
  (try dsimp only at e)
  (repeat' split at e)
  all_goals first
    | (cases e; done)
    | (cases e; exact ⟨hl, okL_cons.mpr ⟨hI _ _, (okL_cons.mp (okL_cons.mp hs).2).2⟩, hI, Nat.le_refl _, Nat.le_refl _, rfl⟩)
theorem ok_p12 : okPF p12 := by
  intro a b tb np pc' ls st ls' st' h h' e hl hs hI
  unfold p12 at e
  (try dsimp only at e)
  (repeat' split at e)
  all_goals first
    | (cases e; done)
    | (cases e; exact ⟨hl, okL_cons.mpr ⟨trivial, (okL_cons.mp (okL_cons.mp hs).2).2⟩, hI, Nat.le_refl _, Nat.le_refl _, rfl⟩)
theorem ok_p13 : okPF p13 := by
  intro a b tb np pc' ls st ls' st' h h' e hl hs hI
  unfold p13 at e
  (try dsimp only at e)
  (repeat' split at e)
  all_goals first
    | (cases e; done)
    | (cases e; exact ⟨hl, (okL_cons.mp (okL_cons.mp (okL_cons.mp hs).2).2).2, okI_up hI (okL_cons.mp hs).1, Nat.le_refl _, Nat.le_refl _, rfl⟩)
theorem ok_p14 : okPF p14 := by
  intro a b tb np pc' ls st ls' st' h h' e hl hs hI
  unfold p14 at e
  (try dsimp only at e)
  (repeat' split at e)
  all_goals first
    | (cases e; done)
    | (cases e; exact ⟨hl, (okL_cons.mp (okL_cons.mp (okL_cons.mp hs).2).2).2, hI, by simp, sl_set (by assumption), rfl⟩)
theorem ok_p15 : okPF p15 := by
  intro a b tb np pc' ls st ls' st' h h' e hl hs hI
  unfold p15 at e
  (try dsimp only at e)
  (repeat' split at e)
  all_goals first
    | (cases e; done)
    | (cases e; exact ⟨hl, okL_cons.mpr ⟨by simp only [okV]; omega, (okL_cons.mp hs).2⟩, hI, Nat.le_refl _, Nat.le_refl _, rfl⟩)
theorem ok_p16 : okPF p16 := by
  intro a b tb np pc' ls st ls' st' h h' e hl hs hI
  unfold p16 at e
  (try dsimp only at e)
  (repeat' split at e)
  all_goals first
    | (cases e; done)
    | (cases e; exact ⟨hl, okL_cons.mpr ⟨bop_in (okL_cons.mp (okL_cons.mp hs).2).1 (okL_cons.mp hs).1 (by assumption), (okL_cons.mp (okL_cons.mp hs).2).2⟩, hI, Nat.le_refl _, Nat.le_refl _, rfl⟩)
theorem ok_p17 : okPF p17 := by
  intro a b tb np pc' ls st ls' st' h h' e hl hs hI
  unfold p17 at e
  (try dsimp only at e)
  (repeat' split at e)
  all_goals first
    | (cases e; done)
    | (cases e; exact ⟨hl, hs, hI, Nat.le_refl _, Nat.le_refl _, rfl⟩)
theorem ok_p18 : okPF p18 := by
  intro a b tb np pc' ls st ls' st' h h' e hl hs hI
  unfold p18 at e
  (try dsimp only at e)
  (repeat' split at e)
  all_goals first
    | (cases e; done)
    | (cases e; exact ⟨hl, okL_cons.mpr ⟨by have := (okL_cons.mp hs).1; simp only [okV] at this ⊢; omega, (okL_cons.mp hs).2⟩, hI, Nat.le_refl _, Nat.le_refl _, rfl⟩)
theorem ok_p19 : okPF p19 := by
  intro a b tb np pc' ls st ls' st' h h' e hl hs hI
  unfold p19 at e
  (try dsimp only at e)
  (repeat' split at e)
  all_goals first
    | (cases e; done)
    | (cases e; exact ⟨hl, okL_cons.mpr ⟨by simp only [okV]; decide, (okL_cons.mp (okL_cons.mp hs).2).2⟩, hI, Nat.le_refl _, Nat.le_refl _, rfl⟩)
theorem ok_p20 : okPF p20 := by
  intro a b tb np pc' ls st ls' st' h h' e hl hs hI
  unfold p20 at e
  (try dsimp only at e)
  (repeat' split at e)
  all_goals first
    | (cases e; done)
    | (cases e; exact ⟨hl, (okL_cons.mp hs).2, hI, Nat.le_refl _, Nat.le_refl _, rfl⟩)
theorem ok_p21 : okPF p21 := by
  intro a b tb np pc' ls st ls' st' h h' e hl hs hI
  unfold p21 at e
  (try dsimp only at e)
  (repeat' split at e)
  all_goals first
    | (cases e; done)
    | (cases e; exact ⟨hl, (okL_cons.mp (okL_cons.mp hs).2).2, hI, Nat.le_refl _, Nat.le_refl _, rfl⟩)
theorem ok_p22 : okPF p22 := by
  intro a b tb np pc' ls st ls' st' h h' e hl hs hI
  unfold p22 at e
  (try dsimp only at e)
  (repeat' split at e)
  all_goals first
    | (cases e; done)
    | (cases e; exact ⟨hl, hs, hI, Nat.le_refl _, Nat.le_refl _, rfl⟩)
theorem ok_p23 : okPF p23 := by
  intro a b tb np pc' ls st ls' st' h h' e hl hs hI
  unfold p23 at e
  (try dsimp only at e)
  (repeat' split at e)
  all_goals first
    | (cases e; done)
    | (cases e; exact ⟨hl, (okL_cons.mp hs).2, hI, Nat.le_refl _, Nat.le_refl _, rfl⟩)
theorem ok_p24 : okPF p24 := by
  intro a b tb np pc' ls st ls' st' h h' e hl hs hI
  unfold p24 at e
  (try dsimp only at e)
  (repeat' split at e)
  all_goals first
    | (cases e; done)
    | (cases e; exact ⟨hl, okL_cons.mpr ⟨(okL_cons.mp hs).1, hs⟩, hI, Nat.le_refl _, Nat.le_refl _, rfl⟩)
theorem ok_p25 : okPF p25 := by
  intro a b tb np pc' ls st ls' st' h h' e hl hs hI
  unfold p25 at e
  (try dsimp only at e)
  (repeat' split at e)
  all_goals first
    | (cases e; done)
    | (cases e; exact ⟨hl, okL_cons.mpr ⟨(okL_cons.mp hs).1, okL_cons.mpr ⟨(okL_cons.mp (okL_cons.mp hs).2).1, hs⟩⟩, hI, Nat.le_refl _, Nat.le_refl _, rfl⟩)
theorem ok_p26 : okPF p26 := by
  intro a b tb np pc' ls st ls' st' h h' e hl hs hI
  unfold p26 at e
  (try dsimp only at e)
  (repeat' split at e)
  all_goals first
    | (cases e; done)
    | (cases e; exact ⟨hl, (okL_cons.mp hs).2, hI, Nat.le_refl _, Nat.le_refl _, rfl⟩)
theorem ok_p27 : okPF p27 := by
  intro a b tb np pc' ls st ls' st' h h' e hl hs hI
  unfold p27 at e
  (try dsimp only at e)
  (repeat' split at e)
  all_goals first
    | (cases e; done)
    | (cases e; exact ⟨hl, okL_cons.mpr ⟨trivial, hs⟩, okI_clr hI, by simp, by simp [sl_app], rfl⟩)
theorem ok_p28 : okPF p28 := by
  intro a b tb np pc' ls st ls' st' h h' e hl hs hI
  unfold p28 at e
  (try dsimp only at e)
  (repeat' split at e)
  all_goals first
    | (cases e; done)
    | (cases e; exact ⟨hl, okL_cons.mpr ⟨trivial, (okL_cons.mp hs).2⟩, okI_clr hI, by simp, by simp [sl_app], rfl⟩)
theorem ok_p29 : okPF p29 := by
  intro a b tb np pc' ls st ls' st' h h' e hl hs hI
  unfold p29 at e
  (try dsimp only at e)
  (repeat' split at e)
  all_goals first
    | (cases e; done)
    | (cases e; exact ⟨hl, okL_cons.mpr ⟨trivial, (okL_cons.mp hs).2⟩, okI_clr hI, by simp, by simp [sl_app], rfl⟩)
theorem ok_p30 : okPF p30 := by
  intro a b tb np pc' ls st ls' st' h h' e hl hs hI
  unfold p30 at e
  (try dsimp only at e)
  (repeat' split at e)
  all_goals first
    | (cases e; done)
    | (cases e; exact ⟨hl, okL_cons.mpr ⟨trivial, (okL_cons.mp (okL_cons.mp hs).2).2⟩, okI_clr hI, by simp, by simp only [sl_app]; omega, rfl⟩)
theorem ok_p31 : okPF p31 := by
  intro a b tb np pc' ls st ls' st' h h' e hl hs hI
  unfold p31 at e
  (try dsimp only at e)
  (repeat' split at e)
  all_goals first
    | (cases e; done)
    | (cases e; exact ⟨hl, okL_cons.mpr ⟨by first | exact (okL_cons.mp hs).1 | exact (‹inR (-_) ∧ _›).1, (okL_cons.mp hs).2⟩, hI, Nat.le_refl _, Nat.le_refl _, rfl⟩)
theorem ok_p32 : okPF p32 := by
  intro a b tb np pc' ls st ls' st' h h' e hl hs hI
  unfold p32 at e
  (try dsimp only at e)
  (repeat' split at e)
  all_goals first
    | (cases e; done)
    | (cases e; exact ⟨hl, okL_cons.mpr ⟨by first | exact (okL_cons.mp hs).1 | exact (okL_cons.mp (okL_cons.mp hs).2).1, (okL_cons.mp (okL_cons.mp hs).2).2⟩, hI, Nat.le_refl _, Nat.le_refl _, rfl⟩)
theorem ok_p33 : okPF p33 := by
  intro a b tb np pc' ls st ls' st' h h' e hl hs hI
  unfold p33 at e
  (try dsimp only at e)
  (repeat' split at e)
  all_goals first
    | (cases e; done)
    | (cases e; exact ⟨hl, okL_cons.mpr ⟨by first | exact (okL_cons.mp hs).1 | exact (okL_cons.mp (okL_cons.mp hs).2).1, (okL_cons.mp (okL_cons.mp hs).2).2⟩, hI, Nat.le_refl _, Nat.le_refl _, rfl⟩)
theorem ok_p34 : okPF p34 := by
  intro a b tb np pc' ls st ls' st' h h' e hl hs hI
  unfold p34 at e
  (try dsimp only at e)
  (repeat' split at e)
  all_goals first
    | (cases e; done)
    | (cases e; exact ⟨hl, (okL_cons.mp (okL_cons.mp (okL_cons.mp (okL_cons.mp (okL_cons.mp hs).2).2).2).2).2, okI_cp hI, Nat.le_refl _, Nat.le_refl _, rfl⟩)
theorem ok_p35 : okPF p35 := by
  intro a b tb np pc' ls st ls' st' h h' e hl hs hI
  unfold p35 at e
  (try dsimp only at e)
  (repeat' split at e)
  all_goals first
    | (cases e; done)
    | (cases e; exact ⟨hl, (okL_cons.mp hs).2, hI, Nat.le_refl _, Nat.le_refl _, rfl⟩)
theorem ok_p36 : okPF p36 := by
  intro a b tb np pc' ls st ls' st' h h' e hl hs hI
  unfold p36 at e
  (try dsimp only at e)
  (repeat' split at e)
  all_goals first
    | (cases e; done)
    | (cases e; exact ⟨hl, okL_cons.mpr ⟨hI _ _, (okL_cons.mp (okL_cons.mp hs).2).2⟩, hI, Nat.le_refl _, Nat.le_refl _, rfl⟩)
theorem ok_p37 : okPF p37 := by
  intro a b tb np pc' ls st ls' st' h h' e hl hs hI
  unfold p37 at e
  (try dsimp only at e)
  (repeat' split at e)
  all_goals first
    | (cases e; done)
    | (cases e; exact ⟨hl, okL_cons.mpr ⟨hI _ _, (okL_cons.mp hs).2⟩, hI, Nat.le_refl _, Nat.le_refl _, rfl⟩)
theorem pfs_ok : ∀ f ∈ pfs, okPF f := by
  unfold pfs
  simp only [List.forall_mem_cons]
  exact ⟨ok_p0, ok_p1, ok_p2, ok_p3, ok_p4, ok_p5, ok_p6, ok_p7, ok_p8, ok_p9, ok_p10, ok_p11, ok_p12, ok_p13, ok_p14, ok_p15, ok_p16, ok_p17, ok_p18, ok_p19, ok_p20, ok_p21, ok_p22, ok_p23, ok_p24, ok_p25, ok_p26, ok_p27, ok_p28, ok_p29, ok_p30, ok_p31, ok_p32, ok_p33, ok_p34, ok_p35, ok_p36, ok_p37, fun f h => absurd h List.not_mem_nil⟩
theorem pstep_ok {op a : Nat} {b : Int} {tb : List (Int × Nat)} {np pc' : Nat} {ls st ls' st' : List AV} {h h' : AH} (e : pstep op a b tb np ls st h = some (pc', ls', st', h')) (hl : okL ls) (hs : okL st) (hI : okI h.1) : okL ls' ∧ okL st' ∧ okI h'.1 ∧ h.2.length ≤ h'.2.length ∧ sl h.2 ≤ sl h'.2 ∧ ls'.length = ls.length := by
  unfold pstep at e
  split at e
  · rename_i f hf
    exact pfs_ok f (List.mem_of_getElem? hf) e hl hs hI
  · cases e
end
section
/-! the claim's tables, by program: fields, constants, classes, methods by (own class, entry); the last number is the place of its word in lw_tbl -/
def ftab : List ((Nat × Nat) × Nat × Nat × Nat) := [((0, 9), 0, 0, 124), ((11, 145), 0, 0, 125), ((2, 63), 0, 0, 126), ((4, 92), 0, 0, 127), ((0, 15), 0, 1, 128), ((11, 224), 0, 1, 129), ((0, 19), 0, 2, 130), ((11, 227), 0, 2, 131), ((0, 22), 0, 3, 132), ((6, 60), 0, 3, 133), ((1, 59), 0, 3, 134), ((11, 230), 0, 3, 135), ((0, 25), 0, 4, 136), ((4, 51), 0, 4, 137), ((1, 77), 0, 4, 138), ((11, 233), 0, 4, 139), ((0, 28), 0, 5, 140), ((6, 44), 0, 5, 141), ((1, 68), 0, 5, 142), ((11, 236), 0, 5, 143), ((0, 31), 0, 6, 144), ((6, 50), 0, 6, 145), ((1, 47), 0, 6, 146), ((11, 161), 0, 6, 147), ((0, 34), 0, 7, 148), ((6, 53), 0, 7, 149), ((1, 71), 0, 7, 150), ((11, 164), 0, 7, 151), ((0, 37), 0, 8, 152), ((11, 167), 0, 8, 153), ((4, 95), 0, 8, 154), ((0, 42), 0, 9, 155), ((6, 56), 0, 9, 156), ((1, 56), 0, 9, 157), ((2, 92), 0, 9, 158), ((11, 221), 0, 9, 159), ((3, 9), 3, 0, 188), ((4, 72), 3, 0, 189), ((11, 176), 3, 0, 190), ((3, 15), 3, 1, 191), ((4, 33), 3, 1, 192), ((1, 42), 3, 1, 193), ((11, 179), 3, 1, 194), ((3, 18), 3, 2, 195), ((4, 38), 3, 2, 196), ((1, 74), 3, 2, 197), ((11, 182), 3, 2, 198), ((3, 21), 3, 3, 199), ((4, 75), 3, 3, 200), ((11, 185), 3, 3, 201), ((8, 9), 8, 0, 218), ((1, 32), 8, 0, 219), ((4, 29), 8, 0, 220), ((2, 50), 8, 0, 221), ((5, 70), 8, 0, 222), ((11, 173), 8, 0, 223), ((7, 83), 8, 0, 224), ((8, 17), 8, 1, 225), ((4, 23), 8, 1, 226), ((1, 38), 8, 1, 227), ((5, 102), 8, 1, 228), ((11, 215), 8, 1, 229), ((9, 11), 9, 0, 244), ((9, 17), 9, 1, 245), ((9, 21), 9, 2, 246), ((11, 371), 9, 2, 247), ((6, 40), 6, 0, 261), ((6, 9), 6, 1, 262), ((6, 15), 6, 2, 263), ((6, 18), 6, 3, 264), ((6, 21), 6, 4, 265), ((6, 24), 6, 5, 266), ((6, 27), 6, 6, 267), ((4, 81), 6, 6, 268), ((6, 30), 6, 7, 269), ((4, 78), 6, 7, 270), ((6, 33), 6, 8, 271), ((4, 68), 6, 8, 272), ((6, 36), 6, 9, 273), ((4, 47), 6, 9, 274), ((4, 9), 4, 0, 302), ((4, 15), 4, 1, 303), ((4, 19), 4, 2, 304), ((1, 24), 1, 0, 318), ((1, 28), 1, 1, 319), ((1, 9), 1, 2, 320), ((11, 253), 1, 2, 321), ((1, 15), 1, 3, 322), ((11, 256), 1, 3, 323), ((1, 18), 1, 4, 324), ((11, 259), 1, 4, 325), ((1, 21), 1, 5, 326), ((11, 262), 1, 5, 327), ((5, 47), 5, 0, 349), ((5, 50), 5, 1, 350), ((5, 9), 5, 2, 351), ((5, 18), 5, 3, 352), ((11, 318), 5, 3, 353), ((5, 22), 5, 4, 354), ((5, 26), 5, 5, 355), ((5, 29), 5, 6, 356), ((11, 315), 5, 6, 357), ((5, 32), 5, 7, 358), ((11, 339), 5, 7, 359), ((5, 35), 5, 8, 360), ((11, 327), 5, 8, 361), ((5, 38), 5, 9, 362), ((11, 330), 5, 9, 363), ((5, 41), 5, 10, 364), ((11, 333), 5, 10, 365), ((5, 44), 5, 11, 366), ((11, 324), 5, 11, 367), ((2, 31), 2, 0, 399), ((2, 35), 2, 1, 400), ((2, 39), 2, 2, 401), ((2, 9), 2, 3, 402), ((11, 344), 2, 3, 403), ((2, 15), 2, 4, 404), ((11, 348), 2, 4, 405), ((2, 18), 2, 5, 406), ((2, 21), 2, 6, 407), ((11, 357), 2, 6, 408), ((2, 25), 2, 7, 409), ((2, 28), 2, 8, 410), ((10, 21), 10, 0, 439), ((10, 9), 10, 1, 440), ((11, 191), 10, 1, 441), ((7, 43), 10, 1, 442), ((7, 23), 7, 0, 456), ((7, 9), 7, 1, 457), ((7, 15), 7, 2, 458), ((7, 20), 7, 3, 459), ((11, 197), 7, 3, 460), ((11, 14), 11, 0, 471), ((11, 21), 11, 1, 472), ((11, 28), 11, 2, 473), ((11, 32), 11, 3, 474), ((11, 35), 11, 4, 475), ((11, 38), 11, 5, 476), ((11, 41), 11, 6, 477), ((11, 45), 11, 7, 478), ((11, 51), 11, 8, 479), ((11, 60), 11, 9, 480), ((11, 69), 11, 10, 481), ((11, 78), 11, 11, 482), ((11, 87), 11, 12, 483), ((11, 96), 11, 13, 484), ((11, 105), 11, 14, 485), ((11, 109), 11, 15, 486), ((11, 117), 11, 16, 487), ((11, 123), 11, 17, 488), ((11, 126), 11, 18, 489), ((12, 11), 12, 0, 1040), ((12, 15), 12, 1, 1041), ((12, 379), 12, 2, 1042), ((12, 18), 12, 3, 1043), ((12, 152), 12, 4, 1044), ((12, 21), 12, 5, 1045), ((12, 24), 12, 6, 1046), ((12, 27), 12, 7, 1047), ((12, 78), 12, 8, 1048), ((12, 90), 12, 9, 1049), ((12, 93), 12, 10, 1050), ((12, 99), 12, 11, 1051), ((12, 102), 12, 12, 1052), ((12, 30), 12, 13, 1053), ((12, 33), 12, 14, 1054), ((12, 36), 12, 15, 1055), ((12, 176), 12, 16, 1056), ((12, 179), 12, 17, 1057), ((12, 223), 12, 18, 1058), ((12, 198), 12, 19, 1059), ((12, 39), 12, 20, 1060), ((12, 42), 12, 21, 1061), ((12, 312), 12, 22, 1062), ((12, 315), 12, 23, 1063), ((12, 318), 12, 24, 1064), ((12, 303), 12, 25, 1065), ((12, 306), 12, 26, 1066), ((12, 327), 12, 27, 1067), ((12, 331), 12, 28, 1068), ((12, 45), 12, 29, 1069), ((12, 340), 12, 30, 1070), ((12, 337), 12, 31, 1071), ((12, 343), 12, 32, 1072), ((12, 48), 12, 33, 1073), ((12, 51), 12, 34, 1074)]
def ktab : List ((Nat × Nat) × Int × Nat) := [((2, 49), 100000, 911), ((11, 347), 100000, 913), ((12, 330), 100000, 1538)]
def ltab : List ((Nat × Nat) × Int × Nat) := [((11, 299), -9223372036854775808, 810), ((12, 271), -9223372036854775808, 1454)]
def ctab : List ((Nat × Nat) × Nat × Nat) := [((13, 7), 11, 108), ((11, 11), 0, 116), ((0, 40), 102, 122), ((11, 18), 3, 182), ((11, 25), 8, 211), ((8, 15), 102, 217), ((11, 48), 9, 235), ((9, 9), 8, 241), ((11, 55), 6, 255), ((11, 64), 4, 296), ((11, 73), 1, 312), ((11, 82), 5, 341), ((5, 15), 8, 347), ((11, 91), 2, 393), ((11, 100), 10, 430), ((11, 112), 7, 449), ((7, 18), 102, 455), ((11, 121), 102, 470), ((13, 10), 12, 1034)]
def mtb : List ((Nat × Nat) × Nat × Nat × Nat) := [((13, 9), 1, 0, 110), ((11, 13), 2, 1, 118), ((11, 20), 3, 1, 184), ((11, 27), 4, 1, 213), ((11, 50), 5, 0, 237), ((9, 24), 4, 1, 243), ((11, 57), 6, 0, 257), ((11, 66), 7, 0, 298), ((11, 75), 8, 0, 314), ((11, 84), 9, 0, 343), ((5, 17), 4, 1, 348), ((11, 93), 10, 0, 395), ((11, 102), 11, 0, 432), ((11, 114), 12, 0, 451), ((13, 13), 13, 0, 529), ((11, 130), 14, 0, 533), ((11, 134), 15, 0, 536), ((11, 138), 16, 0, 540), ((11, 142), 17, 0, 547), ((13, 18), 18, 0, 551), ((11, 149), 19, 0, 555), ((0, 51), 16, 0, 559), ((13, 23), 20, 0, 560), ((11, 153), 21, 0, 564), ((11, 157), 22, 0, 568), ((13, 28), 23, 0, 572), ((11, 170), 24, 0, 576), ((13, 33), 25, 0, 579), ((13, 37), 26, 0, 583), ((11, 188), 27, 0, 587), ((13, 42), 28, 0, 591), ((13, 47), 29, 0, 595), ((11, 194), 30, 0, 599), ((7, 46), 31, 0, 603), ((7, 49), 32, 0, 607), ((7, 60), 33, 0, 611), ((7, 27), 34, 0, 615), ((7, 40), 35, 0, 619), ((7, 36), 36, 0, 622), ((7, 57), 37, 0, 626), ((7, 32), 38, 0, 630), ((7, 64), 39, 0, 634), ((7, 53), 40, 0, 638), ((13, 51), 41, 0, 642), ((11, 200), 42, 0, 646), ((7, 67), 43, 0, 650), ((7, 72), 44, 0, 654), ((7, 80), 22, 0, 658), ((7, 87), 45, 0, 659), ((7, 76), 15, 0, 663), ((11, 204), 46, 0, 664), ((4, 84), 47, 0, 668), ((4, 60), 48, 0, 672), ((4, 41), 49, 0, 676), ((4, 56), 50, 0, 680), ((4, 64), 51, 0, 684), ((4, 88), 52, 0, 688), ((11, 208), 53, 0, 692), ((13, 55), 54, 0, 699), ((11, 212), 55, 0, 703), ((10, 25), 27, 0, 707), ((13, 59), 56, 0, 708), ((11, 218), 34, 0, 712), ((13, 63), 57, 0, 713), ((13, 67), 58, 0, 717), ((11, 239), 59, 0, 721), ((11, 242), 60, 0, 724), ((13, 71), 61, 0, 728), ((13, 75), 62, 0, 732), ((13, 79), 63, 0, 736), ((11, 245), 64, 0, 740), ((11, 249), 65, 0, 744), ((1, 52), 66, 0, 748), ((13, 83), 67, 0, 752), ((11, 265), 68, 0, 756), ((13, 87), 69, 0, 763), ((13, 91), 70, 0, 767), ((11, 269), 49, 0, 771), ((11, 272), 50, 0, 772), ((11, 276), 71, 0, 773), ((13, 95), 72, 0, 777), ((11, 279), 48, 0, 781), ((13, 99), 73, 0, 782), ((11, 283), 47, 0, 786), ((13, 103), 74, 0, 787), ((11, 286), 52, 0, 791), ((13, 107), 75, 0, 792), ((11, 289), 76, 0, 796), ((11, 293), 77, 0, 800), ((9, 25), 53, 0, 804), ((11, 296), 45, 0, 805), ((13, 111), 78, 0, 806), ((13, 116), 79, 0, 811), ((11, 301), 80, 0, 815), ((8, 26), 22, 0, 819), ((8, 30), 60, 0, 820), ((13, 120), 81, 0, 821), ((11, 304), 82, 0, 825), ((5, 54), 22, 0, 829), ((5, 58), 24, 1, 830), ((5, 62), 83, 0, 831), ((5, 66), 14, 1, 835), ((11, 308), 84, 0, 836), ((5, 73), 47, 0, 840), ((11, 311), 85, 0, 841), ((5, 79), 86, 0, 845), ((5, 91), 60, 0, 849), ((5, 83), 53, 0, 850), ((5, 87), 87, 0, 851), ((5, 94), 80, 0, 855), ((5, 98), 45, 0, 856), ((5, 106), 88, 0, 857), ((13, 124), 89, 0, 862), ((13, 129), 90, 0, 866), ((13, 133), 91, 0, 870), ((11, 321), 92, 0, 874), ((5, 115), 84, 0, 878), ((5, 118), 93, 0, 879), ((5, 122), 82, 0, 883), ((5, 125), 85, 0, 884), ((5, 129), 94, 0, 885), ((13, 137), 95, 0, 889), ((11, 336), 96, 0, 893), ((5, 132), 92, 0, 897), ((13, 141), 97, 0, 898), ((13, 145), 98, 0, 902), ((11, 342), 99, 0, 906), ((2, 43), 47, 0, 910), ((2, 55), 76, 0, 912), ((13, 149), 100, 0, 914), ((13, 153), 101, 0, 918), ((11, 351), 102, 0, 922), ((13, 157), 103, 0, 926), ((11, 354), 104, 0, 930), ((2, 59), 52, 0, 934), ((2, 68), 99, 0, 935), ((2, 72), 105, 0, 936), ((2, 75), 102, 0, 940), ((13, 161), 106, 0, 941), ((11, 360), 107, 0, 945), ((2, 79), 104, 0, 949), ((2, 82), 45, 0, 950), ((13, 165), 108, 0, 951), ((11, 363), 109, 0, 955), ((2, 86), 110, 0, 959), ((2, 89), 80, 0, 963), ((13, 169), 111, 0, 964), ((13, 173), 112, 0, 968), ((11, 367), 113, 0, 972), ((13, 177), 114, 0, 976), ((11, 372), 115, 0, 980), ((13, 181), 116, 0, 984), ((11, 375), 117, 0, 988), ((13, 185), 118, 0, 991), ((13, 189), 119, 0, 995), ((13, 194), 120, 0, 999), ((13, 198), 121, 0, 1003), ((11, 378), 122, 0, 1007), ((11, 381), 123, 0, 1011), ((11, 389), 43, 0, 1015), ((13, 202), 124, 0, 1016), ((11, 384), 125, 0, 1020), ((11, 386), 126, 0, 1025), ((13, 206), 127, 0, 1030), ((13, 12), 128, 0, 1036), ((13, 17), 129, 0, 1146), ((12, 54), 130, 0, 1150), ((12, 155), 131, 0, 1153), ((12, 66), 132, 0, 1157), ((12, 159), 133, 0, 1161), ((13, 22), 134, 0, 1165), ((12, 162), 135, 0, 1169), ((13, 27), 136, 0, 1173), ((12, 166), 137, 0, 1177), ((12, 170), 138, 0, 1181), ((12, 62), 139, 0, 1185), ((12, 69), 140, 0, 1189), ((13, 32), 141, 0, 1193), ((12, 173), 142, 0, 1197), ((13, 36), 143, 0, 1200), ((13, 41), 144, 0, 1204), ((13, 46), 145, 0, 1208), ((13, 50), 146, 0, 1212), ((12, 195), 147, 0, 1216), ((12, 189), 148, 0, 1220), ((12, 185), 149, 0, 1224), ((12, 182), 150, 0, 1228), ((12, 192), 151, 0, 1232), ((13, 54), 152, 0, 1236), ((12, 207), 153, 0, 1240), ((12, 210), 154, 0, 1244), ((12, 204), 155, 0, 1248), ((12, 82), 156, 0, 1252), ((12, 201), 157, 0, 1256), ((12, 213), 158, 0, 1259), ((12, 145), 159, 0, 1263), ((12, 141), 160, 0, 1267), ((12, 86), 161, 0, 1271), ((12, 58), 162, 0, 1275), ((12, 109), 163, 0, 1279), ((12, 127), 164, 0, 1283), ((12, 96), 165, 0, 1287), ((12, 106), 166, 0, 1291), ((12, 115), 167, 0, 1297), ((12, 135), 168, 0, 1301), ((12, 121), 169, 0, 1305), ((12, 217), 170, 0, 1309), ((12, 220), 171, 0, 1313), ((13, 58), 172, 0, 1317), ((12, 226), 173, 0, 1321), ((13, 62), 174, 0, 1325), ((13, 66), 175, 0, 1329), ((13, 70), 176, 0, 1333), ((12, 230), 177, 0, 1337), ((13, 74), 178, 0, 1341), ((13, 78), 179, 0, 1345), ((13, 82), 180, 0, 1349), ((12, 236), 181, 0, 1353), ((12, 240), 182, 0, 1357), ((12, 233), 183, 0, 1361), ((12, 244), 184, 0, 1365), ((13, 86), 185, 0, 1369), ((12, 124), 186, 0, 1373), ((13, 90), 187, 0, 1378), ((13, 94), 188, 0, 1382), ((12, 247), 189, 0, 1386), ((12, 131), 190, 0, 1390), ((12, 138), 191, 0, 1394), ((13, 98), 192, 0, 1398), ((13, 102), 193, 0, 1402), ((12, 250), 194, 0, 1406), ((12, 149), 195, 0, 1410), ((13, 106), 196, 0, 1414), ((13, 176), 197, 0, 1418), ((13, 110), 198, 0, 1422), ((12, 257), 199, 0, 1426), ((12, 260), 200, 0, 1430), ((12, 254), 201, 0, 1434), ((12, 263), 202, 0, 1438), ((12, 266), 203, 0, 1442), ((13, 115), 204, 0, 1446), ((12, 268), 205, 0, 1450), ((13, 119), 206, 0, 1455), ((12, 273), 207, 0, 1459), ((13, 123), 208, 0, 1462), ((12, 293), 209, 0, 1466), ((12, 277), 210, 0, 1470), ((12, 297), 211, 0, 1474), ((12, 287), 212, 0, 1478), ((12, 280), 213, 0, 1482), ((12, 284), 214, 0, 1486), ((12, 290), 215, 0, 1490), ((13, 128), 216, 0, 1494), ((12, 300), 217, 0, 1498), ((13, 132), 218, 0, 1502), ((13, 136), 219, 0, 1506), ((12, 321), 220, 0, 1510), ((12, 309), 221, 0, 1514), ((13, 144), 222, 0, 1518), ((13, 140), 223, 0, 1522), ((12, 324), 224, 0, 1526), ((13, 148), 225, 0, 1530), ((12, 334), 226, 0, 1534), ((13, 152), 227, 0, 1539), ((13, 156), 228, 0, 1543), ((12, 349), 229, 0, 1547), ((12, 346), 230, 0, 1551), ((13, 160), 231, 0, 1555), ((12, 352), 232, 0, 1559), ((13, 164), 233, 0, 1563), ((12, 355), 234, 0, 1567), ((13, 168), 235, 0, 1571), ((12, 361), 236, 0, 1575), ((12, 358), 237, 0, 1579), ((13, 172), 238, 0, 1583), ((12, 364), 193, 0, 1587), ((12, 367), 239, 0, 1588), ((13, 180), 240, 0, 1592), ((12, 370), 241, 0, 1596), ((13, 184), 242, 0, 1600), ((12, 373), 243, 0, 1604), ((13, 188), 244, 0, 1607), ((13, 193), 245, 0, 1611), ((13, 197), 246, 0, 1615), ((13, 201), 247, 0, 1619), ((12, 376), 248, 0, 1623), ((13, 205), 249, 0, 1627), ((13, 209), 250, 0, 1631)]
def jtab : List ((Nat × Nat) × Nat × Nat) := [((11, 5), 0, 113), ((0, 3), 0, 121), ((3, 3), 0, 187), ((8, 3), 0, 216), ((9, 3), 0, 240), ((6, 3), 0, 260), ((4, 3), 0, 301), ((1, 3), 0, 317), ((5, 3), 0, 346), ((2, 3), 0, 398), ((10, 3), 0, 435), ((10, 15), 2, 436), ((7, 3), 0, 454), ((0, 45), 1, 544), ((8, 20), 4, 696), ((1, 62), 2, 751), ((1, 80), 3, 760), ((5, 109), 4, 861), ((0, 55), 4, 1024), ((3, 24), 4, 1029), ((12, 5), 0, 1039), ((12, 73), 1, 1295), ((12, 112), 2, 1296), ((12, 118), 3, 1377)]
abbrev MI : Type := Nat × MethodName × ByteArray × Nat × Nat × Nat × Nat × Nat × Nat
/-- own class, name, code, locals, answer (0 none, 1 int, 2 boolean, 3 long), kind (0 virtual, 1 static, 2 constructor), arguments with its object, frames, words of locals -/
def mtab_0 : List MI := [(13, ⟨RL, "law", "([I)Z"⟩, code, 4, 2, 1, 1, 13, 327),
  (11, ⟨RX11, "<init>", "()V"⟩, prog_1_method_1_code, 2, 0, 2, 1, 3, 82),
  (0, ⟨RX0, "<init>", "()V"⟩, prog_2_method_1_code, 1, 0, 2, 1, 1, 40),
  (3, ⟨RX3, "<init>", "()V"⟩, prog_5_method_1_code, 1, 0, 2, 1, 1, 40),
  (8, ⟨RX8, "<init>", "()V"⟩, prog_10_method_1_code, 1, 0, 2, 1, 1, 40),
  (9, ⟨RX9, "<init>", "()V"⟩, prog_11_method_1_code, 2, 0, 2, 1, 2, 60),
  (6, ⟨RX6, "<init>", "(LRoundSlack$Book;)V"⟩, prog_8_method_1_code, 2, 0, 2, 2, 1, 40),
  (4, ⟨RX4, "<init>", "(LRoundSlack$Book;LRoundSlack$Fleet;LRoundSlack$Piece;)V"⟩, prog_6_method_1_code, 4, 0, 2, 4, 1, 40),
  (1, ⟨RX1, "<init>", "(LRoundSlack$Book;LRoundSlack$Fleet;)V"⟩, prog_3_method_1_code, 3, 0, 2, 3, 1, 40),
  (5, ⟨RX5, "<init>", "(LRoundSlack$Rounds;LRoundSlack$Judge;)V"⟩, prog_7_method_1_code, 3, 0, 2, 3, 2, 60),
  (2, ⟨RX2, "<init>", "(LRoundSlack$Book;LRoundSlack$Rounds;LRoundSlack$Judge;)V"⟩, prog_4_method_1_code, 4, 0, 2, 4, 1, 40),
  (10, ⟨RX10, "<init>", "(I)V"⟩, prog_12_method_1_code, 2, 0, 2, 2, 1, 40),
  (7, ⟨RX7, "<init>", "(LRoundSlack$Text;)V"⟩, prog_9_method_1_code, 2, 0, 2, 2, 1, 40),
  (11, ⟨RX11, "depot", "(II)I"⟩, prog_1_method_2_code, 3, 1, 0, 3, 2, 65),
  (11, ⟨RX11, "within", "(III)Z"⟩, prog_1_method_49_code, 3, 2, 1, 3, 1, 40),
  (8, ⟨RX8, "stopsInAll", "()I"⟩, prog_10_method_4_code, 1, 1, 0, 1, 1, 40),
  (0, ⟨RX0, "placeAt", "(III)V"⟩, prog_2_method_2_code, 6, 0, 0, 4, 1, 40),
  (9, ⟨RX9, "forget", "()V"⟩, prog_11_method_4_code, 1, 0, 0, 1, 1, 40),
  (11, ⟨RX11, "order", "(IIIII)I"⟩, prog_1_method_3_code, 6, 1, 0, 6, 3, 91),
  (0, ⟨RX0, "enter", "(IIIII)I"⟩, prog_2_method_3_code, 7, 1, 0, 6, 2, 65),
  (11, ⟨RX11, "load", "(III)I"⟩, prog_1_method_4_code, 6, 1, 0, 4, 2, 63),
  (11, ⟨RX11, "isOrder", "(I)Z"⟩, prog_1_method_53_code, 2, 2, 0, 2, 1, 40),
  (8, ⟨RX8, "vanOf", "(I)I"⟩, prog_10_method_5_code, 4, 1, 0, 2, 1, 40),
  (11, ⟨RX11, "van", "(IIII)I"⟩, prog_1_method_5_code, 5, 1, 0, 5, 2, 62),
  (11, ⟨RX11, "isVan", "(I)Z"⟩, prog_1_method_51_code, 1, 2, 1, 1, 1, 40),
  (11, ⟨RX11, "price", "(II)I"⟩, prog_1_method_6_code, 4, 1, 0, 3, 2, 62),
  (11, ⟨RX11, "feed", "(I)I"⟩, prog_1_method_7_code, 2, 1, 0, 2, 2, 62),
  (10, ⟨RX10, "add", "(I)Z"⟩, prog_12_method_2_code, 2, 2, 0, 2, 1, 40),
  (11, ⟨RX11, "clear", "()I"⟩, prog_1_method_8_code, 2, 1, 0, 1, 1, 40),
  (11, ⟨RX11, "orders", "()I"⟩, prog_1_method_9_code, 5, 1, 0, 1, 6, 151),
  (7, ⟨RX7, "readOrders", "()I"⟩, prog_9_method_9_code, 3, 1, 0, 1, 5, 129),
  (7, ⟨RX7, "begin", "()V"⟩, prog_9_method_2_code, 1, 0, 0, 1, 1, 40),
  (7, ⟨RX7, "readOrder", "([I)V"⟩, prog_9_method_10_code, 2, 0, 0, 2, 4, 108),
  (7, ⟨RX7, "number", "(III)I"⟩, prog_9_method_6_code, 7, 1, 0, 4, 2, 61),
  (10, ⟨RX10, "at", "(I)I"⟩, prog_12_method_4_code, 2, 1, 0, 2, 1, 40),
  (7, ⟨RX7, "isFigure", "(I)Z"⟩, prog_9_method_7_code, 1, 2, 1, 1, 1, 40),
  (7, ⟨RX7, "failAt", "(I)V"⟩, prog_9_method_5_code, 2, 0, 0, 2, 1, 40),
  (7, ⟨RX7, "pass", "(I)V"⟩, prog_9_method_4_code, 2, 0, 0, 2, 3, 82),
  (7, ⟨RX7, "sees", "(I)Z"⟩, prog_9_method_3_code, 2, 2, 0, 2, 2, 61),
  (7, ⟨RX7, "readLoad", "(I)I"⟩, prog_9_method_11_code, 2, 1, 0, 2, 3, 87)]
def mtab_1 : List MI := [(7, ⟨RX7, "isAtEnd", "()Z"⟩, prog_9_method_8_code, 1, 2, 0, 1, 1, 40),
  (11, ⟨RX11, "plan", "()I"⟩, prog_1_method_10_code, 2, 1, 0, 1, 6, 154),
  (7, ⟨RX7, "readPlan", "(LRoundSlack$Rounds;I)I"⟩, prog_9_method_12_code, 5, 1, 0, 3, 5, 130),
  (8, ⟨RX8, "clearAll", "()V"⟩, prog_10_method_3_code, 2, 0, 0, 1, 1, 40),
  (7, ⟨RX7, "readRound", "(LRoundSlack$Rounds;II)V"⟩, prog_9_method_13_code, 8, 0, 0, 4, 4, 103),
  (8, ⟨RX8, "insert", "(III)V"⟩, prog_10_method_9_code, 6, 0, 0, 4, 1, 40),
  (4, ⟨RX4, "costOfAll", "(LRoundSlack$Rounds;)I"⟩, prog_6_method_6_code, 5, 1, 0, 2, 4, 119),
  (4, ⟨RX4, "costOf", "(LRoundSlack$Rounds;I)I"⟩, prog_6_method_3_code, 3, 1, 0, 3, 3, 97),
  (4, ⟨RX4, "goRound", "(LRoundSlack$Rounds;III)V"⟩, prog_6_method_2_code, 8, 0, 0, 5, 2, 70),
  (6, ⟨RX6, "beginAt", "(III)V"⟩, prog_8_method_2_code, 4, 0, 0, 4, 1, 40),
  (6, ⟨RX6, "goOn", "(II)V"⟩, prog_8_method_3_code, 11, 0, 0, 3, 1, 40),
  (4, ⟨RX4, "costOfPart", "(I)I"⟩, prog_6_method_5_code, 2, 1, 0, 2, 1, 40),
  (8, ⟨RX8, "bits", "()I"⟩, prog_10_method_7_code, 4, 1, 0, 1, 1, 40),
  (8, ⟨RX8, "copyFrom", "(LRoundSlack$Rounds;)V"⟩, prog_10_method_2_code, 3, 0, 0, 2, 1, 40),
  (11, ⟨RX11, "spell", "()I"⟩, prog_1_method_11_code, 4, 1, 0, 1, 3, 82),
  (10, ⟨RX10, "addNumber", "(I)V"⟩, prog_12_method_3_code, 2, 0, 0, 2, 2, 61),
  (11, ⟨RX11, "paper", "(I)I"⟩, prog_1_method_12_code, 2, 1, 0, 2, 2, 61),
  (11, ⟨RX11, "way", "(II)I"⟩, prog_1_method_13_code, 3, 1, 0, 3, 2, 61),
  (11, ⟨RX11, "of", "(II)I"⟩, prog_1_method_14_code, 3, 1, 0, 3, 2, 63),
  (11, ⟨RX11, "orLacking", "(I)I"⟩, prog_1_method_50_code, 1, 1, 1, 1, 1, 40),
  (8, ⟨RX8, "placeOf", "(I)I"⟩, prog_10_method_6_code, 4, 1, 0, 2, 1, 40),
  (11, ⟨RX11, "stops", "(I)I"⟩, prog_1_method_15_code, 2, 1, 0, 2, 2, 60),
  (11, ⟨RX11, "stop", "(II)I"⟩, prog_1_method_16_code, 3, 1, 0, 3, 2, 62),
  (11, ⟨RX11, "driven", "(III)I"⟩, prog_1_method_17_code, 4, 1, 0, 4, 3, 88),
  (11, ⟨RX11, "isStopOrReturn", "(II)Z"⟩, prog_1_method_54_code, 3, 2, 0, 3, 2, 62),
  (1, ⟨RX1, "driveTo", "(LRoundSlack$Rounds;II)V"⟩, prog_3_method_3_code, 7, 0, 0, 4, 2, 62),
  (1, ⟨RX1, "placeAt", "(LRoundSlack$Rounds;II)I"⟩, prog_3_method_2_code, 3, 1, 1, 3, 1, 40),
  (11, ⟨RX11, "latest", "(II)I"⟩, prog_1_method_18_code, 3, 1, 0, 3, 3, 90),
  (1, ⟨RX1, "latestAt", "(LRoundSlack$Rounds;II)I"⟩, prog_3_method_4_code, 9, 1, 0, 4, 2, 62),
  (11, ⟨RX11, "slack", "(II)I"⟩, prog_1_method_19_code, 3, 1, 0, 3, 3, 90),
  (11, ⟨RX11, "piece", "(IIII)I"⟩, prog_1_method_20_code, 7, 1, 0, 5, 2, 70),
  (6, ⟨RX6, "tell", "(I)I"⟩, prog_8_method_4_code, 2, 1, 0, 2, 1, 40),
  (11, ⟨RX11, "whole", "(II)I"⟩, prog_1_method_21_code, 3, 1, 0, 3, 3, 97),
  (11, ⟨RX11, "cost", "(I)I"⟩, prog_1_method_22_code, 2, 1, 0, 2, 5, 143),
  (11, ⟨RX11, "left", "()I"⟩, prog_1_method_23_code, 1, 1, 0, 1, 2, 63),
  (11, ⟨RX11, "put", "(III)I"⟩, prog_1_method_24_code, 4, 1, 0, 4, 4, 121),
  (4, ⟨RX4, "costWith", "(LRoundSlack$Rounds;III)I"⟩, prog_6_method_4_code, 5, 1, 0, 5, 3, 97),
  (9, ⟨RX9, "keep", "(LRoundSlack$Rounds;)V"⟩, prog_11_method_2_code, 2, 0, 0, 2, 2, 62),
  (11, ⟨RX11, "would", "(III)J"⟩, prog_1_method_25_code, 5, 3, 0, 4, 4, 121),
  (11, ⟨RX11, "take", "(I)I"⟩, prog_1_method_26_code, 3, 1, 0, 2, 3, 88)]
def mtab_2 : List MI := [(8, ⟨RX8, "remove", "(I)V"⟩, prog_10_method_10_code, 6, 0, 0, 2, 2, 63),
  (11, ⟨RX11, "may", "(IIII)I"⟩, prog_1_method_27_code, 5, 1, 0, 5, 5, 145),
  (5, ⟨RX5, "isMove", "(IIII)Z"⟩, prog_7_method_2_code, 5, 2, 0, 5, 3, 85),
  (5, ⟨RX5, "lastPlaceFor", "(II)I"⟩, prog_7_method_3_code, 3, 1, 0, 3, 2, 63),
  (5, ⟨RX5, "weighNow", "()V"⟩, prog_7_method_4_code, 2, 0, 0, 1, 4, 119),
  (5, ⟨RX5, "weigh", "(IIII)I"⟩, prog_7_method_5_code, 7, 1, 0, 5, 4, 119),
  (5, ⟨RX5, "changes", "(IIII)Z"⟩, prog_7_method_6_code, 5, 2, 0, 5, 2, 63),
  (5, ⟨RX5, "shape", "(IIII)V"⟩, prog_7_method_7_code, 6, 0, 0, 5, 3, 88),
  (5, ⟨RX5, "crossTail", "(IIII)V"⟩, prog_7_method_8_code, 6, 0, 0, 5, 1, 40),
  (11, ⟨RX11, "gain", "(IIII)J"⟩, prog_1_method_28_code, 5, 3, 0, 5, 5, 145),
  (11, ⟨RX11, "move", "(IIII)I"⟩, prog_1_method_29_code, 6, 1, 0, 5, 5, 145),
  (11, ⟨RX11, "best", "(II)I"⟩, prog_1_method_30_code, 3, 1, 0, 3, 6, 170),
  (5, ⟨RX5, "scan", "(I)V"⟩, prog_7_method_9_code, 6, 0, 0, 2, 5, 145),
  (5, ⟨RX5, "mostC", "(III)I"⟩, prog_7_method_10_code, 4, 1, 0, 4, 3, 85),
  (5, ⟨RX5, "note", "(III)V"⟩, prog_7_method_11_code, 4, 0, 0, 4, 1, 40),
  (11, ⟨RX11, "descent", "(I)I"⟩, prog_1_method_31_code, 3, 1, 0, 2, 7, 194),
  (5, ⟨RX5, "descend", "(I)I"⟩, prog_7_method_12_code, 5, 1, 0, 2, 6, 170),
  (11, ⟨RX11, "many", "(I)I"⟩, prog_1_method_32_code, 2, 1, 0, 2, 6, 170),
  (11, ⟨RX11, "priced", "(II)I"⟩, prog_1_method_33_code, 3, 1, 0, 3, 5, 146),
  (2, ⟨RX2, "weigh", "(I)V"⟩, prog_4_method_2_code, 6, 0, 0, 2, 4, 121),
  (11, ⟨RX11, "placed", "(II)I"⟩, prog_1_method_34_code, 3, 1, 0, 3, 5, 146),
  (11, ⟨RX11, "regret", "(II)I"⟩, prog_1_method_35_code, 3, 1, 0, 3, 5, 146),
  (2, ⟨RX2, "regretBy", "(I)I"⟩, prog_4_method_3_code, 4, 1, 0, 2, 1, 40),
  (11, ⟨RX11, "first", "(I)I"⟩, prog_1_method_36_code, 2, 1, 0, 2, 6, 173),
  (2, ⟨RX2, "choose", "(I)V"⟩, prog_4_method_5_code, 8, 0, 0, 2, 5, 146),
  (2, ⟨RX2, "cheapestVan", "()I"⟩, prog_4_method_4_code, 3, 1, 0, 1, 1, 40),
  (11, ⟨RX11, "fill", "(I)I"⟩, prog_1_method_37_code, 3, 1, 0, 2, 7, 195),
  (2, ⟨RX2, "fillBy", "(I)I"⟩, prog_4_method_6_code, 3, 1, 0, 2, 6, 173),
  (11, ⟨RX11, "ruin", "(II)I"⟩, prog_1_method_38_code, 4, 1, 0, 3, 4, 112),
  (2, ⟨RX2, "ruinAround", "(II)I"⟩, prog_4_method_7_code, 5, 1, 0, 3, 3, 88),
  (2, ⟨RX2, "nearestTo", "(I)I"⟩, prog_4_method_8_code, 5, 1, 0, 2, 2, 63),
  (11, ⟨RX11, "again", "(III)I"⟩, prog_1_method_39_code, 6, 1, 0, 4, 7, 195),
  (11, ⟨RX11, "back", "()I"⟩, prog_1_method_40_code, 1, 1, 0, 1, 3, 83),
  (9, ⟨RX9, "takeBack", "(LRoundSlack$Rounds;)Z"⟩, prog_11_method_3_code, 2, 2, 0, 2, 2, 62),
  (11, ⟨RX11, "told", "(I)I"⟩, prog_1_method_41_code, 2, 1, 0, 2, 2, 62),
  (8, ⟨RX8, "vanBits", "()I"⟩, prog_10_method_8_code, 3, 1, 0, 1, 1, 40),
  (11, ⟨RX11, "row", "(II)I"⟩, prog_1_method_42_code, 4, 1, 0, 3, 2, 60),
  (11, ⟨RX11, "isRow", "(I)Z"⟩, prog_1_method_52_code, 1, 2, 1, 1, 1, 40),
  (11, ⟨RX11, "set", "(III)I"⟩, prog_1_method_43_code, 4, 1, 0, 4, 2, 62),
  (11, ⟨RX11, "get", "(II)J"⟩, prog_1_method_44_code, 3, 3, 0, 3, 2, 62)]
def mtab_3 : List MI := [(11, ⟨RX11, "lay", "(II)I"⟩, prog_1_method_45_code, 6, 1, 0, 3, 2, 62),
  (11, ⟨RX11, "judge", "(II)I"⟩, prog_1_method_46_code, 4, 1, 0, 3, 5, 143),
  (11, ⟨RX11, "endsFourTimes", "(II)Z"⟩, prog_1_method_55_code, 5, 2, 0, 3, 1, 40),
  (11, ⟨RX11, "thinkOfRow", "(II)Z"⟩, prog_1_method_56_code, 6, 2, 0, 3, 2, 65),
  (11, ⟨RX11, "image", "()I"⟩, prog_1_method_47_code, 1, 1, 0, 1, 2, 62),
  (0, ⟨RX0, "copyFrom", "(LRoundSlack$Book;)V"⟩, prog_2_method_4_code, 3, 0, 0, 2, 1, 40),
  (3, ⟨RX3, "copyFrom", "(LRoundSlack$Fleet;)V"⟩, prog_5_method_2_code, 2, 0, 0, 2, 1, 40),
  (11, ⟨RX11, "undo", "()I"⟩, prog_1_method_48_code, 1, 1, 0, 1, 2, 62),
  (12, ⟨RX12, "<init>", "()V"⟩, prog_14_method_1_code, 2, 0, 2, 1, 1, 40),
  (12, ⟨RX12, "depot", "(II)I"⟩, prog_14_method_37_code, 3, 1, 0, 3, 3, 81),
  (12, ⟨RX12, "isIn", "(III)Z"⟩, prog_14_method_2_code, 3, 2, 1, 3, 1, 40),
  (12, ⟨RX12, "isEmpty", "()Z"⟩, prog_14_method_16_code, 1, 2, 0, 1, 2, 61),
  (12, ⟨RX12, "stopsOf", "(I)I"⟩, prog_14_method_15_code, 2, 1, 0, 2, 1, 40),
  (12, ⟨RX12, "forgets", "(I)I"⟩, prog_14_method_36_code, 2, 1, 0, 2, 1, 40),
  (12, ⟨RX12, "order", "(IIIII)I"⟩, prog_14_method_39_code, 6, 1, 0, 6, 2, 68),
  (12, ⟨RX12, "adds", "(IIIIIII)V"⟩, prog_14_method_38_code, 9, 0, 0, 8, 1, 40),
  (12, ⟨RX12, "load", "(III)I"⟩, prog_14_method_40_code, 5, 1, 0, 4, 3, 84),
  (12, ⟨RX12, "isOrder", "(I)Z"⟩, prog_14_method_3_code, 2, 2, 0, 2, 2, 62),
  (12, ⟨RX12, "isLeft", "(I)Z"⟩, prog_14_method_14_code, 2, 2, 0, 2, 2, 63),
  (12, ⟨RX12, "vanOf", "(I)I"⟩, prog_14_method_12_code, 4, 1, 0, 2, 1, 40),
  (12, ⟨RX12, "ofOrder", "(II)I"⟩, prog_14_method_5_code, 3, 1, 0, 3, 1, 40),
  (12, ⟨RX12, "van", "(IIII)I"⟩, prog_14_method_41_code, 5, 1, 0, 5, 3, 82),
  (12, ⟨RX12, "isVan", "(I)Z"⟩, prog_14_method_4_code, 1, 2, 1, 1, 2, 62),
  (12, ⟨RX12, "price", "(II)I"⟩, prog_14_method_42_code, 4, 1, 0, 3, 2, 62),
  (12, ⟨RX12, "feed", "(I)I"⟩, prog_14_method_43_code, 2, 1, 0, 2, 2, 62),
  (12, ⟨RX12, "clear", "()I"⟩, prog_14_method_44_code, 2, 1, 0, 1, 1, 40),
  (12, ⟨RX12, "orders", "()I"⟩, prog_14_method_50_code, 4, 1, 0, 1, 5, 131),
  (12, ⟨RX12, "readsOrder", "(I)Z"⟩, prog_14_method_49_code, 2, 2, 0, 2, 4, 110),
  (12, ⟨RX12, "readsNumber", "(III)Z"⟩, prog_14_method_48_code, 4, 2, 0, 4, 3, 87),
  (12, ⟨RX12, "number", "(III)I"⟩, prog_14_method_46_code, 6, 1, 0, 4, 2, 62),
  (12, ⟨RX12, "here", "()I"⟩, prog_14_method_45_code, 1, 1, 0, 1, 1, 40),
  (12, ⟨RX12, "takesSign", "(I)Z"⟩, prog_14_method_47_code, 2, 2, 0, 2, 2, 60),
  (12, ⟨RX12, "plan", "()I"⟩, prog_14_method_55_code, 2, 1, 0, 1, 6, 156),
  (12, ⟨RX12, "empties", "()V"⟩, prog_14_method_53_code, 2, 0, 0, 1, 1, 40),
  (12, ⟨RX12, "readsVan", "(I)I"⟩, prog_14_method_52_code, 3, 1, 0, 2, 4, 110),
  (12, ⟨RX12, "readsStop", "(I)Z"⟩, prog_14_method_51_code, 4, 2, 0, 2, 3, 87),
  (12, ⟨RX12, "sizeOf", "([II)I"⟩, prog_14_method_6_code, 3, 1, 0, 3, 1, 40),
  (12, ⟨RX12, "putsIn", "([IIII)V"⟩, prog_14_method_18_code, 5, 0, 1, 4, 1, 40),
  (12, ⟨RX12, "isGood", "([I)Z"⟩, prog_14_method_33_code, 3, 2, 0, 2, 5, 134),
  (12, ⟨RX12, "isGoodOf", "([II)Z"⟩, prog_14_method_32_code, 3, 2, 0, 3, 4, 112)]
def mtab_4 : List MI := [(12, ⟨RX12, "wholeOf", "([II)V"⟩, prog_14_method_24_code, 3, 0, 0, 3, 3, 88),
  (12, ⟨RX12, "nodesOf", "([IIII)V"⟩, prog_14_method_23_code, 6, 0, 0, 5, 2, 63),
  (12, ⟨RX12, "at", "([III)I"⟩, prog_14_method_7_code, 4, 1, 0, 4, 1, 40),
  (12, ⟨RX12, "openOf", "(II)I"⟩, prog_14_method_20_code, 3, 1, 0, 3, 2, 62),
  (12, ⟨RX12, "drives", "(III)V"⟩, prog_14_method_25_code, 5, 0, 0, 4, 3, 88),
  (12, ⟨RX12, "serviceOf", "(I)I"⟩, prog_14_method_22_code, 2, 1, 0, 2, 2, 62),
  (12, ⟨RX12, "wayOf", "(II)I"⟩, prog_14_method_19_code, 7, 1, 0, 3, 2, 62),
  (12, ⟨RX12, "closeOf", "(II)I"⟩, prog_14_method_21_code, 3, 1, 0, 3, 2, 62),
  (12, ⟨RX12, "topOf", "()I"⟩, prog_14_method_29_code, 4, 1, 0, 1, 3, 85),
  (12, ⟨RX12, "sumOf", "(I)I"⟩, prog_14_method_27_code, 4, 1, 0, 2, 2, 62),
  (12, ⟨RX12, "becomes", "()V"⟩, prog_14_method_10_code, 2, 0, 0, 1, 1, 40),
  (12, ⟨RX12, "stopsIn", "()I"⟩, prog_14_method_54_code, 1, 1, 0, 1, 1, 40),
  (12, ⟨RX12, "spell", "()I"⟩, prog_14_method_57_code, 4, 1, 0, 1, 2, 61),
  (12, ⟨RX12, "writes", "(I)V"⟩, prog_14_method_56_code, 2, 0, 0, 2, 1, 40),
  (12, ⟨RX12, "paper", "(I)I"⟩, prog_14_method_58_code, 2, 1, 0, 2, 2, 62),
  (12, ⟨RX12, "way", "(II)I"⟩, prog_14_method_59_code, 3, 1, 0, 3, 3, 88),
  (12, ⟨RX12, "of", "(II)I"⟩, prog_14_method_60_code, 3, 1, 0, 3, 3, 86),
  (12, ⟨RX12, "placeOf", "(I)I"⟩, prog_14_method_13_code, 4, 1, 0, 2, 2, 63),
  (12, ⟨RX12, "stops", "(I)I"⟩, prog_14_method_61_code, 2, 1, 0, 2, 3, 82),
  (12, ⟨RX12, "stop", "(II)I"⟩, prog_14_method_62_code, 3, 1, 0, 3, 3, 82),
  (12, ⟨RX12, "driven", "(III)I"⟩, prog_14_method_66_code, 4, 1, 0, 4, 5, 134),
  (12, ⟨RX12, "isStop", "(II)Z"⟩, prog_14_method_63_code, 3, 2, 0, 3, 3, 82),
  (12, ⟨RX12, "drivesTo", "(II)V"⟩, prog_14_method_64_code, 3, 0, 0, 3, 4, 112),
  (12, ⟨RX12, "looks", "()V"⟩, prog_14_method_8_code, 2, 0, 0, 1, 1, 40),
  (12, ⟨RX12, "loadBehind", "(II)I"⟩, prog_14_method_65_code, 5, 1, 0, 3, 3, 85),
  (12, ⟨RX12, "latest", "(II)I"⟩, prog_14_method_67_code, 3, 1, 0, 3, 4, 112),
  (12, ⟨RX12, "latestOf", "(II)I"⟩, prog_14_method_26_code, 5, 1, 0, 3, 3, 88),
  (12, ⟨RX12, "slack", "(II)I"⟩, prog_14_method_68_code, 3, 1, 0, 3, 5, 134),
  (12, ⟨RX12, "piece", "(IIII)I"⟩, prog_14_method_69_code, 5, 1, 0, 5, 6, 161),
  (12, ⟨RX12, "toldOf", "(II)I"⟩, prog_14_method_31_code, 3, 1, 0, 3, 5, 139),
  (12, ⟨RX12, "driveOf", "()I"⟩, prog_14_method_28_code, 3, 1, 0, 1, 3, 88),
  (12, ⟨RX12, "hoursOf", "(II)I"⟩, prog_14_method_30_code, 8, 1, 0, 3, 4, 112),
  (12, ⟨RX12, "whole", "(II)I"⟩, prog_14_method_70_code, 3, 1, 0, 3, 6, 161),
  (12, ⟨RX12, "cost", "(I)I"⟩, prog_14_method_71_code, 2, 1, 0, 2, 7, 186),
  (12, ⟨RX12, "costOf", "([I)I"⟩, prog_14_method_35_code, 6, 1, 0, 2, 6, 161),
  (12, ⟨RX12, "costOfVan", "([II)I"⟩, prog_14_method_34_code, 3, 1, 0, 3, 5, 139),
  (12, ⟨RX12, "left", "()I"⟩, prog_14_method_72_code, 3, 1, 0, 1, 3, 84),
  (12, ⟨RX12, "back", "()I"⟩, prog_14_method_76_code, 2, 1, 0, 1, 1, 40),
  (12, ⟨RX12, "put", "(III)I"⟩, prog_14_method_79_code, 4, 1, 0, 4, 6, 157),
  (12, ⟨RX12, "isPut", "(III)Z"⟩, prog_14_method_77_code, 4, 2, 0, 4, 3, 83)]
def mtab_5 : List MI := [(12, ⟨RX12, "isGoodWith", "(III)Z"⟩, prog_14_method_78_code, 4, 2, 0, 4, 5, 134),
  (12, ⟨RX12, "tries", "()V"⟩, prog_14_method_9_code, 2, 0, 0, 1, 1, 40),
  (12, ⟨RX12, "marks", "()V"⟩, prog_14_method_74_code, 2, 0, 0, 1, 1, 40),
  (12, ⟨RX12, "steps", "()V"⟩, prog_14_method_73_code, 2, 0, 0, 1, 1, 40),
  (12, ⟨RX12, "would", "(III)J"⟩, prog_14_method_81_code, 4, 3, 0, 4, 7, 182),
  (12, ⟨RX12, "moreBy", "(I)I"⟩, prog_14_method_80_code, 2, 1, 0, 2, 6, 161),
  (12, ⟨RX12, "take", "(I)I"⟩, prog_14_method_82_code, 3, 1, 0, 2, 3, 86),
  (12, ⟨RX12, "takesOut", "([III)V"⟩, prog_14_method_17_code, 4, 0, 1, 3, 1, 40),
  (12, ⟨RX12, "may", "(IIII)I"⟩, prog_14_method_90_code, 5, 1, 0, 5, 7, 180),
  (12, ⟨RX12, "isMove", "(IIII)Z"⟩, prog_14_method_84_code, 5, 2, 0, 5, 4, 105),
  (12, ⟨RX12, "isInRound", "(I)Z"⟩, prog_14_method_83_code, 2, 2, 0, 2, 3, 84),
  (12, ⟨RX12, "mayBe", "(IIII)Z"⟩, prog_14_method_88_code, 5, 2, 0, 5, 6, 156),
  (12, ⟨RX12, "makes", "(IIII)V"⟩, prog_14_method_87_code, 5, 0, 0, 5, 3, 91),
  (12, ⟨RX12, "crosses", "(IIII)V"⟩, prog_14_method_85_code, 8, 0, 0, 5, 2, 64),
  (12, ⟨RX12, "turns", "(III)V"⟩, prog_14_method_86_code, 5, 0, 0, 4, 2, 63),
  (12, ⟨RX12, "isOtherwise", "()Z"⟩, prog_14_method_11_code, 3, 2, 0, 1, 2, 63),
  (12, ⟨RX12, "gain", "(IIII)J"⟩, prog_14_method_91_code, 5, 3, 0, 5, 8, 206),
  (12, ⟨RX12, "gained", "()I"⟩, prog_14_method_89_code, 1, 1, 0, 1, 7, 186),
  (12, ⟨RX12, "move", "(IIII)I"⟩, prog_14_method_92_code, 5, 1, 0, 5, 6, 156),
  (12, ⟨RX12, "best", "(II)I"⟩, prog_14_method_95_code, 3, 1, 0, 3, 10, 256),
  (12, ⟨RX12, "goesOver", "(I)V"⟩, prog_14_method_93_code, 6, 0, 0, 2, 9, 231),
  (12, ⟨RX12, "goesBy", "(IIII)V"⟩, prog_14_method_94_code, 6, 0, 0, 5, 8, 206),
  (12, ⟨RX12, "many", "(I)I"⟩, prog_14_method_96_code, 2, 1, 0, 2, 10, 256),
  (12, ⟨RX12, "descent", "(I)I"⟩, prog_14_method_98_code, 3, 1, 0, 2, 11, 279),
  (12, ⟨RX12, "descends", "(I)I"⟩, prog_14_method_97_code, 4, 1, 0, 2, 10, 256),
  (12, ⟨RX12, "priced", "(II)I"⟩, prog_14_method_100_code, 3, 1, 0, 3, 8, 206),
  (12, ⟨RX12, "prices", "(II)V"⟩, prog_14_method_99_code, 5, 0, 0, 3, 7, 182),
  (12, ⟨RX12, "placed", "(II)I"⟩, prog_14_method_101_code, 3, 1, 0, 3, 8, 206),
  (12, ⟨RX12, "regret", "(II)I"⟩, prog_14_method_104_code, 3, 1, 0, 3, 10, 253),
  (12, ⟨RX12, "regretOf", "(II)I"⟩, prog_14_method_103_code, 5, 1, 0, 3, 9, 229),
  (12, ⟨RX12, "sorts", "(I)V"⟩, prog_14_method_102_code, 4, 0, 0, 2, 8, 206),
  (12, ⟨RX12, "first", "(I)I"⟩, prog_14_method_106_code, 2, 1, 0, 2, 11, 279),
  (12, ⟨RX12, "firstOf", "(I)I"⟩, prog_14_method_105_code, 7, 1, 0, 2, 10, 253),
  (12, ⟨RX12, "fill", "(I)I"⟩, prog_14_method_108_code, 3, 1, 0, 2, 12, 302),
  (12, ⟨RX12, "fills", "(I)I"⟩, prog_14_method_107_code, 4, 1, 0, 2, 11, 279),
  (12, ⟨RX12, "ruin", "(II)I"⟩, prog_14_method_111_code, 4, 1, 0, 3, 5, 135),
  (12, ⟨RX12, "ruins", "(II)I"⟩, prog_14_method_110_code, 5, 1, 0, 3, 4, 111),
  (12, ⟨RX12, "nearest", "(I)I"⟩, prog_14_method_109_code, 4, 1, 0, 2, 3, 88),
  (12, ⟨RX12, "again", "(III)I"⟩, prog_14_method_112_code, 6, 1, 0, 4, 12, 302),
  (12, ⟨RX12, "marksBack", "()V"⟩, prog_14_method_75_code, 2, 0, 0, 1, 1, 40)]
def mtab_6 : List MI := [(12, ⟨RX12, "told", "(I)I"⟩, prog_14_method_113_code, 2, 1, 0, 2, 3, 81),
  (12, ⟨RX12, "leftMany", "()I"⟩, prog_14_method_114_code, 1, 1, 0, 1, 2, 61),
  (12, ⟨RX12, "row", "(II)I"⟩, prog_14_method_116_code, 4, 1, 0, 3, 3, 82),
  (12, ⟨RX12, "isRow", "(I)Z"⟩, prog_14_method_115_code, 1, 2, 1, 1, 2, 62),
  (12, ⟨RX12, "set", "(III)I"⟩, prog_14_method_117_code, 4, 1, 0, 4, 3, 82),
  (12, ⟨RX12, "get", "(II)J"⟩, prog_14_method_118_code, 3, 3, 0, 3, 3, 82),
  (12, ⟨RX12, "lay", "(II)I"⟩, prog_14_method_119_code, 6, 1, 0, 3, 3, 82),
  (12, ⟨RX12, "judge", "(II)I"⟩, prog_14_method_121_code, 6, 1, 0, 3, 7, 186),
  (12, ⟨RX12, "toldPlaces", "(II)I"⟩, prog_14_method_120_code, 5, 1, 0, 3, 1, 40),
  (12, ⟨RX12, "image", "()I"⟩, prog_14_method_122_code, 2, 1, 0, 1, 1, 40),
  (12, ⟨RX12, "undo", "()I"⟩, prog_14_method_123_code, 2, 1, 0, 1, 2, 61)]
def mtab : List MI := mtab_0 ++ (mtab_1 ++ (mtab_2 ++ (mtab_3 ++ (mtab_4 ++ (mtab_5 ++ (mtab_6))))))
def wtab : List (Nat × Nat × Nat × Nat) := [(0, 0, 0, 0), (112, 111, 0, 93), (120, 119, 0, 94), (186, 185, 0, 95), (215, 214, 0, 96), (239, 238, 0, 97), (259, 258, 0, 98), (300, 299, 0, 99), (316, 315, 0, 100), (345, 344, 0, 101), (397, 396, 0, 102), (434, 433, 0, 103), (453, 452, 0, 105), (532, 530, 531, 93), (535, 534, 0, 93), (539, 537, 538, 96), (543, 541, 542, 94), (550, 548, 549, 97), (554, 552, 553, 93), (558, 556, 557, 94), (563, 561, 562, 93), (567, 566, 0, 93), (571, 569, 570, 96), (575, 573, 574, 93), (578, 577, 0, 93), (582, 580, 581, 93), (586, 584, 585, 93), (590, 588, 589, 103), (594, 592, 593, 93), (598, 596, 597, 93), (602, 600, 601, 105), (606, 605, 1, 105), (610, 609, 2, 105), (614, 613, 3, 105), (618, 616, 617, 103), (621, 620, 0, 105), (625, 624, 4, 105), (629, 628, 5, 105), (633, 632, 6, 105), (637, 636, 7, 105), (641, 640, 8, 105), (645, 643, 644, 93), (649, 647, 648, 105), (653, 651, 652, 96), (657, 656, 9, 105), (662, 660, 661, 96), (667, 665, 666, 99), (671, 669, 670, 99), (675, 673, 674, 99), (679, 677, 678, 98), (683, 681, 682, 98), (687, 686, 10, 99), (691, 689, 690, 96), (695, 693, 694, 96), (702, 700, 701, 93), (706, 704, 705, 103), (711, 709, 710, 93), (716, 714, 715, 93), (720, 718, 719, 93), (723, 722, 0, 93), (727, 725, 726, 96), (731, 729, 730, 93), (735, 733, 734, 93), (739, 737, 738, 93), (743, 742, 11, 93), (747, 745, 746, 100), (750, 749, 0, 100), (755, 753, 754, 93), (759, 757, 758, 100), (766, 764, 765, 93), (770, 768, 769, 93), (776, 774, 775, 98), (780, 778, 779, 93), (785, 783, 784, 93), (790, 788, 789, 93), (795, 793, 794, 93), (799, 797, 798, 99), (803, 801, 802, 97), (809, 807, 808, 93), (814, 812, 813, 93), (818, 816, 817, 96), (824, 822, 823, 93), (828, 826, 827, 101), (834, 833, 12, 101), (839, 837, 838, 101), (844, 842, 843, 101), (848, 847, 13, 101), (854, 853, 14, 101), (860, 859, 15, 101), (865, 863, 864, 93), (869, 867, 868, 93), (873, 871, 872, 93), (877, 875, 876, 101), (882, 881, 16, 101), (888, 887, 17, 101), (892, 890, 891, 93), (896, 894, 895, 101), (901, 899, 900, 93), (905, 903, 904, 93), (909, 907, 908, 102), (917, 915, 916, 93), (921, 919, 920, 93), (925, 923, 924, 102), (929, 927, 928, 93), (933, 931, 932, 102), (939, 938, 18, 102), (944, 942, 943, 93), (948, 946, 947, 102), (954, 952, 953, 93), (958, 956, 957, 102), (962, 961, 19, 102), (967, 965, 966, 93), (971, 969, 970, 93), (975, 973, 974, 97), (979, 977, 978, 93), (983, 981, 982, 96), (987, 985, 986, 93), (990, 989, 0, 93), (994, 992, 993, 93), (998, 996, 997, 93), (1002, 1000, 1001, 93), (1006, 1004, 1005, 93), (1010, 1009, 20, 93), (1014, 1013, 21, 93), (1019, 1017, 1018, 93), (1023, 1021, 1022, 94), (1028, 1026, 1027, 95), (1033, 1031, 1032, 93), (1038, 1037, 0, 106), (1149, 1147, 1148, 106), (1152, 1151, 0, 106), (1156, 1155, 22, 106), (1160, 1159, 23, 106), (1164, 1163, 24, 106), (1168, 1166, 1167, 106), (1172, 1171, 25, 106), (1176, 1174, 1175, 106), (1180, 1179, 26, 106), (1184, 1183, 27, 106), (1188, 1187, 28, 106), (1192, 1191, 29, 106), (1196, 1194, 1195, 106), (1199, 1198, 0, 106), (1203, 1201, 1202, 106), (1207, 1205, 1206, 106), (1211, 1209, 1210, 106), (1215, 1213, 1214, 106), (1219, 1218, 30, 106), (1223, 1222, 31, 106), (1227, 1226, 32, 106), (1231, 1230, 33, 106), (1235, 1234, 34, 106), (1239, 1237, 1238, 106), (1243, 1242, 35, 106), (1247, 1246, 36, 106), (1251, 1250, 37, 106), (1255, 1254, 38, 106), (1258, 1257, 0, 106), (1262, 1261, 39, 106), (1266, 1265, 40, 106), (1270, 1269, 41, 106), (1274, 1273, 42, 106), (1278, 1277, 43, 106), (1282, 1281, 44, 106), (1286, 1285, 45, 106), (1290, 1289, 46, 106), (1294, 1293, 47, 106), (1300, 1299, 48, 106), (1304, 1303, 49, 106), (1308, 1307, 50, 106), (1312, 1311, 51, 106), (1316, 1315, 52, 106), (1320, 1318, 1319, 106), (1324, 1323, 53, 106), (1328, 1326, 1327, 106), (1332, 1330, 1331, 106), (1336, 1334, 1335, 106), (1340, 1339, 54, 106), (1344, 1342, 1343, 106), (1348, 1346, 1347, 106), (1352, 1350, 1351, 106), (1356, 1355, 55, 106), (1360, 1359, 56, 106), (1364, 1363, 57, 106), (1368, 1367, 58, 106), (1372, 1370, 1371, 106), (1376, 1375, 59, 106), (1381, 1379, 1380, 106), (1385, 1383, 1384, 106), (1389, 1388, 60, 106), (1393, 1392, 61, 106), (1397, 1396, 62, 106), (1401, 1399, 1400, 106), (1405, 1403, 1404, 106), (1409, 1408, 63, 106), (1413, 1412, 64, 106), (1417, 1415, 1416, 106), (1421, 1419, 1420, 106), (1425, 1423, 1424, 106), (1429, 1428, 65, 106), (1433, 1432, 66, 106), (1437, 1436, 67, 106), (1441, 1440, 68, 106), (1445, 1444, 69, 106), (1449, 1447, 1448, 106), (1453, 1452, 70, 106), (1458, 1456, 1457, 106), (1461, 1460, 0, 106), (1465, 1463, 1464, 106), (1469, 1468, 71, 106), (1473, 1472, 72, 106), (1477, 1476, 73, 106), (1481, 1480, 74, 106), (1485, 1484, 75, 106), (1489, 1488, 76, 106), (1493, 1492, 77, 106), (1497, 1495, 1496, 106), (1501, 1500, 78, 106), (1505, 1503, 1504, 106), (1509, 1507, 1508, 106), (1513, 1512, 79, 106), (1517, 1516, 80, 106), (1521, 1519, 1520, 106), (1525, 1523, 1524, 106), (1529, 1528, 81, 106), (1533, 1531, 1532, 106), (1537, 1536, 82, 106), (1542, 1540, 1541, 106), (1546, 1544, 1545, 106), (1550, 1549, 83, 106), (1554, 1553, 84, 106), (1558, 1556, 1557, 106), (1562, 1561, 85, 106), (1566, 1564, 1565, 106), (1570, 1569, 86, 106), (1574, 1572, 1573, 106), (1578, 1577, 87, 106), (1582, 1581, 88, 106), (1586, 1584, 1585, 106), (1591, 1590, 89, 106), (1595, 1593, 1594, 106), (1599, 1598, 90, 106), (1603, 1601, 1602, 106), (1606, 1605, 0, 106), (1610, 1608, 1609, 106), (1614, 1612, 1613, 106), (1618, 1616, 1617, 106), (1622, 1620, 1621, 106), (1626, 1625, 91, 106), (1630, 1628, 1629, 106), (1634, 1632, 1633, 106)]
def nM : Nat := 251
def mdf : MI := (99, ⟨"", "", ""⟩, ⟨#[]⟩, 0, 0, 9, 0, 0, 0)
def mget (m : Nat) : MI := mtab.getD m mdf
def m_own (m : Nat) : Nat := (mget m).1
def m_y (m : Nat) : MethodName := (mget m).2.1
def m_cd (m : Nat) : ByteArray := (mget m).2.2.1
def m_ml (m : Nat) : Nat := (mget m).2.2.2.1
def m_rk (m : Nat) : Nat := (mget m).2.2.2.2.1
def m_kd (m : Nat) : Nat := (mget m).2.2.2.2.2.1
def m_np (m : Nat) : Nat := (mget m).2.2.2.2.2.2.1
def m_fr (m : Nat) : Nat := (mget m).2.2.2.2.2.2.2.1
def m_lo (m : Nat) : Nat := (mget m).2.2.2.2.2.2.2.2
def cname (c : Nat) : String := am_names.getD c ""
def tyT (ci k : Nat) : FieldType := match ci with
  | 0 => tyX0 k | 1 => tyX1 k | 2 => tyX2 k | 3 => tyX3 k | 4 => tyX4 k | 5 => tyX5 k | 6 => tyX6 k | 7 => tyX7 k | 8 => tyX8 k | 9 => tyX9 k | 10 => tyX10 k | 11 => tyX11 k | 12 => tyX12 k | _ => .int
/-- what a field holds: 0 int, 1 boolean, 2 a reference, 3 another -/
def fk (ci k : Nat) : Nat := match tyT ci k with
  | .int => 0 | .boolean => 1 | .object _ => 2 | .array _ => 2 | _ => 3
def fFin (ci k : Nat) : Bool := match vwCl[ci]? with | some q => (q.2.1 k).2.2.2 | none => false
def nF (ci : Nat) : Nat := match vwCl[ci]? with | some q => q.2.2 | none => 0
def tgt (pc : Nat) (off : Int) : Int := (pc : Int) + off
def rsc (c : Jvm.ClassFile.Cond) : Nat := match c with | .eq => 0 | .ne => 1 | .lt => 2 | .ge => 3 | .gt => 4 | .le => 5
def rcall (m k mid : Nat) : Option RI := if mid < nM ∧ m_kd mid = k ∧ m_fr mid + 1 ≤ m_fr m ∧ 8 + (m_ml mid + 11) + m_lo mid ≤ m_lo m ∧ m_np mid ≤ m_ml mid then some (43, mid, (m_np mid : Int), [((k : Int), 0)]) else none
def rjdk (k : Nat) : Option RI := if k = 1 then some (31, 0, 0, []) else if k = 2 then some (32, 0, 0, []) else if k = 3 then some (33, 0, 0, []) else if k = 4 then some (34, 0, 0, []) else none
def rput (m ci k : Nat) : Option RI := if k < nF ci ∧ ci < 13 ∧ (fFin ci k = false ∨ (m_kd m = 2 ∧ m_own m = ci)) then (if fk ci k = 2 then some (10, ci, k, []) else if fk ci k = 0 then some (9, ci, k, []) else if fk ci k = 1 then some (9, ci, k, [(0, 0)]) else none) else none
def rget (ci k : Nat) : Option RI := if k < nF ci ∧ ci < 13 then (if fk ci k = 2 then some (8, ci, k, []) else if fk ci k < 2 then some (7, ci, k, []) else none) else none
/-- an instruction with its entries looked up -/
def rs (m pc len : Nat) (i : Instr) : Option RI := match i with
  | .iconst n => if len = 1 ∧ inR n then some (0, 0, n, []) else none
  | .bipush n => if len = 2 ∧ -128 ≤ n ∧ n ≤ 127 then some (0, 0, n, []) else none
  | .sipush n => if len = 3 ∧ -32768 ≤ n ∧ n ≤ 32767 then some (0, 0, n, []) else none
  | .ldc ix => if len = 2 then (match ktab.lookup (m_own m, ix) with | some q => some (0, 0, q.1, []) | none => none) else none
  | .ldc_w ix => if len = 3 then (match ktab.lookup (m_own m, ix) with | some q => some (0, 0, q.1, []) | none => none) else none
  | .ldc2_w ix => if len = 3 then (match ltab.lookup (m_own m, ix) with | some q => some (1, 0, q.1, []) | none => none) else none
  | .iload_n k => if len = 1 then some (2, k.val, 0, []) else none
  | .iload k => if len = 2 then some (2, k, 0, []) else none
  | .aload_n k => if len = 1 then some (3, k.val, 0, []) else none
  | .aload k => if len = 2 then some (3, k, 0, []) else none
  | .istore_n k => if len = 1 then some (4, k.val, 0, []) else none
  | .istore k => if len = 2 then some (4, k, 0, []) else none
  | .astore_n k => if len = 1 then some (5, k.val, 0, []) else none
  | .astore k => if len = 2 then some (5, k, 0, []) else none
  | .iinc k n => if len = 3 then some (6, k, n, []) else none
  | .getfield ix => if len = 3 then (match ftab.lookup (m_own m, ix) with | some q => rget q.1 q.2.1 | none => none) else none
  | .putfield ix => if len = 3 then (match ftab.lookup (m_own m, ix) with | some q => rput m q.1 q.2.1 | none => none) else none
  | .iaload => if len = 1 then (if m_own m = 13 then some (36, 0, 0, []) else some (11, 100, 0, [])) else none
  | .baload => if len = 1 then some (11, 101, 0, []) else none
  | .aaload => if len = 1 then some (12, 0, 0, []) else none
  | .iastore => if len = 1 then some (13, 100, 0, []) else none
  | .bastore => if len = 1 then some (13, 101, 0, []) else none
  | .aastore => if len = 1 then some (14, 0, 0, []) else none
  | .arraylength => if len = 1 then (if m_own m = 13 then some (37, 0, 0, []) else some (15, 0, 0, [])) else none
  | .iadd => if len = 1 then some (16, 0, 0, []) else none
  | .isub => if len = 1 then some (16, 1, 0, []) else none
  | .imul => if len = 1 then some (16, 2, 0, []) else none
  | .idiv => if len = 1 then some (16, 3, 0, []) else none
  | .irem => if len = 1 then some (16, 4, 0, []) else none
  | .ishl => if len = 1 then some (16, 5, 0, []) else none
  | .ishr => if len = 1 then some (16, 6, 0, []) else none
  | .iand => if len = 1 then some (16, 7, 0, []) else none
  | .ior => if len = 1 then some (16, 8, 0, []) else none
  | .ixor => if len = 1 then some (16, 9, 0, []) else none
  | .i2b => if len = 1 then some (17, 0, 0, []) else none
  | .i2l => if len = 1 then some (18, 0, 0, []) else none
  | .lcmp => if len = 1 then some (19, 0, 0, []) else none
  | .ifCond c off => if len = 3 ∧ 0 ≤ tgt pc off then some (20, rsc c, tgt pc off, []) else none
  | .if_icmp c off => if len = 3 ∧ 0 ≤ tgt pc off then some (21, rsc c, tgt pc off, []) else none
  | .goto off => if len = 3 ∧ 0 ≤ tgt pc off then some (22, 0, tgt pc off, []) else none
  | .tableswitch d lo hi offs => if 0 ≤ tgt pc d ∧ hi = lo + offs.size - 1 ∧ offs.toList.all (fun o => decide (0 ≤ tgt pc o)) = true then some (23, 0, tgt pc d, offs.toList.zipIdx.map (fun q => (lo + q.2, (tgt pc q.1).toNat))) else none
  | .lookupswitch d ps => if 0 ≤ tgt pc d ∧ ps.toList.all (fun o => decide (0 ≤ tgt pc o.2)) = true ∧ (ps.toList.zip (ps.toList.drop 1)).all (fun (a, next) => a.1 < next.1) = true then some (23, 0, tgt pc d, ps.toList.map (fun q => (q.1, (tgt pc q.2).toNat))) else none
  | .dup => if len = 1 then some (24, 0, 0, []) else none
  | .dup2 => if len = 1 then some (25, 0, 0, []) else none
  | .pop => if len = 1 then some (26, 0, 0, []) else none
  | .new ix => if len = 3 then (match ctab.lookup (m_own m, ix) with | some q => if q.1 < 13 then some (27, q.1, (nF q.1 : Int), []) else none | none => none) else none
  | .newarray .int => if len = 2 then some (28, 100, 0, []) else none
  | .newarray .byte => if len = 2 then some (28, 101, 0, []) else none
  | .anewarray ix => if len = 3 then (match ctab.lookup (m_own m, ix) with | some q => if q.1 = 8 then some (29, 0, 0, []) else none | none => none) else none
  | .multianewarray ix d => if len = 4 ∧ d = 2 then (match ctab.lookup (m_own m, ix) with | some q => if q.1 = 102 then some (30, 0, 0, []) else none | none => none) else none
  | .ireturn => if len = 1 ∧ (m_rk m = 1 ∨ m_rk m = 2) then some (41, m_rk m, 0, []) else none
  | .lreturn => if len = 1 ∧ m_rk m = 3 then some (42, 0, 0, []) else none
  | .return_ => if len = 1 ∧ m_rk m = 0 then some (40, 0, 0, []) else none
  | .invokevirtual ix => if len = 3 then (match mtb.lookup (m_own m, ix) with | some q => if q.2.1 = 0 then rcall m 0 q.1 else none | none => none) else none
  | .invokestatic ix => if len = 3 then (match mtb.lookup (m_own m, ix) with | some q => rcall m 1 q.1 | none => (match jtab.lookup (m_own m, ix) with | some q => rjdk q.1 | none => none)) else none
  | .invokespecial ix => if len = 3 then (match mtb.lookup (m_own m, ix) with | some q => rcall m 2 q.1 | none => (match jtab.lookup (m_own m, ix) with | some q => if q.1 = 0 then some (35, 0, 0, []) else none | none => none)) else none
  | _ => none
def rc (m pc : Nat) : Option (Nat × RI) := match decode (m_cd m) pc with
  | .ok (i, len) => (match rs m pc len i with | some r => some (len, r) | none => none)
  | .error _ => none
def recvOk (k mid : Nat) (as : List AV) (h : AH) : Bool := decide (k = 1) || (match as with | .inr (.inr o) :: _ => (match h.2[o]? with | some q => decide (q.1 = m_own mid) | none => false) | _ => false)
def entryL (m : Nat) (as : List AV) : List AV := as ++ List.replicate (m_ml m - as.length) vU
def tk (tb : List (Int × Nat)) : Nat := match tb with | q :: _ => q.1.toNat | [] => 0
def arun : Nat → Nat → Nat → List AV → List AV → AH → Option (Option AV × AH)
  | 0, _, _, _, _, _ => none
  | f + 1, m, pc, ls, st, h => match rc m pc with
    | none => none
    | some (len, op, a, b, tb) =>
      if op < 40 then (match pstep op a b tb (pc + len) ls st h with
        | none => none
        | some (pc', ls', st', h') => arun f m pc' ls' st' h')
      else if op = 40 then (match st with | [] => some (none, h) | _ => none)
      else if op = 41 then (match st with | [.inl x] => (if a = 1 ∨ x = 0 ∨ x = 1 then some (some (vI x), h) else none) | _ => none)
      else if op = 42 then (match st with | [.inr (.inl x)] => some (some (vL x), h) | _ => none)
      else if op = 43 then
        (if b.toNat ≤ st.length ∧ wcat (st.take b.toNat) = b.toNat ∧ wcat (st.drop b.toNat) ≤ 8 ∧ recvOk (tk tb) a (st.take b.toNat).reverse h = true then
          (match arun f a 0 (entryL a (st.take b.toNat).reverse) [] h with
          | none => none
          | some (v, h') => (if h'.2.length = h.2.length ∨ (okRefs h.2.length ls = true ∧ okRefs h.2.length (st.drop b.toNat) = true) then arun f m (pc + len) ls (v.toList ++ st.drop b.toNat) h' else none))
        else none)
      else none
theorem okL_rev {l : List AV} (h : okL l) : okL l.reverse := fun v hv => h v (List.mem_reverse.mp hv)
theorem okL_take {l : List AV} {n : Nat} (h : okL l) : okL (l.take n) := fun v hv => h v (List.mem_of_mem_take hv)
theorem okL_drop {l : List AV} {n : Nat} (h : okL l) : okL (l.drop n) := fun v hv => h v (List.mem_of_mem_drop hv)
theorem okL_entry {m : Nat} {l : List AV} (h : okL l) : okL (entryL m l) := by
  unfold entryL
  refine okL_app.mpr ⟨h, fun v hv => ?_⟩
  rw [List.eq_of_mem_replicate hv]
  exact ⟨by decide, by decide⟩
theorem arun_ok : ∀ (f m pc : Nat) (ls st : List AV) (h : AH) (v : Option AV) (h' : AH), arun f m pc ls st h = some (v, h') → okL ls → okL st → okI h.1 → okL v.toList ∧ okI h'.1 ∧ h.2.length ≤ h'.2.length ∧ sl h.2 ≤ sl h'.2 := by
  intro f
  induction f with
  | zero => intro m pc ls st h v h' e; cases e
  | succ f ih =>
    intro m pc ls st h v h' e hl hs hI
    unfold arun at e
    split at e
    · cases e
    · split at e
      · split at e
        · cases e
        · rename_i hp
          obtain ⟨a1, a2, a3, a4, a5, -⟩ := pstep_ok hp hl hs hI
          obtain ⟨b1, b2, b3, b4⟩ := ih _ _ _ _ _ _ _ e a1 a2 a3
          exact ⟨b1, b2, Nat.le_trans a4 b3, Nat.le_trans a5 b4⟩
      · split at e
        · split at e
          · cases e; exact ⟨okL_nil, hI, Nat.le_refl _, Nat.le_refl _⟩
          · cases e
        · split at e
          · split at e
            · split at e
              · cases e; exact ⟨hs, hI, Nat.le_refl _, Nat.le_refl _⟩
              · cases e
            · cases e
          · split at e
            · split at e
              · cases e; exact ⟨hs, hI, Nat.le_refl _, Nat.le_refl _⟩
              · cases e
            · split at e
              · split at e
                · split at e
                  · cases e
                  · rename_i hc
                    obtain ⟨a1, a2, a3, a4⟩ := ih _ _ _ _ _ _ _ hc (okL_entry (okL_rev (okL_take hs))) okL_nil hI
                    split at e
                    · obtain ⟨b1, b2, b3, b4⟩ := ih _ _ _ _ _ _ _ e hl (okL_app.mpr ⟨a1, okL_drop hs⟩) a2
                      exact ⟨b1, b2, Nat.le_trans a3 b3, Nat.le_trans a4 b4⟩
                    · cases e
                · cases e
              · cases e
end
section
/-! the tables checked; the world of an abstract heap -/
def okw (i : Nat) (w : Jvm.Cond) : Bool := decide (lw_tbl[i]? = some w) && goodWord w
theorem okw_in {i : Nat} {w : Jvm.Cond} (h : okw i w = true) : w ∈ lw_gt := by
  simp only [okw, Bool.and_eq_true, decide_eq_true_eq] at h
  exact List.mem_filter.mpr ⟨List.mem_of_getElem? h.1, h.2⟩
def rkT (k : Nat) : Option FieldType := match k with | 1 => some .int | 2 => some .boolean | 3 => some .long | _ => none
def okM (m : Nat) : Bool := match wtab[m]? with
  | some (_, b, c, d) => (if m_kd m = 1 then okw b (.static (m_y m)) else okw b (.instanceMethod (m_y m))) && (if m_kd m = 0 then okw c (.selects (m_y m).cls (m_y m) (m_y m)) else true) && okw d (.initialized (m_y m).cls)
      && decide ((m_y m).cls = cname (m_own m)) && plainName (m_y m).cls && decide ((m_y m).cls ≠ "java/lang/invoke/MethodHandle" ∧ (m_y m).cls ≠ "java/lang/invoke/VarHandle")
      && decide ((parseMethodDescriptor (m_y m).desc).map (fun d => d.parameters.length) = some (m_np m - (if m_kd m = 1 then 0 else 1))) && decide (m_kd m = 2 → (m_y m).name = "<init>") && decide (m_kd m ≤ 2) && decide (m_kd m ≠ 1 → 1 ≤ m_np m) && decide (1 ≤ m_fr m ∧ 40 ≤ m_lo m) && decide (m_kd m = 2 → m_rk m = 0) && decide (m_own m < 13)
  | none => false
set_option maxRecDepth 100000 in
theorem okM_0 : ((List.range' 1 50).all fun i => okM i) = true := by decide +kernel
set_option maxRecDepth 100000 in
theorem okc_0 : (List.range' 1 50).map (fun m => lw_tbl[(wtab.getD m (0, 0, 0, 0)).1]?) = (List.range' 1 50).map (fun m => some (Jvm.Cond.code (m_y m) (m_cd m) (m_ml m) (rkT (m_rk m)))) := by rfl
set_option maxRecDepth 100000 in
theorem okM_1 : ((List.range' 51 50).all fun i => okM i) = true := by decide +kernel
set_option maxRecDepth 100000 in
theorem okc_1 : (List.range' 51 50).map (fun m => lw_tbl[(wtab.getD m (0, 0, 0, 0)).1]?) = (List.range' 51 50).map (fun m => some (Jvm.Cond.code (m_y m) (m_cd m) (m_ml m) (rkT (m_rk m)))) := by rfl
set_option maxRecDepth 100000 in
theorem okM_2 : ((List.range' 101 50).all fun i => okM i) = true := by decide +kernel
set_option maxRecDepth 100000 in
theorem okc_2 : (List.range' 101 50).map (fun m => lw_tbl[(wtab.getD m (0, 0, 0, 0)).1]?) = (List.range' 101 50).map (fun m => some (Jvm.Cond.code (m_y m) (m_cd m) (m_ml m) (rkT (m_rk m)))) := by rfl
set_option maxRecDepth 100000 in
theorem okM_3 : ((List.range' 151 50).all fun i => okM i) = true := by decide +kernel
set_option maxRecDepth 100000 in
theorem okc_3 : (List.range' 151 50).map (fun m => lw_tbl[(wtab.getD m (0, 0, 0, 0)).1]?) = (List.range' 151 50).map (fun m => some (Jvm.Cond.code (m_y m) (m_cd m) (m_ml m) (rkT (m_rk m)))) := by rfl
set_option maxRecDepth 100000 in
theorem okM_4 : ((List.range' 201 50).all fun i => okM i) = true := by decide +kernel
set_option maxRecDepth 100000 in
theorem okc_4 : (List.range' 201 50).map (fun m => lw_tbl[(wtab.getD m (0, 0, 0, 0)).1]?) = (List.range' 201 50).map (fun m => some (Jvm.Cond.code (m_y m) (m_cd m) (m_ml m) (rkT (m_rk m)))) := by rfl
theorem okM_of {m : Nat} (h0 : m ≠ 0) (h : m < nM) : okM m = true := by
  have h1 : m < 251 := h
  rcases (show m < 51 ∨ (51 ≤ m ∧ m < 101) ∨ (101 ≤ m ∧ m < 151) ∨ (151 ≤ m ∧ m < 201) ∨ 201 ≤ m by omega) with q | q | q | q | q
  · exact List.all_eq_true.mp okM_0 m (by rw [List.mem_range'_1]; omega)
  · exact List.all_eq_true.mp okM_1 m (by rw [List.mem_range'_1]; omega)
  · exact List.all_eq_true.mp okM_2 m (by rw [List.mem_range'_1]; omega)
  · exact List.all_eq_true.mp okM_3 m (by rw [List.mem_range'_1]; omega)
  · exact List.all_eq_true.mp okM_4 m (by rw [List.mem_range'_1]; omega)
theorem okc_of {m : Nat} (h0 : m ≠ 0) (h : m < nM) : Jvm.Cond.code (m_y m) (m_cd m) (m_ml m) (rkT (m_rk m)) ∈ lw_gt := by
  have h1 : m < 251 := h
  have key : lw_tbl[(wtab.getD m (0, 0, 0, 0)).1]? = some (Jvm.Cond.code (m_y m) (m_cd m) (m_ml m) (rkT (m_rk m))) := by
    rcases (show m < 51 ∨ (51 ≤ m ∧ m < 101) ∨ (101 ≤ m ∧ m < 151) ∨ (151 ≤ m ∧ m < 201) ∨ 201 ≤ m by omega) with q | q | q | q | q
    · exact List.map_inj_left.mp okc_0 m (by rw [List.mem_range'_1]; omega)
    · exact List.map_inj_left.mp okc_1 m (by rw [List.mem_range'_1]; omega)
    · exact List.map_inj_left.mp okc_2 m (by rw [List.mem_range'_1]; omega)
    · exact List.map_inj_left.mp okc_3 m (by rw [List.mem_range'_1]; omega)
    · exact List.map_inj_left.mp okc_4 m (by rw [List.mem_range'_1]; omega)
  exact List.mem_filter.mpr ⟨List.mem_of_getElem? key, rfl⟩
def okFt (q : (Nat × Nat) × Nat × Nat × Nat) : Bool := match vwCl[q.2.1]? with
  | some (_, T, N) => decide (q.2.2.1 < N) && okw q.2.2.2 (.fieldLink (cname q.1.1) q.1.2 (T q.2.2.1).1 (T q.2.2.1).2.1 (T q.2.2.1).2.2.1)
  | none => false
set_option maxRecDepth 100000 in
theorem ftab_ok : ftab.all okFt = true := by decide +kernel
set_option maxRecDepth 100000 in
theorem ktab_ok : ktab.all (fun q => okw q.2.2 (.constant (cname q.1.1) q.1.2 (Int32.ofInt q.2.1)) && decide (inR q.2.1)) = true := by decide +kernel
set_option maxRecDepth 100000 in
theorem ltab_ok : ltab.all (fun q => okw q.2.2 (.constantLong (cname q.1.1) q.1.2 (Int64.ofInt q.2.1)) && decide (inL q.2.1)) = true := by decide +kernel
set_option maxRecDepth 100000 in
theorem ctab_ok : ctab.all (fun q => if q.2.1 = 102 then okw q.2.2 (.classLink (cname q.1.1) q.1.2 "[[I") else decide (q.2.1 < 13) && okw q.2.2 (.classLink (cname q.1.1) q.1.2 (cname q.2.1))) = true := by decide +kernel
def nestAt (q : (Nat × Nat) × Nat × Nat × Nat) : Jvm.Cond := .methodLinkNest (cname q.1.1) q.1.2 (m_y q.2.1) "RoundSlack"
set_option maxRecDepth 100000 in
theorem mtb_ok : mtb.all (fun q => if q.2.2.1 = 0 then okw q.2.2.2 (.methodLink (cname q.1.1) q.1.2 (m_y q.2.1)) else decide (lw_tbl[q.2.2.2]? = some (nestAt q))) = true := by decide +kernel
def jname (k : Nat) : MethodName := match k with | 0 => Lib.objectInit | 1 => Lib.Math.abs.name | 2 => Lib.Math.max.name | 3 => Lib.Math.min.name | _ => arraycopyName
set_option maxRecDepth 100000 in
theorem jtab_ok : jtab.all (fun q => okw q.2.2 (.methodLink (cname q.1.1) q.1.2 (jname q.2.1)) && decide (q.2.1 ≤ 4)) = true := by decide +kernel
theorem of_lookup {α β : Type} {l : List ((Nat × Nat) × α)} {k : Nat × Nat} {v : α} (h : l.lookup k = some v) : (k, v) ∈ l := by
  induction l with
  | nil => cases h
  | cons q l ih =>
    obtain ⟨a, b⟩ := q
    rw [List.lookup_cons] at h
    by_cases e : (k == a) = true
    · rw [e] at h
      have : k = a := by simpa using e
      subst this
      cases h
      exact List.mem_cons_self
    · have e2 : (k == a) = false := by simpa using e
      rw [e2] at h
      exact List.mem_cons_of_mem _ (ih h)
end
section
/-! an abstract heap as a world of cells; the judgement TT: the machine, anywhere related, comes to its end -/
def va_AOA (ty : FieldType) (U : State) : Prop := (Jvm.Cond.arrayOver (.array ty)).before #[] U = true
theorem va_AOA.use {ty : FieldType} {A : Array Value} {U : State} (h : va_AOA ty U) : (Jvm.Cond.arrayOver (.array ty)).before A U = true := h
def nests : List Jvm.Cond := (mtb.filter (fun q => decide (q.2.2.1 ≠ 0))).map nestAt
def nwP (s : State) : Prop := (∀ w ∈ nests, va_Nw w s) ∧ va_AO "RoundSlack$Rounds" s ∧ va_AOA .int s
def tysF (tc : Nat → ClassId) : List (ClassId × FieldType) := [(tc 0, .int), (tc 1, .byte), (tc 2, .array .int), (tc 3, .object "RoundSlack$Rounds")]
def rfo (ad : Nat → Nat) (r : Nat) : Option Nat := if r = 3000 then none else some (ad r)
def fval (ad : Nat → Nat) (I : Nat → Nat → Int) (o ci : Nat) (rf : List Nat) (k : Nat) : Value := if fk ci k = 2 then va_rf (rfo ad (rf.getD k 3000)) else .int (Int32.ofInt (I o k))
def ent (tc : Nat → ClassId) (ad : Nat → Nat) (I : Nat → Nat → Int) (o : Nat) (q : AO) : va_E :=
  if q.1 < 100 then .inr (q.1, (List.range q.2.1).map (fval ad I o q.1 q.2.2))
  else if q.1 = 100 then .inl (tc 0, q.2.1, .inl (fun k => Int32.ofInt (I o k)))
  else if q.1 = 101 then .inl (tc 1, q.2.1, .inl (fun k => Int32.ofInt (I o k)))
  else if q.1 = 102 then .inl (tc 2, q.2.1, .inr (.inr (.inr (.inr (fun k => rfo ad (q.2.2.getD k 3000))))))
  else .inl (tc 3, q.2.1, .inr (.inr (.inr (.inr (fun k => rfo ad (q.2.2.getD k 3000))))))
def wd (tc : Nat → ClassId) (ad : Nat → Nat) (h : AH) : va_W := h.2.zipIdx.map (fun z => (ad z.2, ent tc ad h.1 z.2 z.1))
theorem wd_get {tc : Nat → ClassId} {ad : Nat → Nat} {h : AH} {o : Nat} : (wd tc ad h)[o]? = (h.2[o]?).map (fun q => (ad o, ent tc ad h.1 o q)) := by
  unfold wd
  rw [List.getElem?_map, List.getElem?_zipIdx, Option.map_map]
  cases h.2[o]? <;> simp
theorem wd_at {tc : Nat → ClassId} {ad : Nat → Nat} {h : AH} {o : Nat} {q : AO} (hq : h.2[o]? = some q) : (wd tc ad h)[o]? = some (ad o, ent tc ad h.1 o q) := by rw [wd_get, hq]; rfl
theorem wd_ext {w : va_W} {tc : Nat → ClassId} {ad : Nat → Nat} {h : AH} (hw : ∀ o : Nat, w[o]? = (h.2[o]?).map (fun q => (ad o, ent tc ad h.1 o q))) : w = wd tc ad h := List.ext_getElem? fun o => by rw [hw, wd_get]
theorem ent_congr {tc : Nat → ClassId} {ad : Nat → Nat} {I I' : Nat → Nat → Int} {o : Nat} {q : AO} (h : ∀ k, I' o k = I o k) : ent tc ad I' o q = ent tc ad I o q := by
  unfold ent fval
  simp only [h]
theorem wd_set {tc : Nat → ClassId} {ad : Nat → Nat} {h : AH} {I' : Nat → Nat → Int} {o : Nat} {q q' : AO} (hq : h.2[o]? = some q) (hI : ∀ o' k, o' ≠ o → I' o' k = h.1 o' k) : (wd tc ad h).set o (ad o, ent tc ad I' o q') = wd tc ad (I', h.2.set o q') := by
  refine wd_ext fun o' => ?_
  have hlt : o < h.2.length := (List.getElem?_eq_some_iff.mp hq).1
  by_cases e : o' = o
  · subst e
    have hl2 : o' < (wd tc ad h).length := by simp [wd]; exact hlt
    rw [List.getElem?_set_self hl2]
    show _ = Option.map _ ((h.2.set o' q')[o']?)
    rw [List.getElem?_set_self hlt]
    rfl
  · rw [List.getElem?_set_ne (fun z => e z.symm), wd_get]
    show _ = Option.map _ ((h.2.set o q')[o']?)
    rw [List.getElem?_set_ne (fun z => e z.symm)]
    cases h.2[o']? with
    | none => rfl
    | some x =>
      show some (ad o', ent tc ad h.1 o' x) = some (ad o', ent tc ad I' o' x)
      rw [ent_congr (fun k => hI o' k e)]
theorem wd_upd {tc : Nat → ClassId} {ad : Nat → Nat} {h : AH} {I' : Nat → Nat → Int} {o : Nat} {q : AO} (hq : h.2[o]? = some q) (hI : ∀ o' k, o' ≠ o → I' o' k = h.1 o' k) : (wd tc ad h).set o (ad o, ent tc ad I' o q) = wd tc ad (I', h.2) := by
  rw [wd_set (q' := q) hq hI]
  congr 2
  have hlt : o < h.2.length := (List.getElem?_eq_some_iff.mp hq).1
  refine List.ext_getElem? fun j => ?_
  by_cases e : j = o
  · subst e; rw [List.getElem?_set_self hlt, hq]
  · rw [List.getElem?_set_ne (fun z => e z.symm)]
theorem wd_app {tc : Nat → ClassId} {ad ad' : Nat → Nat} {h : AH} {I' : Nat → Nat → Int} {T : List AO} (hS : okS h.2 = true) (hl : h.2.length < 1000) (hI : ∀ o k, o < h.2.length → I' o k = h.1 o k) (ha : ∀ o, o < h.2.length → ad' o = ad o) :
    wd tc ad' (I', h.2 ++ T) = wd tc ad h ++ (T.zipIdx h.2.length).map (fun z => (ad' z.2, ent tc ad' I' z.2 z.1)) := by
  unfold wd
  rw [List.zipIdx_append, List.map_append]
  congr 1
  · apply List.map_congr_left
    intro z hz
    obtain ⟨q, o⟩ := z
    obtain ⟨h1, h2⟩ := List.mem_zipIdx' hz
    have ho : o < h.2.length := h1
    have hq : ∀ r ∈ q.2.2, r < h.2.length ∨ r = 3000 := by
      intro r hr
      have h3 := List.all_eq_true.mp hS q (by rw [show q = _ from h2]; exact List.getElem_mem _)
      have h4 := List.all_eq_true.mp h3 r hr
      simpa using h4
    have hrf : ∀ k, rfo ad' (q.2.2.getD k 3000) = rfo ad (q.2.2.getD k 3000) := by
      intro k
      have h5 : q.2.2.getD k 3000 < h.2.length ∨ q.2.2.getD k 3000 = 3000 := by
        by_cases hk : k < q.2.2.length
        · have : q.2.2.getD k 3000 ∈ q.2.2 := by
            rw [List.getD_eq_getElem?_getD, List.getElem?_eq_getElem hk]
            exact List.getElem_mem _
          exact hq _ this
        · right
          rw [List.getD_eq_getElem?_getD, List.getElem?_eq_none (by omega)]
          rfl
      unfold rfo
      rcases h5 with h6 | h6
      · rw [if_neg (by omega), if_neg (by omega), ha _ h6]
      · rw [if_pos h6, if_pos h6]
    show (ad' o, ent tc ad' I' o q) = (ad o, ent tc ad h.1 o q)
    rw [ha o ho]
    congr 1
    unfold ent fval
    simp only [hrf, hI o _ ho]
  · rw [Nat.zero_add]
def cv (ad : Nat → Nat) (v : AV) : Value := match v with | .inl x => .int (Int32.ofInt x) | .inr (.inl x) => .long (Int64.ofInt x) | .inr (.inr o) => .ref (ad o)
/-- the locals: what isn't a long is held -/
def LR (ad : Nat → Nat) (nL : Nat) (ls : List AV) (L : Array Slot) : Prop := ls.length = nL ∧ ∃ lv, lv_has L nL lv ∧ (∀ q ∈ lv, q.2.category = 1) ∧ ∀ (i : Nat) (v : AV), ls[i]? = some v → (∀ x, v ≠ vL x) → (i, cv ad v) ∈ lv
theorem LR_at {ad : Nat → Nat} {nL : Nat} {ls : List AV} {L : Array Slot} (h : LR ad nL ls L) {i : Nat} {v : AV} (hv : ls[i]? = some v) (hn : ∀ x, v ≠ vL x) : L[i]? = some (.val (cv ad v)) := by
  obtain ⟨-, lv, h1, -, h3⟩ := h
  exact h1.2.2 _ (h3 i v hv hn)
theorem LR_st {ad : Nat → Nat} {nL : Nat} {ls : List AV} {L' : Array Slot} {lv : List (Nat × Value)} {i : Nat} {v : AV} (h0 : ls.length = nL) (h2 : ∀ q ∈ lv, q.2.category = 1) (h3 : ∀ (j : Nat) (w : AV), ls[j]? = some w → (∀ x, w ≠ vL x) → (j, cv ad w) ∈ lv) (hc : (cv ad v).category = 1)
    (h' : lv_has L' nL ((i, cv ad v) :: lv.filter (fun q => !(q.1 == i) && !(q.1 + 1 == i && q.2.category == 2)))) : LR ad nL (ls.set i v) L' := by
  refine ⟨by rw [List.length_set]; exact h0, _, h', ?_, ?_⟩
  · intro q hq
    rcases List.mem_cons.mp hq with rfl | hq
    · exact hc
    · exact h2 q (List.mem_filter.mp hq).1
  · intro j w hw hn
    by_cases e : j = i
    · subst e
      have hlt : j < ls.length := by
        have := (List.getElem?_eq_some_iff.mp hw).1
        rwa [List.length_set] at this
      rw [List.getElem?_set_self hlt] at hw
      cases hw
      exact List.mem_cons_self
    · rw [List.getElem?_set_ne (fun z => e z.symm)] at hw
      refine List.mem_cons_of_mem _ (List.mem_filter.mpr ⟨h3 j w hw hn, ?_⟩)
      have hcat := h2 _ (h3 j w hw hn)
      simp only [hcat]
      simp [e]
theorem LR_ad {ad ad' : Nat → Nat} {nL : Nat} {ls : List AV} {L : Array Slot} (h : LR ad nL ls L) (ha : ∀ o, vR o ∈ ls → ad' o = ad o) : LR ad' nL ls L := by
  obtain ⟨h0, lv, h1, h2, h3⟩ := h
  refine ⟨h0, lv, h1, h2, fun i v hv hn => ?_⟩
  have := h3 i v hv hn
  rcases v with x | x | o
  · exact this
  · exact absurd rfl (hn x)
  · show (i, Value.ref (ad' o)) ∈ lv
    rw [ha o (List.mem_of_getElem? hv)]
    exact this
theorem cv_ad {ad ad' : Nat → Nat} {st : List AV} (ha : ∀ o, vR o ∈ st → ad' o = ad o) : st.map (cv ad') = st.map (cv ad) := by
  apply List.map_congr_left
  intro v hv
  rcases v with x | x | o
  · rfl
  · rfl
  · show Value.ref (ad' o) = Value.ref (ad o)
    rw [ha o hv]
theorem okRefs_mem {n : Nat} {l : List AV} (h : okRefs n l = true) {o : Nat} (ho : vR o ∈ l) : o < n ∨ 1000 ≤ o := by
  have := List.all_eq_true.mp h _ ho
  simpa using this
/-- the law's script, at the reference 1000 -/
def scrP (s : State) (A : Nat → Prop) (ad : Nat → Nat) (I : Nat → Nat → Int) : Prop := ∃ (L : Nat) (xs : Nat → Int32), va_X (ad 1000) L xs s s.heap ∧ ad 1000 < s.heap.size ∧ ¬ A (ad 1000) ∧ L ≤ 3072 ∧ I 1001 0 = L ∧ ∀ k, k < L → Int32.ofInt (I 1000 k) = xs k
def SR (D : va_G) (tc : Nat → ClassId) (A : Nat → Prop) (s : State) (m : Nat) (ad : Nat → Nat) (h : AH) (H : Heap) (locs : List Loc) : Prop := va_P D vwCl (wd tc ad h) H ∧ va_D A (wd tc ad h) ∧ va_S A s.heap H locs ∧ h.2.length ≤ 1000 ∧ (m_own m = 13 → scrP s A ad h.1)
abbrev CT : Type := Program × Launch × Env × Room × State × MethodId × Array Value × List Frame × Method × Code × (State → Prop) × va_G × (Nat → ClassId) × (Nat → Prop) × Nat
def xm (X : CT) : Nat := X.2.2.2.2.2.2.2.2.2.2.2.2.2.2
def CX (X : CT) : Prop := match X with
  | (p, _, _, R, s, mm, args, _, meth, c, _, D, tc, A, m) => p.tables.exec = Jvm.exec ∧ c.code = m_cd m ∧ c.maxLocals = m_ml m ∧ s.vm.findClass (cname (m_own m)) = some mm.cls ∧ (∀ w ∈ lw_gt, w.before args s = true) ∧ (m_kd m = 2 → meth.name = "<init>") ∧ va_K D vwCl (tysF tc) s ∧ (∀ q : Nat, s.heap.size ≤ q → A q) ∧ nwP s ∧ m_fr m ≤ R.frames ∧ m_lo m ≤ R.locals
def TT (X : CT) (ad : Nat → Nat) (cells slots pc : Nat) (ls st : List AV) (h : AH) : Prop := match X with
  | (p, l, e, R, s, mm, args, below, meth, c, Q, D, tc, A, m) => ∀ (L : Array Slot) (H : Heap) (locs : List Loc), LR ad (m_ml m) ls L → SR D tc A s m ad h H locs → W p l e R s mm args below meth c H locs cells slots Q (F0 mm pc L (st.map (cv ad)))
def xR (X : CT) : Room := X.2.2.2.1
end
section
/-! the machine's instructions over TT -/
theorem of_lk {α : Type} {l : List ((Nat × Nat) × α)} {k : Nat × Nat} {v : α} (h : l.lookup k = some v) : (k, v) ∈ l := of_lookup (β := Unit) h
theorem i32_eq {x : Int} (h : inR x) : (Int32.ofInt x).toInt = x := Int32.toInt_ofInt_of_le (by have := h.1; omega) (by have := h.2; omega)
theorem i64_eq {x : Int} (h : inL x) : (Int64.ofInt x).toInt = x := Int64.toInt_ofInt_of_le (by have := h.1; omega) (by have := h.2; omega)
theorem i32_lt {x y : Int} (hx : inR x) (hy : inR y) : Int32.ofInt x < Int32.ofInt y ↔ x < y := by rw [Int32.lt_iff_toInt_lt, i32_eq hx, i32_eq hy]
theorem i32_le {x y : Int} (hx : inR x) (hy : inR y) : Int32.ofInt x ≤ Int32.ofInt y ↔ x ≤ y := by rw [Int32.le_iff_toInt_le, i32_eq hx, i32_eq hy]
theorem i32_inj {x y : Int} (hx : inR x) (hy : inR y) : Int32.ofInt x = Int32.ofInt y ↔ x = y := by rw [← Int32.toInt_inj, i32_eq hx, i32_eq hy]
theorem i32_z {x : Int} (hx : inR x) : Int32.ofInt x = 0 ↔ x = 0 := i32_inj (y := 0) hx ⟨by decide, by decide⟩
theorem in0 : inR 0 := ⟨by decide, by decide⟩
theorem i32_clamp {x : Int} (h : inR x) : (Int32.ofInt x).toNatClampNeg = x.toNat := Int32.toNatClampNeg_ofInt_of_le (by have := h.1; omega) (by have := h.2; omega)
theorem i32_vin {x : Int} {n : Nat} (h : inR x) (h0 : 0 ≤ x) (h1 : x < n) : vp_in (Int32.ofInt x) n := vp_in_iff.mpr (by rw [i32_eq h]; exact ⟨h0, h1⟩)
theorem i32_of {x : Int32} {y : Int} (hy : inR y) (h : x.toInt = y) : x = Int32.ofInt y := Int32.toInt_inj.mp (by rw [h, i32_eq hy])
theorem ent_obj {tc : Nat → ClassId} {ad : Nat → Nat} {I : Nat → Nat → Int} {o ci sz : Nat} {rf : List Nat} (h : ci < 100) : ent tc ad I o (ci, sz, rf) = .inr (ci, (List.range sz).map (fval ad I o ci rf)) := if_pos h
theorem clsF {ci : Nat} {C : String} {T : u_T} {N : Nat} (h : vwCl[ci]? = some (C, T, N)) : (∀ w ∈ u_ws C T N, w ∈ lw_gt) ∧ (∀ k, k < N → parseFieldDescriptor (T k).2.2.1 = some (tyT ci k)) ∧ (∀ a, a < N → ∀ b, b < N → a ≠ b → (T a).2.1 ≠ (T b).2.1) ∧ C = cname ci ∧ N = nF ci ∧ (∀ k, (T k).2.2.2 = fFin ci k) ∧ (∀ k, k < N → (T k).1 = C) ∧ ci < 13 := by
  have hl : ci < 13 := (List.getElem?_eq_some_iff.mp h).1
  have key : ∀ (C : String) (T : u_T) (N : Nat), (∀ w ∈ u_ws C T N, w ∈ lw_tbl) → (u_ws C T N).all goodWord = true → ∀ w ∈ u_ws C T N, w ∈ lw_gt := fun C T N h1 h2 w hw => List.mem_filter.mpr ⟨h1 w hw, List.all_eq_true.mp h2 w hw⟩
  match ci, h with
  | 0, h => cases h; exact ⟨key _ _ _ inX0 (by decide +kernel), tyX0_ok, nmX0, rfl, rfl, fun _ => rfl, by decide +kernel, by decide⟩
  | 1, h => cases h; exact ⟨key _ _ _ inX1 (by decide +kernel), tyX1_ok, nmX1, rfl, rfl, fun _ => rfl, by decide +kernel, by decide⟩
  | 2, h => cases h; exact ⟨key _ _ _ inX2 (by decide +kernel), tyX2_ok, nmX2, rfl, rfl, fun _ => rfl, by decide +kernel, by decide⟩
  | 3, h => cases h; exact ⟨key _ _ _ inX3 (by decide +kernel), tyX3_ok, nmX3, rfl, rfl, fun _ => rfl, by decide +kernel, by decide⟩
  | 4, h => cases h; exact ⟨key _ _ _ inX4 (by decide +kernel), tyX4_ok, nmX4, rfl, rfl, fun _ => rfl, by decide +kernel, by decide⟩
  | 5, h => cases h; exact ⟨key _ _ _ inX5 (by decide +kernel), tyX5_ok, nmX5, rfl, rfl, fun _ => rfl, by decide +kernel, by decide⟩
  | 6, h => cases h; exact ⟨key _ _ _ inX6 (by decide +kernel), tyX6_ok, nmX6, rfl, rfl, fun _ => rfl, by decide +kernel, by decide⟩
  | 7, h => cases h; exact ⟨key _ _ _ inX7 (by decide +kernel), tyX7_ok, nmX7, rfl, rfl, fun _ => rfl, by decide +kernel, by decide⟩
  | 8, h => cases h; exact ⟨key _ _ _ inX8 (by decide +kernel), tyX8_ok, nmX8, rfl, rfl, fun _ => rfl, by decide +kernel, by decide⟩
  | 9, h => cases h; exact ⟨key _ _ _ inX9 (by decide +kernel), tyX9_ok, nmX9, rfl, rfl, fun _ => rfl, by decide +kernel, by decide⟩
  | 10, h => cases h; exact ⟨key _ _ _ inX10 (by decide +kernel), tyX10_ok, nmX10, rfl, rfl, fun _ => rfl, by decide +kernel, by decide⟩
  | 11, h => cases h; exact ⟨key _ _ _ inX11 (by decide +kernel), tyX11_ok, nmX11, rfl, rfl, fun _ => rfl, by decide +kernel, by decide⟩
  | 12, h => cases h; exact ⟨key _ _ _ inX12 (by decide +kernel), tyX12_ok, nmX12, rfl, rfl, fun _ => rfl, by decide +kernel, by decide⟩
  | n + 13, h => omega
section OPS
variable {X : CT} {ad : Nat → Nat} {cells slots pc : Nat} {ls st : List AV} {h : AH}
theorem am_iconst {n : Int} (hX : CX X) (hd : decode (m_cd (xm X)) pc = .ok (.iconst n, 1)) (k : TT X ad cells slots (pc + 1) ls (vI n :: st) h) : TT X ad cells slots pc ls st h := by
  obtain ⟨p, l, e, R, s, mm, args, below, meth, c, Q, D, tc, A, m⟩ := X
  obtain ⟨hx, hb, -⟩ := hX
  intro L H locs hL hS
  exact lv_iconst hx hb hd rfl (k L H locs hL hS)
theorem am_bipush {n : Int} (hX : CX X) (hd : decode (m_cd (xm X)) pc = .ok (.bipush n, 2)) (h1 : -128 ≤ n) (h2 : n ≤ 127) (k : TT X ad cells slots (pc + 2) ls (vI n :: st) h) : TT X ad cells slots pc ls st h := by
  obtain ⟨p, l, e, R, s, mm, args, below, meth, c, Q, D, tc, A, m⟩ := X
  obtain ⟨hx, hb, -⟩ := hX
  intro L H locs hL hS
  exact lv_bipush hx hb hd (i32_of ⟨by omega, by omega⟩ (by rw [Int8.toInt_toInt32]; exact Int8.toInt_ofInt_of_le (by omega) (by omega))) (k L H locs hL hS)
theorem am_sipush {n : Int} (hX : CX X) (hd : decode (m_cd (xm X)) pc = .ok (.sipush n, 3)) (h1 : -32768 ≤ n) (h2 : n ≤ 32767) (k : TT X ad cells slots (pc + 3) ls (vI n :: st) h) : TT X ad cells slots pc ls st h := by
  obtain ⟨p, l, e, R, s, mm, args, below, meth, c, Q, D, tc, A, m⟩ := X
  obtain ⟨hx, hb, -⟩ := hX
  intro L H locs hL hS
  exact lv_sipush hx hb hd (i32_of ⟨by omega, by omega⟩ (by rw [Int16.toInt_toInt32]; exact Int16.toInt_ofInt_of_le (by omega) (by omega))) (k L H locs hL hS)
theorem am_ldc {ix wi : Nat} {v : Int} (hX : CX X) (hd : decode (m_cd (xm X)) pc = .ok (.ldc ix, 2)) (hf : ktab.lookup (m_own (xm X), ix) = some (v, wi)) (k : TT X ad cells slots (pc + 2) ls (vI v :: st) h) : TT X ad cells slots pc ls st h := by
  have hw := List.all_eq_true.mp ktab_ok _ (of_lk hf)
  simp only [Bool.and_eq_true] at hw
  obtain ⟨p, l, e, R, s, mm, args, below, meth, c, Q, D, tc, A, m⟩ := X
  obtain ⟨hx, hb, hml, hown, hts, -⟩ := hX
  intro L H locs hL hS
  exact lv_ldc hx hb hown (hts _ (okw_in hw.1)) hd (k L H locs hL hS)
theorem am_ldcw {ix wi : Nat} {v : Int} (hX : CX X) (hd : decode (m_cd (xm X)) pc = .ok (.ldc_w ix, 3)) (hf : ktab.lookup (m_own (xm X), ix) = some (v, wi)) (k : TT X ad cells slots (pc + 3) ls (vI v :: st) h) : TT X ad cells slots pc ls st h := by
  have hw := List.all_eq_true.mp ktab_ok _ (of_lk hf)
  simp only [Bool.and_eq_true] at hw
  obtain ⟨p, l, e, R, s, mm, args, below, meth, c, Q, D, tc, A, m⟩ := X
  obtain ⟨hx, hb, hml, hown, hts, -⟩ := hX
  intro L H locs hL hS
  exact lv_ldcw hx hb hown (hts _ (okw_in hw.1)) hd (k L H locs hL hS)
theorem am_ldc2 {ix wi : Nat} {v : Int} (hX : CX X) (hd : decode (m_cd (xm X)) pc = .ok (.ldc2_w ix, 3)) (hf : ltab.lookup (m_own (xm X), ix) = some (v, wi)) (k : TT X ad cells slots (pc + 3) ls (vL v :: st) h) : TT X ad cells slots pc ls st h := by
  have hw := List.all_eq_true.mp ltab_ok _ (of_lk hf)
  simp only [Bool.and_eq_true] at hw
  obtain ⟨p, l, e, R, s, mm, args, below, meth, c, Q, D, tc, A, m⟩ := X
  obtain ⟨hx, hb, hml, hown, hts, -⟩ := hX
  intro L H locs hL hS
  exact lv_ldc2 hx hb hown (hts _ (okw_in hw.1)) hd (k L H locs hL hS)
theorem am_iload_n {i : Fin 4} {x : Int} (hX : CX X) (hd : decode (m_cd (xm X)) pc = .ok (.iload_n i, 1)) (hv : ls[i.val]? = some (vI x)) (k : TT X ad cells slots (pc + 1) ls (vI x :: st) h) : TT X ad cells slots pc ls st h := by
  obtain ⟨p, l, e, R, s, mm, args, below, meth, c, Q, D, tc, A, m⟩ := X
  obtain ⟨hx, hb, -⟩ := hX
  intro L H locs hL hS
  exact lv_iload_n hx hb hd rfl (LR_at hL hv (fun y z => by cases z)) (k L H locs hL hS)
theorem am_iload {i : Nat} {x : Int} (hX : CX X) (hd : decode (m_cd (xm X)) pc = .ok (.iload i, 2)) (hv : ls[i]? = some (vI x)) (k : TT X ad cells slots (pc + 2) ls (vI x :: st) h) : TT X ad cells slots pc ls st h := by
  obtain ⟨p, l, e, R, s, mm, args, below, meth, c, Q, D, tc, A, m⟩ := X
  obtain ⟨hx, hb, -⟩ := hX
  intro L H locs hL hS
  exact lv_iload hx hb hd (LR_at hL hv (fun y z => by cases z)) (k L H locs hL hS)
theorem am_aload_n {i : Fin 4} {x : Nat} (hX : CX X) (hd : decode (m_cd (xm X)) pc = .ok (.aload_n i, 1)) (hv : ls[i.val]? = some (vR x)) (k : TT X ad cells slots (pc + 1) ls (vR x :: st) h) : TT X ad cells slots pc ls st h := by
  obtain ⟨p, l, e, R, s, mm, args, below, meth, c, Q, D, tc, A, m⟩ := X
  obtain ⟨hx, hb, -⟩ := hX
  intro L H locs hL hS
  exact lv_aload_n hx hb hd rfl (LR_at hL hv (fun y z => by cases z)) (k L H locs hL hS)
theorem am_aload {i x : Nat} (hX : CX X) (hd : decode (m_cd (xm X)) pc = .ok (.aload i, 2)) (hv : ls[i]? = some (vR x)) (k : TT X ad cells slots (pc + 2) ls (vR x :: st) h) : TT X ad cells slots pc ls st h := by
  obtain ⟨p, l, e, R, s, mm, args, below, meth, c, Q, D, tc, A, m⟩ := X
  obtain ⟨hx, hb, -⟩ := hX
  intro L H locs hL hS
  exact lv_aload hx hb hd (LR_at hL hv (fun y z => by cases z)) (k L H locs hL hS)
theorem am_istore_n {i : Fin 4} {x : Int} (hX : CX X) (hd : decode (m_cd (xm X)) pc = .ok (.istore_n i, 1)) (hi : i.val < ls.length) (k : TT X ad cells slots (pc + 1) (ls.set i.val (vI x)) st h) : TT X ad cells slots pc ls (vI x :: st) h := by
  obtain ⟨p, l, e, R, s, mm, args, below, meth, c, Q, D, tc, A, m⟩ := X
  obtain ⟨hx, hb, -⟩ := hX
  intro L H locs hL hS
  obtain ⟨h0, lv, h1, h2, h3⟩ := hL
  exact lv_istore_n hx hb hd rfl h1 (by rw [← h0]; exact hi) rfl (fun L' h' => k L' H locs (LR_st (v := vI x) h0 h2 h3 rfl h') hS)
theorem am_istore {i : Nat} {x : Int} (hX : CX X) (hd : decode (m_cd (xm X)) pc = .ok (.istore i, 2)) (hi : i < ls.length) (k : TT X ad cells slots (pc + 2) (ls.set i (vI x)) st h) : TT X ad cells slots pc ls (vI x :: st) h := by
  obtain ⟨p, l, e, R, s, mm, args, below, meth, c, Q, D, tc, A, m⟩ := X
  obtain ⟨hx, hb, -⟩ := hX
  intro L H locs hL hS
  obtain ⟨h0, lv, h1, h2, h3⟩ := hL
  exact lv_istore hx hb hd h1 (by rw [← h0]; exact hi) rfl (fun L' h' => k L' H locs (LR_st (v := vI x) h0 h2 h3 rfl h') hS)
theorem am_astore_n {i : Fin 4} {x : Nat} (hX : CX X) (hd : decode (m_cd (xm X)) pc = .ok (.astore_n i, 1)) (hi : i.val < ls.length) (k : TT X ad cells slots (pc + 1) (ls.set i.val (vR x)) st h) : TT X ad cells slots pc ls (vR x :: st) h := by
  obtain ⟨p, l, e, R, s, mm, args, below, meth, c, Q, D, tc, A, m⟩ := X
  obtain ⟨hx, hb, -⟩ := hX
  intro L H locs hL hS
  obtain ⟨h0, lv, h1, h2, h3⟩ := hL
  exact lv_astore_n hx hb hd rfl h1 (by rw [← h0]; exact hi) rfl (fun L' h' => k L' H locs (LR_st (v := vR x) h0 h2 h3 rfl h') hS)
theorem am_astore {i x : Nat} (hX : CX X) (hd : decode (m_cd (xm X)) pc = .ok (.astore i, 2)) (hi : i < ls.length) (k : TT X ad cells slots (pc + 2) (ls.set i (vR x)) st h) : TT X ad cells slots pc ls (vR x :: st) h := by
  obtain ⟨p, l, e, R, s, mm, args, below, meth, c, Q, D, tc, A, m⟩ := X
  obtain ⟨hx, hb, -⟩ := hX
  intro L H locs hL hS
  obtain ⟨h0, lv, h1, h2, h3⟩ := hL
  exact lv_astore hx hb hd h1 (by rw [← h0]; exact hi) rfl (fun L' h' => k L' H locs (LR_st (v := vR x) h0 h2 h3 rfl h') hS)
theorem am_iinc {i : Nat} {n x : Int} (hX : CX X) (hd : decode (m_cd (xm X)) pc = .ok (.iinc i n, 3)) (hv : ls[i]? = some (vI x)) (k : TT X ad cells slots (pc + 3) (ls.set i (vI (x + n))) st h) : TT X ad cells slots pc ls st h := by
  obtain ⟨p, l, e, R, s, mm, args, below, meth, c, Q, D, tc, A, m⟩ := X
  obtain ⟨hx, hb, -⟩ := hX
  intro L H locs hL hS
  obtain ⟨h0, lv, h1, h2, h3⟩ := hL
  obtain ⟨j, hj⟩ := List.getElem?_of_mem (h3 i _ hv (fun y z => by cases z))
  have hi : i < ls.length := (List.getElem?_eq_some_iff.mp hv).1
  exact lv_iinc (v := Int32.ofInt (x + n)) hx hb hd h1 hj (Int32.ofInt_add x n).symm (by rw [← h0]; exact hi) rfl (fun L' h' => k L' H locs (LR_st (v := vI (x + n)) h0 h2 h3 rfl h') hS)
theorem am_iadd {x y : Int} (hX : CX X) (hd : decode (m_cd (xm X)) pc = .ok (.iadd, 1)) (k : TT X ad cells slots (pc + 1) ls (vI (x + y) :: st) h) : TT X ad cells slots pc ls (vI y :: vI x :: st) h := by
  obtain ⟨p, l, e, R, s, mm, args, below, meth, c, Q, D, tc, A, m⟩ := X
  obtain ⟨hx, hb, -⟩ := hX
  intro L H locs hL hS
  have kk := k L H locs hL hS
  simp only [List.map_cons, cv] at kk
  rw [Int32.ofInt_add x y] at kk
  exact lv_iadd hx hb hd kk
theorem am_isub {x y : Int} (hX : CX X) (hd : decode (m_cd (xm X)) pc = .ok (.isub, 1)) (k : TT X ad cells slots (pc + 1) ls (vI (x - y) :: st) h) : TT X ad cells slots pc ls (vI y :: vI x :: st) h := by
  obtain ⟨p, l, e, R, s, mm, args, below, meth, c, Q, D, tc, A, m⟩ := X
  obtain ⟨hx, hb, -⟩ := hX
  intro L H locs hL hS
  have kk := k L H locs hL hS
  simp only [List.map_cons, cv] at kk
  rw [Int32.ofInt_sub x y] at kk
  exact lv_isub hx hb hd kk
theorem am_imul {x y : Int} (hX : CX X) (hd : decode (m_cd (xm X)) pc = .ok (.imul, 1)) (k : TT X ad cells slots (pc + 1) ls (vI (x * y) :: st) h) : TT X ad cells slots pc ls (vI y :: vI x :: st) h := by
  obtain ⟨p, l, e, R, s, mm, args, below, meth, c, Q, D, tc, A, m⟩ := X
  obtain ⟨hx, hb, -⟩ := hX
  intro L H locs hL hS
  have kk := k L H locs hL hS
  simp only [List.map_cons, cv] at kk
  rw [Int32.ofInt_mul x y] at kk
  exact lv_imul hx hb hd kk
theorem am_ishl {x y : Int} (hX : CX X) (hd : decode (m_cd (xm X)) pc = .ok (.ishl, 1)) (k : TT X ad cells slots (pc + 1) ls (vI (Int32.ofInt x <<< (Int32.ofInt y &&& 31)).toInt :: st) h) : TT X ad cells slots pc ls (vI y :: vI x :: st) h := by
  obtain ⟨p, l, e, R, s, mm, args, below, meth, c, Q, D, tc, A, m⟩ := X
  obtain ⟨hx, hb, -⟩ := hX
  intro L H locs hL hS
  have kk := k L H locs hL hS
  simp only [List.map_cons, cv, Int32.ofInt_toInt] at kk
  exact lv_ishl hx hb hd kk
theorem am_ishr {x y : Int} (hX : CX X) (hd : decode (m_cd (xm X)) pc = .ok (.ishr, 1)) (k : TT X ad cells slots (pc + 1) ls (vI (Int32.ofInt x >>> (Int32.ofInt y &&& 31)).toInt :: st) h) : TT X ad cells slots pc ls (vI y :: vI x :: st) h := by
  obtain ⟨p, l, e, R, s, mm, args, below, meth, c, Q, D, tc, A, m⟩ := X
  obtain ⟨hx, hb, -⟩ := hX
  intro L H locs hL hS
  have kk := k L H locs hL hS
  simp only [List.map_cons, cv, Int32.ofInt_toInt] at kk
  exact lv_ishr hx hb hd kk
theorem am_iand {x y : Int} (hX : CX X) (hd : decode (m_cd (xm X)) pc = .ok (.iand, 1)) (k : TT X ad cells slots (pc + 1) ls (vI (Int32.ofInt x &&& Int32.ofInt y).toInt :: st) h) : TT X ad cells slots pc ls (vI y :: vI x :: st) h := by
  obtain ⟨p, l, e, R, s, mm, args, below, meth, c, Q, D, tc, A, m⟩ := X
  obtain ⟨hx, hb, -⟩ := hX
  intro L H locs hL hS
  have kk := k L H locs hL hS
  simp only [List.map_cons, cv, Int32.ofInt_toInt] at kk
  exact lv_iand hx hb hd kk
theorem am_ior {x y : Int} (hX : CX X) (hd : decode (m_cd (xm X)) pc = .ok (.ior, 1)) (k : TT X ad cells slots (pc + 1) ls (vI (Int32.ofInt x ||| Int32.ofInt y).toInt :: st) h) : TT X ad cells slots pc ls (vI y :: vI x :: st) h := by
  obtain ⟨p, l, e, R, s, mm, args, below, meth, c, Q, D, tc, A, m⟩ := X
  obtain ⟨hx, hb, -⟩ := hX
  intro L H locs hL hS
  have kk := k L H locs hL hS
  simp only [List.map_cons, cv, Int32.ofInt_toInt] at kk
  exact lv_ior hx hb hd kk
theorem am_ixor {x y : Int} (hX : CX X) (hd : decode (m_cd (xm X)) pc = .ok (.ixor, 1)) (k : TT X ad cells slots (pc + 1) ls (vI (Int32.ofInt x ^^^ Int32.ofInt y).toInt :: st) h) : TT X ad cells slots pc ls (vI y :: vI x :: st) h := by
  obtain ⟨p, l, e, R, s, mm, args, below, meth, c, Q, D, tc, A, m⟩ := X
  obtain ⟨hx, hb, -⟩ := hX
  intro L H locs hL hS
  have kk := k L H locs hL hS
  simp only [List.map_cons, cv, Int32.ofInt_toInt] at kk
  exact lv_ixor hx hb hd kk
theorem am_idiv {x y : Int} (hX : CX X) (hd : decode (m_cd (xm X)) pc = .ok (.idiv, 1)) (hx0 : inR x) (hy0 : inR y) (h0 : y ≠ 0) (hr : inR (x.tdiv y)) (k : TT X ad cells slots (pc + 1) ls (vI (x.tdiv y) :: st) h) : TT X ad cells slots pc ls (vI y :: vI x :: st) h := by
  have e1 : Int32.ofInt x / Int32.ofInt y = Int32.ofInt (x.tdiv y) := i32_of hr (by rw [Int32.toInt_div, i32_eq hx0, i32_eq hy0]; exact Int.bmod_eq_of_le (by have := hr.1; omega) (by have := hr.2; omega))
  obtain ⟨p, l, e, R, s, mm, args, below, meth, c, Q, D, tc, A, m⟩ := X
  obtain ⟨hx, hb, -⟩ := hX
  intro L H locs hL hS
  exact lv_idiv hx hb hd (fun z => h0 ((i32_z hy0).mp z)) (by rw [e1]; exact k L H locs hL hS)
theorem am_irem {x y : Int} (hX : CX X) (hd : decode (m_cd (xm X)) pc = .ok (.irem, 1)) (hx0 : inR x) (hy0 : inR y) (h0 : y ≠ 0) (hr : inR (x.tdiv y)) (k : TT X ad cells slots (pc + 1) ls (vI (x.tmod y) :: st) h) : TT X ad cells slots pc ls (vI y :: vI x :: st) h := by
  have e1 : Int32.ofInt x / Int32.ofInt y = Int32.ofInt (x.tdiv y) := i32_of hr (by rw [Int32.toInt_div, i32_eq hx0, i32_eq hy0]; exact Int.bmod_eq_of_le (by have := hr.1; omega) (by have := hr.2; omega))
  have e2 : Int32.ofInt x - Int32.ofInt x / Int32.ofInt y * Int32.ofInt y = Int32.ofInt (x.tmod y) := by
    rw [e1, ← Int32.ofInt_mul, ← Int32.ofInt_sub]
    congr 1
    have := Int.mul_tdiv_add_tmod x y
    rw [Int.mul_comm] at this
    omega
  obtain ⟨p, l, e, R, s, mm, args, below, meth, c, Q, D, tc, A, m⟩ := X
  obtain ⟨hx, hb, -⟩ := hX
  intro L H locs hL hS
  exact lv_irem hx hb hd (fun z => h0 ((i32_z hy0).mp z)) (by rw [e2]; exact k L H locs hL hS)
theorem am_i2b {x : Int} (hX : CX X) (hd : decode (m_cd (xm X)) pc = .ok (.i2b, 1)) (h1 : -128 ≤ x) (h2 : x ≤ 127) (k : TT X ad cells slots (pc + 1) ls (vI x :: st) h) : TT X ad cells slots pc ls (vI x :: st) h := by
  have hr : inR x := ⟨by omega, by omega⟩
  obtain ⟨p, l, e, R, s, mm, args, below, meth, c, Q, D, tc, A, m⟩ := X
  obtain ⟨hx, hb, -⟩ := hX
  intro L H locs hL hS
  exact lv_i2b (v := Int32.ofInt x) hx hb hd (i32_of hr (by rw [Int8.toInt_toInt32, Int32.toInt_toInt8, i32_eq hr]; exact Int.bmod_eq_of_le (by omega) (by omega))) (k L H locs hL hS)
theorem am_i2l {x : Int} (hX : CX X) (hd : decode (m_cd (xm X)) pc = .ok (.i2l, 1)) (hr : inR x) (k : TT X ad cells slots (pc + 1) ls (vL x :: st) h) : TT X ad cells slots pc ls (vI x :: st) h := by
  obtain ⟨p, l, e, R, s, mm, args, below, meth, c, Q, D, tc, A, m⟩ := X
  obtain ⟨hx, hb, -⟩ := hX
  intro L H locs hL hS
  exact lv_i2l (v := Int64.ofInt x) hx hb hd (Int64.toInt_inj.mp (by rw [Int32.toInt_toInt64, i32_eq hr, i64_eq ⟨by have := hr.1; omega, by have := hr.2; omega⟩])) (k L H locs hL hS)
theorem am_lcmp {x y : Int} (hX : CX X) (hd : decode (m_cd (xm X)) pc = .ok (.lcmp, 1)) (hx0 : inL x) (hy0 : inL y) (k : TT X ad cells slots (pc + 1) ls (vI (if y < x then 1 else if x = y then 0 else -1) :: st) h) : TT X ad cells slots pc ls (vL y :: vL x :: st) h := by
  have e1 : lg_cmp (Int64.ofInt x) (Int64.ofInt y) = Int32.ofInt (if y < x then 1 else if x = y then 0 else -1) := by
    unfold lg_cmp
    simp only [gt_iff_lt, Int64.lt_iff_toInt_lt, ← Int64.toInt_inj, i64_eq hx0, i64_eq hy0]
    split
    · rfl
    · split <;> rfl
  obtain ⟨p, l, e, R, s, mm, args, below, meth, c, Q, D, tc, A, m⟩ := X
  obtain ⟨hx, hb, -⟩ := hX
  intro L H locs hL hS
  exact W.lcmp hx hb hd (by rw [e1]; exact k L H locs hL hS)
theorem am_if {c0 : Jvm.ClassFile.Cond} {off x : Int} (hX : CX X) (hd : decode (m_cd (xm X)) pc = .ok (.ifCond c0 off, 3)) (ht : 0 ≤ tgt pc off) (hr : inR x) (k : TT X ad cells slots (if cop (rsc c0) x 0 then (tgt pc off).toNat else pc + 3) ls st h) : TT X ad cells slots pc ls (vI x :: st) h := by
  have ht' : (pc : Int) + off = ((tgt pc off).toNat : Int) := by rw [Int.toNat_of_nonneg ht]; rfl
  have z0 : (0 : Int32) = Int32.ofInt 0 := rfl
  obtain ⟨p, l, e, R, s, mm, args, below, meth, c, Q, D, tc, A, m⟩ := X
  obtain ⟨hx, hb, -⟩ := hX
  intro L H locs hL hS
  have kk := k L H locs hL hS
  cases c0
  · exact lv_if_eq hx hb hd ht' (fun q => by rw [if_pos (show cop (rsc .eq) x 0 from (i32_z hr).mp q)] at kk; exact kk) (fun q => by rw [if_neg (show ¬ cop (rsc .eq) x 0 from fun z => q ((i32_z hr).mpr z))] at kk; exact kk)
  · exact lv_if_ne hx hb hd ht' (fun q => by rw [if_pos (show cop (rsc .ne) x 0 from fun z => q ((i32_z hr).mpr z))] at kk; exact kk) (fun q => by rw [if_neg (show ¬ cop (rsc .ne) x 0 from fun z => z ((i32_z hr).mp q))] at kk; exact kk)
  · exact lv_if_lt hx hb hd ht' (fun q => by rw [if_pos (show cop (rsc .lt) x 0 from (i32_lt hr in0).mp q)] at kk; exact kk) (fun q => by rw [if_neg (show ¬ cop (rsc .lt) x 0 from fun z => q ((i32_lt hr in0).mpr z))] at kk; exact kk)
  · exact lv_if_ge hx hb hd ht' (fun q => by rw [if_pos (show cop (rsc .ge) x 0 from (i32_le in0 hr).mp q)] at kk; exact kk) (fun q => by rw [if_neg (show ¬ cop (rsc .ge) x 0 from fun z => q ((i32_le in0 hr).mpr z))] at kk; exact kk)
  · exact lv_if_gt hx hb hd ht' (fun q => by rw [if_pos (show cop (rsc .gt) x 0 from (i32_lt in0 hr).mp q)] at kk; exact kk) (fun q => by rw [if_neg (show ¬ cop (rsc .gt) x 0 from fun z => q ((i32_lt in0 hr).mpr z))] at kk; exact kk)
  · exact lv_if_le hx hb hd ht' (fun q => by rw [if_pos (show cop (rsc .le) x 0 from (i32_le hr in0).mp q)] at kk; exact kk) (fun q => by rw [if_neg (show ¬ cop (rsc .le) x 0 from fun z => q ((i32_le hr in0).mpr z))] at kk; exact kk)
theorem am_icmp {c0 : Jvm.ClassFile.Cond} {off x y : Int} (hX : CX X) (hd : decode (m_cd (xm X)) pc = .ok (.if_icmp c0 off, 3)) (ht : 0 ≤ tgt pc off) (hr : inR x) (hy : inR y) (k : TT X ad cells slots (if cop (rsc c0) x y then (tgt pc off).toNat else pc + 3) ls st h) : TT X ad cells slots pc ls (vI y :: vI x :: st) h := by
  have ht' : (pc : Int) + off = ((tgt pc off).toNat : Int) := by rw [Int.toNat_of_nonneg ht]; rfl
  obtain ⟨p, l, e, R, s, mm, args, below, meth, c, Q, D, tc, A, m⟩ := X
  obtain ⟨hx, hb, -⟩ := hX
  intro L H locs hL hS
  have kk := k L H locs hL hS
  cases c0
  · exact lv_icmp_eq hx hb hd ht' (fun q => by rw [if_pos (show cop (rsc .eq) x y from (i32_inj hr hy).mp q)] at kk; exact kk) (fun q => by rw [if_neg (show ¬ cop (rsc .eq) x y from fun z => q ((i32_inj hr hy).mpr z))] at kk; exact kk)
  · exact lv_icmp_ne hx hb hd ht' (fun q => by rw [if_pos (show cop (rsc .ne) x y from fun z => q ((i32_inj hr hy).mpr z))] at kk; exact kk) (fun q => by rw [if_neg (show ¬ cop (rsc .ne) x y from fun z => z ((i32_inj hr hy).mp q))] at kk; exact kk)
  · exact lv_icmp_lt hx hb hd ht' (fun q => by rw [if_pos (show cop (rsc .lt) x y from (i32_lt hr hy).mp q)] at kk; exact kk) (fun q => by rw [if_neg (show ¬ cop (rsc .lt) x y from fun z => q ((i32_lt hr hy).mpr z))] at kk; exact kk)
  · exact lv_icmp_ge hx hb hd ht' (fun q => by rw [if_pos (show cop (rsc .ge) x y from (i32_le hy hr).mp q)] at kk; exact kk) (fun q => by rw [if_neg (show ¬ cop (rsc .ge) x y from fun z => q ((i32_le hy hr).mpr z))] at kk; exact kk)
  · exact lv_icmp_gt hx hb hd ht' (fun q => by rw [if_pos (show cop (rsc .gt) x y from (i32_lt hy hr).mp q)] at kk; exact kk) (fun q => by rw [if_neg (show ¬ cop (rsc .gt) x y from fun z => q ((i32_lt hy hr).mpr z))] at kk; exact kk)
  · exact lv_icmp_le hx hb hd ht' (fun q => by rw [if_pos (show cop (rsc .le) x y from (i32_le hr hy).mp q)] at kk; exact kk) (fun q => by rw [if_neg (show ¬ cop (rsc .le) x y from fun z => q ((i32_le hr hy).mpr z))] at kk; exact kk)
theorem am_goto {off : Int} (hX : CX X) (hd : decode (m_cd (xm X)) pc = .ok (.goto off, 3)) (ht : 0 ≤ tgt pc off) (k : TT X ad cells slots (tgt pc off).toNat ls st h) : TT X ad cells slots pc ls st h := by
  have ht' : (pc : Int) + off = ((tgt pc off).toNat : Int) := by rw [Int.toNat_of_nonneg ht]; rfl
  obtain ⟨p, l, e, R, s, mm, args, below, meth, c, Q, D, tc, A, m⟩ := X
  obtain ⟨hx, hb, -⟩ := hX
  intro L H locs hL hS
  exact lv_goto hx hb hd ht' (k L H locs hL hS)
theorem am_dupI {x : Int} (hX : CX X) (hd : decode (m_cd (xm X)) pc = .ok (.dup, 1)) (k : TT X ad cells slots (pc + 1) ls (vI x :: vI x :: st) h) : TT X ad cells slots pc ls (vI x :: st) h := by
  obtain ⟨p, l, e, R, s, mm, args, below, meth, c, Q, D, tc, A, m⟩ := X
  obtain ⟨hx, hb, -⟩ := hX
  intro L H locs hL hS
  exact lv_dup hx hb hd rfl (k L H locs hL hS)
theorem am_dupR {x : Nat} (hX : CX X) (hd : decode (m_cd (xm X)) pc = .ok (.dup, 1)) (k : TT X ad cells slots (pc + 1) ls (vR x :: vR x :: st) h) : TT X ad cells slots pc ls (vR x :: st) h := by
  obtain ⟨p, l, e, R, s, mm, args, below, meth, c, Q, D, tc, A, m⟩ := X
  obtain ⟨hx, hb, -⟩ := hX
  intro L H locs hL hS
  exact lv_dup hx hb hd rfl (k L H locs hL hS)
theorem am_dup2 {y : Int} {x : Nat} (hX : CX X) (hd : decode (m_cd (xm X)) pc = .ok (.dup2, 1)) (k : TT X ad cells slots (pc + 1) ls (vI y :: vR x :: vI y :: vR x :: st) h) : TT X ad cells slots pc ls (vI y :: vR x :: st) h := by
  obtain ⟨p, l, e, R, s, mm, args, below, meth, c, Q, D, tc, A, m⟩ := X
  obtain ⟨hx, hb, -⟩ := hX
  intro L H locs hL hS
  exact lv_dup2_11 hx hb hd rfl rfl (k L H locs hL hS)
theorem am_pop {y : Int} (hX : CX X) (hd : decode (m_cd (xm X)) pc = .ok (.pop, 1)) (k : TT X ad cells slots (pc + 1) ls st h) : TT X ad cells slots pc ls (vI y :: st) h := by
  obtain ⟨p, l, e, R, s, mm, args, below, meth, c, Q, D, tc, A, m⟩ := X
  obtain ⟨hx, hb, -⟩ := hX
  intro L H locs hL hS
  exact lv_pop hx hb hd rfl (k L H locs hL hS)
end OPS
end
section
/-! switches, fields, arrays, the JDK's few, over TT -/
theorem w_cls : (List.range 13).all (fun ci => okw ([117, 313, 394, 183, 297, 342, 256, 450, 212, 236, 431, 109, 1035].getD ci 0) (.instantiable (cname ci) (nF ci)) && okw ([94, 100, 102, 95, 99, 101, 98, 105, 96, 97, 103, 93, 106].getD ci 0) (.initialized (cname ci))) = true := by decide +kernel
theorem w_mcode (k : Nat) (w : Jvm.Cond) (h : lw_tbl[k]? = some w) (hg : goodWord w = true) : w ∈ lw_gt := List.mem_filter.mpr ⟨List.mem_of_getElem? h, hg⟩
set_option maxRecDepth 100000 in
theorem w_abs : Jvm.Cond.code Lib.Math.abs.name Lib.Math.abs.code 1 (some .int) ∈ lw_gt := w_mcode 546 _ (by rfl) rfl
set_option maxRecDepth 100000 in
theorem w_max : Jvm.Cond.code Lib.Math.max.name Lib.Math.max.code 2 (some .int) ∈ lw_gt := w_mcode 438 _ (by rfl) rfl
set_option maxRecDepth 100000 in
theorem w_min : Jvm.Cond.code Lib.Math.min.name Lib.Math.min.code 2 (some .int) ∈ lw_gt := w_mcode 762 _ (by rfl) rfl
set_option maxRecDepth 100000 in
theorem w_obj : Jvm.Cond.code Lib.objectInit ⟨#[0xb1]⟩ 1 none ∈ lw_gt := w_mcode 115 _ (by rfl) rfl
theorem w_objI : Jvm.Cond.instanceMethod Lib.objectInit ∈ lw_gt := okw_in (i := 114) (by decide +kernel)
theorem w_absS : Jvm.Cond.static Lib.Math.abs.name ∈ lw_gt := okw_in (i := 545) (by decide +kernel)
theorem w_maxS : Jvm.Cond.static Lib.Math.max.name ∈ lw_gt := okw_in (i := 437) (by decide +kernel)
theorem w_minS : Jvm.Cond.static Lib.Math.min.name ∈ lw_gt := okw_in (i := 761) (by decide +kernel)
theorem w_math : Jvm.Cond.initialized "java/lang/Math" ∈ lw_gt := okw_in (i := 104) (by decide +kernel)
theorem w_sys : Jvm.Cond.initialized "java/lang/System" ∈ lw_gt := okw_in (i := 107) (by decide +kernel)
theorem w_acS : Jvm.Cond.static arraycopyName ∈ lw_gt := okw_in (i := 697) (by decide +kernel)
theorem w_acN : Jvm.Cond.native arraycopyName ∈ lw_gt := okw_in (i := 698) (by decide +kernel)
theorem w_arrI : Jvm.Cond.arrayClass .int ∈ lw_gt := okw_in (i := 181) (by decide +kernel)
theorem w_arrB : Jvm.Cond.arrayClass .byte ∈ lw_gt := okw_in (i := 448) (by decide +kernel)
theorem tl_zip (g : Int → Nat) (d : Nat) (lo x : Int) : ∀ (l : List Int) (n : Nat), tlook ((l.zipIdx n).map (fun q => (lo + q.2, g q.1))) x d = if lo + n ≤ x ∧ x < lo + n + l.length then g (l.getD (x - lo - n).toNat 0) else d
  | [], n => by
    rw [if_neg (by simp only [List.length_nil]; omega)]
    rfl
  | a :: l, n => by
    show (if x = lo + n then g a else tlook ((l.zipIdx (n + 1)).map (fun q => (lo + q.2, g q.1))) x d) = _
    by_cases e : x = lo + n
    · rw [if_pos e, if_pos (by simp only [List.length_cons]; omega), show (x - lo - n).toNat = 0 by omega]
      rfl
    · rw [if_neg e, tl_zip g d lo x l (n + 1)]
      by_cases e2 : lo + n ≤ x ∧ x < lo + n + (a :: l).length
      · simp only [List.length_cons] at e2
        rw [if_pos (by omega), if_pos (by simp only [List.length_cons]; omega), show (x - lo - n).toNat = (x - lo - (n + 1 : Nat)).toNat + 1 by omega]
        rfl
      · simp only [List.length_cons] at e2
        rw [if_neg (by omega), if_neg (by simp only [List.length_cons]; omega)]
theorem tl_look (g : Int → Nat) (d x : Int) : ∀ l : List (Int × Int), tlook (l.map (fun q => (q.1, g q.2))) x (g d) = g (Op.lookupswitch.offset l d x)
  | [] => rfl
  | (a, o) :: l => by
    show (if x = a then g o else tlook (l.map (fun q => (q.1, g q.2))) x (g d)) = g (if a = x then o else Op.lookupswitch.offset l d x)
    by_cases e : x = a
    · rw [if_pos e, if_pos e.symm]
    · rw [if_neg e, if_neg (fun z => e z.symm), tl_look g d x l]
theorem scr_keep {s : State} {A : Nat → Prop} {ad ad' : Nat → Nat} {I I' : Nat → Nat → Int} (h : scrP s A ad I) (ha : ad' 1000 = ad 1000) (hI : ∀ o k, 1000 ≤ o → I' o k = I o k) : scrP s A ad' I' := by
  obtain ⟨L, xs, h1, h2, h3, h4, h5, h6⟩ := h
  exact ⟨L, xs, by rw [ha]; exact h1, by rw [ha]; exact h2, by rw [ha]; exact h3, h4, by rw [hI _ _ (by decide)]; exact h5, fun k hk => by rw [hI _ _ (by decide)]; exact h6 k hk⟩
theorem set_range {α : Type} {N k : Nat} {f g : Nat → α} {v : α} (hk : k < N) (hv : v = g k) (hg : ∀ j, j ≠ k → g j = f j) : ((List.range N).map f).set k v = (List.range N).map g := by
  refine List.ext_getElem? fun j => ?_
  by_cases e : j = k
  · subst e
    rw [List.getElem?_set_self (by simpa using hk), hv]
    simp [List.getElem?_range hk]
  · rw [List.getElem?_set_ne (fun z => e z.symm)]
    by_cases hj : j < N
    · simp [List.getElem?_range hj, hg j e]
    · simp [List.getElem?_eq_none (show (List.range N).length ≤ j by simpa using Nat.le_of_not_lt hj)]
theorem getD_set {l : List Nat} {k j v : Nat} (hk : k < l.length) : (l.set k v).getD j 3000 = if j = k then v else l.getD j 3000 := by
  by_cases e : j = k
  · subst e
    rw [if_pos rfl, List.getD_eq_getElem?_getD, List.getElem?_set_self hk]
    rfl
  · rw [if_neg e, List.getD_eq_getElem?_getD, List.getElem?_set_ne (fun z => e z.symm), ← List.getD_eq_getElem?_getD]
section OPS
variable {X : CT} {ad : Nat → Nat} {cells slots pc : Nat} {ls st : List AV} {h : AH}
theorem am_table {d lo hi : Int} {offs : Array Int} {len : Nat} {x : Int} (hX : CX X) (hd : decode (m_cd (xm X)) pc = .ok (.tableswitch d lo hi offs, len)) (h1 : 0 ≤ tgt pc d) (h2 : hi = lo + offs.size - 1) (h3 : offs.toList.all (fun o => decide (0 ≤ tgt pc o)) = true) (hr : inR x) (k : TT X ad cells slots (tlook (offs.toList.zipIdx.map (fun q => (lo + q.2, (tgt pc q.1).toNat))) x (tgt pc d).toNat) ls st h) : TT X ad cells slots pc ls (vI x :: st) h := by
  rw [tl_zip (fun z => (tgt pc z).toNat)] at k
  obtain ⟨p, l, e, R, s, mm, args, below, meth, c, Q, D, tc, A, m⟩ := X
  obtain ⟨hx, hb, -⟩ := hX
  intro L H locs hL hS
  have kk := k L H locs hL hS
  by_cases q : lo + (0 : Nat) ≤ x ∧ x < lo + (0 : Nat) + offs.toList.length
  · rw [if_pos q] at kk
    rw [Array.length_toList] at q
    have hi : (x - lo).toNat < offs.size := by omega
    have ho : offs[(x - lo).toNat]? = some offs[(x - lo).toNat] := Array.getElem?_eq_getElem hi
    have hm : offs[(x - lo).toNat] ∈ offs.toList := by rw [Array.mem_toList_iff]; exact Array.getElem_mem _
    have h4 : 0 ≤ tgt pc offs[(x - lo).toNat] := by simpa using List.all_eq_true.mp h3 _ hm
    have h5 : offs.toList.getD (x - lo - (0 : Nat)).toNat 0 = offs[(x - lo).toNat] := by
      rw [show (x - lo - (0 : Nat)).toNat = (x - lo).toNat by omega, List.getD_eq_getElem?_getD, Array.getElem?_toList, ho]
      rfl
    rw [h5] at kk
    exact lv_tableIn hx hb hd (by rw [i32_eq hr]; omega) (by rw [i32_eq hr]; omega) (by rw [i32_eq hr]; exact ho) (by rw [Int.toNat_of_nonneg h4]; rfl) kk
  · rw [if_neg q] at kk
    rw [Array.length_toList] at q
    exact lv_tableOut hx hb hd (by rw [i32_eq hr]; omega) (by rw [Int.toNat_of_nonneg h1]; rfl) kk
theorem am_lookup {d : Int} {ps : Array (Int × Int)} {len : Nat} {x : Int} (hX : CX X) (hd : decode (m_cd (xm X)) pc = .ok (.lookupswitch d ps, len)) (h1 : 0 ≤ tgt pc d) (h2 : ps.toList.all (fun o => decide (0 ≤ tgt pc o.2)) = true) (h3 : (ps.toList.zip (ps.toList.drop 1)).all (fun (a, next) => a.1 < next.1) = true) (hr : inR x) (k : TT X ad cells slots (tlook (ps.toList.map (fun q => (q.1, (tgt pc q.2).toNat))) x (tgt pc d).toNat) ls st h) : TT X ad cells slots pc ls (vI x :: st) h := by
  rw [tl_look (fun z => (tgt pc z).toNat)] at k
  have hn : ∀ l : List (Int × Int), l.all (fun o => decide (0 ≤ tgt pc o.2)) = true → 0 ≤ tgt pc (Op.lookupswitch.offset l d x) := by
    intro l
    induction l with
    | nil => intro _; exact h1
    | cons q l ih =>
      intro hl
      obtain ⟨a, o⟩ := q
      simp only [List.all_cons, Bool.and_eq_true, decide_eq_true_eq] at hl
      rw [Op.lookupswitch.offset_cons]
      split
      · exact hl.1
      · exact ih hl.2
  have h4 := hn _ h2
  obtain ⟨p, l, e, R, s, mm, args, below, meth, c, Q, D, tc, A, m⟩ := X
  obtain ⟨hx, hb, -⟩ := hX
  intro L H locs hL hS
  exact lv_lookup hx hb hd h3 (by rw [i32_eq hr]) (by rw [Int.toNat_of_nonneg h4]; rfl) (k L H locs hL hS)
theorem am_getI {ix ci k0 wi sz o : Nat} {rf : List Nat} (hX : CX X) (hd : decode (m_cd (xm X)) pc = .ok (.getfield ix, 3)) (hf : ftab.lookup (m_own (xm X), ix) = some (ci, k0, wi)) (hk : fk ci k0 ≠ 2) (hq : h.2[o]? = some (ci, sz, rf)) (hz : k0 < sz) (k : TT X ad cells slots (pc + 3) ls (vI (h.1 o k0) :: st) h) : TT X ad cells slots pc ls (vR o :: st) h := by
  have hw := List.all_eq_true.mp ftab_ok _ (of_lk hf)
  unfold okFt at hw
  split at hw
  · rename_i C T N hc
    simp only [Bool.and_eq_true, decide_eq_true_eq] at hw
    obtain ⟨c1, c2, c3, c4, c5, c6, c7, c8⟩ := clsF hc
    obtain ⟨p, l, e, R, s, mm, args, below, meth, c, Q, D, tc, A, m⟩ := X
    obtain ⟨hx, hb, hml, hown, hts, hin, hK, hA, hnw, hfr, hlo⟩ := hX
    intro L H locs hL hS
    have he := wd_at (tc := tc) (ad := ad) hq
    rw [ent_obj (ci := ci) (Nat.lt_trans c8 (by decide))] at he
    exact va_get hx hb hts c1 hown hK hS.1 o he hc k0 hw.1 (hts _ (okw_in hw.2)) (fun _ z => z) (v := .int (Int32.ofInt (h.1 o k0))) (by simp [List.getElem?_range hz, fval, hk]) hd (k L H locs hL hS)
  · cases hw
theorem am_getR {ix ci k0 wi sz o q : Nat} {rf : List Nat} (hX : CX X) (hd : decode (m_cd (xm X)) pc = .ok (.getfield ix, 3)) (hf : ftab.lookup (m_own (xm X), ix) = some (ci, k0, wi)) (hk : fk ci k0 = 2) (hq : h.2[o]? = some (ci, sz, rf)) (hz : k0 < sz) (hr : rf[k0]? = some q) (hq3 : q < 1000) (k : TT X ad cells slots (pc + 3) ls (vR q :: st) h) : TT X ad cells slots pc ls (vR o :: st) h := by
  have hw := List.all_eq_true.mp ftab_ok _ (of_lk hf)
  unfold okFt at hw
  split at hw
  · rename_i C T N hc
    simp only [Bool.and_eq_true, decide_eq_true_eq] at hw
    obtain ⟨c1, c2, c3, c4, c5, c6, c7, c8⟩ := clsF hc
    obtain ⟨p, l, e, R, s, mm, args, below, meth, c, Q, D, tc, A, m⟩ := X
    obtain ⟨hx, hb, hml, hown, hts, hin, hK, hA, hnw, hfr, hlo⟩ := hX
    intro L H locs hL hS
    have he := wd_at (tc := tc) (ad := ad) hq
    rw [ent_obj (ci := ci) (Nat.lt_trans c8 (by decide))] at he
    exact va_get hx hb hts c1 hown hK hS.1 o he hc k0 hw.1 (hts _ (okw_in hw.2)) (fun _ z => z) (v := .ref (ad q)) (by simp [List.getElem?_range hz, fval, hk, hr, rfo, va_rf, show q ≠ 3000 by omega]) hd (k L H locs hL hS)
  · cases hw
theorem put_any {ix ci k0 wi sz o : Nat} {rf rf' : List Nat} {I' : Nat → Nat → Int} {v : AV} (hX : CX X) (hd : decode (m_cd (xm X)) pc = .ok (.putfield ix, 3)) (hf : ftab.lookup (m_own (xm X), ix) = some (ci, k0, wi)) (hfin : fFin ci k0 = false ∨ (m_kd (xm X) = 2 ∧ m_own (xm X) = ci)) (hq : h.2[o]? = some (ci, sz, rf)) (hz : k0 < sz) (hn : narrow (tyT ci k0) (cv ad v) = cv ad v) (hfit : fits (tyT ci k0) (cv ad v) = true)
    (hv : cv ad v = fval ad I' o ci rf' k0) (ho : ∀ j, j ≠ k0 → fval ad I' o ci rf' j = fval ad h.1 o ci rf j) (hI : ∀ o' k, o' ≠ o → I' o' k = h.1 o' k) (k : TT X ad cells slots (pc + 3) ls st (I', h.2.set o (ci, sz, rf'))) : TT X ad cells slots pc ls (v :: vR o :: st) h := by
  have hw := List.all_eq_true.mp ftab_ok _ (of_lk hf)
  unfold okFt at hw
  split at hw
  · rename_i C T N hc
    simp only [Bool.and_eq_true, decide_eq_true_eq] at hw
    obtain ⟨c1, c2, c3, c4, c5, c6, c7, c8⟩ := clsF hc
    obtain ⟨p, l, e, R, s, mm, args, below, meth, c, Q, D, tc, A, m⟩ := X
    obtain ⟨hx, hb, hml, hown, hts, hin, hK, hA, hnw, hfr, hlo⟩ := hX
    intro L H locs hL hS
    obtain ⟨hP, hD, hSS, hlen, hscr⟩ := hS
    have he := wd_at (tc := tc) (ad := ad) hq
    rw [ent_obj (ci := ci) (Nat.lt_trans c8 (by decide))] at he
    have hol : o < h.2.length := (List.getElem?_eq_some_iff.mp hq).1
    have hset : (wd tc ad h).set o (ad o, .inr (ci, ((List.range sz).map (fval ad h.1 o ci rf)).set k0 (cv ad v))) = wd tc ad (I', h.2.set o (ci, sz, rf')) := by
      rw [set_range hz hv ho, ← ent_obj (ci := ci) (tc := tc) (Nat.lt_trans c8 (by decide))]
      exact wd_set hq hI
    have kk : ∀ (H1 : Heap) (locs1 : List Loc), va_P D vwCl ((wd tc ad h).set o (ad o, .inr (ci, ((List.range sz).map (fval ad h.1 o ci rf)).set k0 (cv ad v)))) H1 → va_D A ((wd tc ad h).set o (ad o, .inr (ci, ((List.range sz).map (fval ad h.1 o ci rf)).set k0 (cv ad v)))) → va_S A s.heap H1 locs1 → W p l e R s mm args below meth c H1 locs1 cells slots Q (F0 mm (pc + 3) L (st.map (cv ad))) := by
      intro H1 locs1 g1 g2 g3
      rw [hset] at g1 g2
      exact k L H1 locs1 hL ⟨g1, g2, g3, by simpa using hlen, fun z => scr_keep (hscr z) rfl (fun o' k9 ho9 => hI o' k9 (by omega))⟩
    have hl : k0 < ((List.range sz).map (fval ad h.1 o ci rf)).length := by simpa using hz
    by_cases q : fFin ci k0 = false
    · exact va_put hx hb hts c1 (tyT ci) c2 c3 hown hK hP hD hSS o he hc k0 hw.1 (hts _ (okw_in hw.2)) (fun _ z => z) (by rw [c6]; exact q) (c2 k0 hw.1) hn hfit hl hd kk
    · have q2 : m_kd m = 2 ∧ m_own m = ci := hfin.resolve_left q
      have hdecl : (T k0).1 = cname (m_own m) := by rw [c7 k0 hw.1, c4, q2.2]
      exact va_putF hx hb hts c1 (tyT ci) c2 c3 hown hK hP hD hSS o he hc k0 hw.1 (hts _ (okw_in hw.2)) (fun _ z => z) (by rw [c6]; simpa using q) (hin q2.1) hdecl (c2 k0 hw.1) hn hfit hl hd kk
  · cases hw
theorem am_iald {o sz : Nat} {rf : List Nat} {i : Int} (hX : CX X) (hd : decode (m_cd (xm X)) pc = .ok (.iaload, 1)) (hq : h.2[o]? = some (100, sz, rf)) (h0 : 0 ≤ i) (h1 : i < sz) (hr : inR i) (k : TT X ad cells slots (pc + 1) ls (vI (h.1 o i.toNat) :: st) h) : TT X ad cells slots pc ls (vI i :: vR o :: st) h := by
  obtain ⟨p, l, e, R, s, mm, args, below, meth, c, Q, D, tc, A, m⟩ := X
  obtain ⟨hx, hb, hml, hown, hts, hin, hK, hA, hnw, hfr, hlo⟩ := hX
  intro L H locs hL hS
  exact va_iald hx hb hK hS.1 o 0 (wd_at (tc := tc) (ad := ad) hq) rfl (i32_vin hr h0 h1) hd (by rw [i32_clamp hr]; exact k L H locs hL hS)
theorem am_bald {o sz : Nat} {rf : List Nat} {i : Int} (hX : CX X) (hd : decode (m_cd (xm X)) pc = .ok (.baload, 1)) (hq : h.2[o]? = some (101, sz, rf)) (h0 : 0 ≤ i) (h1 : i < sz) (hr : inR i) (k : TT X ad cells slots (pc + 1) ls (vI (h.1 o i.toNat) :: st) h) : TT X ad cells slots pc ls (vI i :: vR o :: st) h := by
  obtain ⟨p, l, e, R, s, mm, args, below, meth, c, Q, D, tc, A, m⟩ := X
  obtain ⟨hx, hb, hml, hown, hts, hin, hK, hA, hnw, hfr, hlo⟩ := hX
  intro L H locs hL hS
  exact va_bald hx hb hK hS.1 o 1 (wd_at (tc := tc) (ad := ad) hq) rfl (i32_vin hr h0 h1) hd (by rw [i32_clamp hr]; exact k L H locs hL hS)
theorem aald_any (hX : CX X) {n : Nat} {f : Nat → Option Nat} {o : Nat} {t0 : Nat} {ty : FieldType} (hd : decode (m_cd (xm X)) pc = .ok (.aaload, 1)) {i : Int} {q : Nat} (ht : ∀ tc : Nat → ClassId, (tysF tc)[t0]? = some (tc t0, ty)) (hty : ty.isReference = true) (ha : ∀ tc : Nat → ClassId, (wd tc ad h)[o]? = some (ad o, .inl (tc t0, n, .inr (.inr (.inr (.inr f)))))) (hr : inR i) (h0 : 0 ≤ i) (h1 : i < n) (hf : f i.toNat = some (ad q)) (k : TT X ad cells slots (pc + 1) ls (vR q :: st) h) : TT X ad cells slots pc ls (vI i :: vR o :: st) h := by
  obtain ⟨p, l, e, R, s, mm, args, below, meth, c, Q, D, tc, A, m⟩ := X
  obtain ⟨hx, hb, hml, hown, hts, hin, hK, hA, hnw, hfr, hlo⟩ := hX
  intro L H locs hL hS
  have hin9 := i32_vin (n := n) hr h0 h1
  have hlt : (Int32.ofInt i).toNatClampNeg < n := Nat.not_le.mp fun q => hin9 (Or.inr q)
  have kk := k L H locs hL hS
  have hv : va_rf (f (Int32.ofInt i).toNatClampNeg) = .ref (ad q) := by rw [i32_clamp hr, hf]; rfl
  exact W.aald (v := va_rf (f (Int32.ofInt i).toNatClampNeg)) (ty := ty) hx hb (hS.1 o _ (ha tc)) ((hK.2 t0 _ (ht tc)).1 n (fun j => va_rf (f j))) hty (fun q => by cases q) (by show ¬ (Int32.ofInt i < 0 ∨ (arrV _ _ _).slots.size ≤ _); rw [arrV_size]; exact hin9) (by show (arrV _ _ _).slots[_]? = _; rw [arrV_read _ _ hlt]) rfl rfl hd (by rw [hv]; exact kk)
theorem am_aald {o sz kd q : Nat} {rf : List Nat} {i : Int} (hX : CX X) (hd : decode (m_cd (xm X)) pc = .ok (.aaload, 1)) (hq : h.2[o]? = some (kd, sz, rf)) (hkd : kd = 102 ∨ kd = 103) (h0 : 0 ≤ i) (h1 : i < sz) (hr : inR i) (hf : rf[i.toNat]? = some q) (hq3 : q < 1000) (k : TT X ad cells slots (pc + 1) ls (vR q :: st) h) : TT X ad cells slots pc ls (vI i :: vR o :: st) h := by
  have hfq : rfo ad (rf.getD i.toNat 3000) = some (ad q) := by
    rw [List.getD_eq_getElem?_getD, hf]
    exact if_neg (by show q ≠ 3000; omega)
  rcases hkd with rfl | rfl
  · exact aald_any hX (t0 := 2) (ty := .array .int) hd (fun tc => rfl) rfl (fun tc => wd_at (tc := tc) (ad := ad) hq) hr h0 h1 hfq k
  · exact aald_any hX (t0 := 3) (ty := .object "RoundSlack$Rounds") hd (fun tc => rfl) rfl (fun tc => wd_at (tc := tc) (ad := ad) hq) hr h0 h1 hfq k
theorem am_iast {o sz : Nat} {rf : List Nat} {i x : Int} (hX : CX X) (hd : decode (m_cd (xm X)) pc = .ok (.iastore, 1)) (hq : h.2[o]? = some (100, sz, rf)) (h0 : 0 ≤ i) (h1 : i < sz) (hr : inR i) (k : TT X ad cells slots (pc + 1) ls st (iup h.1 o i.toNat x, h.2)) : TT X ad cells slots pc ls (vI x :: vI i :: vR o :: st) h := by
  obtain ⟨p, l, e, R, s, mm, args, below, meth, c, Q, D, tc, A, m⟩ := X
  obtain ⟨hx, hb, hml, hown, hts, hin, hK, hA, hnw, hfr, hlo⟩ := hX
  intro L H locs hL hS
  obtain ⟨hP, hD, hSS, hlen, hscr⟩ := hS
  have hol : o < h.2.length := (List.getElem?_eq_some_iff.mp hq).1
  have hI : ∀ o' k9, o' ≠ o → iup h.1 o i.toNat x o' k9 = h.1 o' k9 := fun o' k9 z => if_neg (fun y => z y.1)
  refine va_iast hx hb hK hP hD hSS o 0 (wd_at (tc := tc) (ad := ad) hq) rfl (i32_vin hr h0 h1) hd (fun H1 locs1 g1 g2 g3 => ?_)
  have hset : (wd tc ad h).set o (ad o, .inl (tc 0, sz, .inl (upd (fun k => Int32.ofInt (h.1 o k)) (Int32.ofInt i).toNatClampNeg (Int32.ofInt x)))) = wd tc ad (iup h.1 o i.toNat x, h.2) := by
    rw [← wd_upd hq hI]
    congr 2
    show _ = (Sum.inl (tc 0, sz, Sum.inl (fun k => Int32.ofInt (iup h.1 o i.toNat x o k))) : va_E)
    congr 4
    funext j
    rw [i32_clamp hr]
    unfold upd iup
    by_cases z : j = i.toNat <;> simp [z]
  rw [hset] at g1 g2
  exact k L H1 locs1 hL ⟨g1, g2, g3, hlen, fun z => scr_keep (hscr z) rfl (fun o' k9 ho9 => hI o' k9 (by omega))⟩
theorem am_bast {o sz : Nat} {rf : List Nat} {i x : Int} (hX : CX X) (hd : decode (m_cd (xm X)) pc = .ok (.bastore, 1)) (hq : h.2[o]? = some (101, sz, rf)) (h0 : 0 ≤ i) (h1 : i < sz) (hr : inR i) (hb1 : -128 ≤ x) (hb2 : x ≤ 127) (k : TT X ad cells slots (pc + 1) ls st (iup h.1 o i.toNat x, h.2)) : TT X ad cells slots pc ls (vI x :: vI i :: vR o :: st) h := by
  have hxr : inR x := ⟨by omega, by omega⟩
  have hnar : vp_nar .byte (Int32.ofInt x) = Int32.ofInt x := by
    rw [vp_nar_byte]
    exact i32_of hxr (by rw [Int8.toInt_toInt32, Int32.toInt_toInt8, i32_eq hxr]; exact Int.bmod_eq_of_le (by omega) (by omega))
  obtain ⟨p, l, e, R, s, mm, args, below, meth, c, Q, D, tc, A, m⟩ := X
  obtain ⟨hx, hb, hml, hown, hts, hin, hK, hA, hnw, hfr, hlo⟩ := hX
  intro L H locs hL hS
  obtain ⟨hP, hD, hSS, hlen, hscr⟩ := hS
  have hol : o < h.2.length := (List.getElem?_eq_some_iff.mp hq).1
  have hI : ∀ o' k9, o' ≠ o → iup h.1 o i.toNat x o' k9 = h.1 o' k9 := fun o' k9 z => if_neg (fun y => z y.1)
  refine va_bast hx hb hK hP hD hSS o 1 (wd_at (tc := tc) (ad := ad) hq) rfl (i32_vin hr h0 h1) hd (fun H1 locs1 g1 g2 g3 => ?_)
  have hset : (wd tc ad h).set o (ad o, .inl (tc 1, sz, .inl (upd (fun k => Int32.ofInt (h.1 o k)) (Int32.ofInt i).toNatClampNeg (vp_nar .byte (Int32.ofInt x))))) = wd tc ad (iup h.1 o i.toNat x, h.2) := by
    rw [← wd_upd hq hI, hnar]
    congr 2
    show _ = (Sum.inl (tc 1, sz, Sum.inl (fun k => Int32.ofInt (iup h.1 o i.toNat x o k))) : va_E)
    congr 4
    funext j
    rw [i32_clamp hr]
    unfold upd iup
    by_cases z : j = i.toNat <;> simp [z]
  rw [hset] at g1 g2
  exact k L H1 locs1 hL ⟨g1, g2, g3, hlen, fun z => scr_keep (hscr z) rfl (fun o' k9 ho9 => hI o' k9 (by omega))⟩
theorem am_aast {o q sz zq : Nat} {rf rq : List Nat} {i : Int} (hX : CX X) (hd : decode (m_cd (xm X)) pc = .ok (.aastore, 1)) (hq : h.2[o]? = some (103, sz, rf)) (hqq : h.2[q]? = some (8, zq, rq)) (h0 : 0 ≤ i) (h1 : i < sz) (hr : inR i) (hl : i.toNat < rf.length) (k : TT X ad cells slots (pc + 1) ls st (h.1, h.2.set o (103, sz, rf.set i.toNat q))) : TT X ad cells slots pc ls (vR q :: vI i :: vR o :: st) h := by
  obtain ⟨p, l, e, R, s, mm, args, below, meth, c, Q, D, tc, A, m⟩ := X
  obtain ⟨hx, hb, hml, hown, hts, hin, hK, hA, hnw, hfr, hlo⟩ := hX
  intro L H locs hL hS
  obtain ⟨hP, hD, hSS, hlen, hscr⟩ := hS
  have hql : q < h.2.length := (List.getElem?_eq_some_iff.mp hqq).1
  have hv := wd_at (tc := tc) (ad := ad) hqq
  rw [ent_obj (ci := 8) (by decide)] at hv
  refine va_astq (r := (RX8, TX8, 2)) hx hb hK hP hD hSS o 3 q 8 (wd_at (tc := tc) (ad := ad) hq) rfl hv rfl (i32_vin hr h0 h1) hd (fun H1 locs1 g1 g2 g3 => ?_)
  have hset : (wd tc ad h).set o (ad o, .inl (tc 3, sz, .inr (.inr (.inr (.inr (va_up (fun k => rfo ad (rf.getD k 3000)) (Int32.ofInt i).toNatClampNeg (some (ad q)))))))) = wd tc ad (h.1, h.2.set o (103, sz, rf.set i.toNat q)) := by
    rw [← wd_set (q' := (103, sz, rf.set i.toNat q)) hq (fun _ _ _ => rfl)]
    congr 2
    show _ = (Sum.inl (tc 3, sz, Sum.inr (Sum.inr (Sum.inr (Sum.inr (fun k => rfo ad ((rf.set i.toNat q).getD k 3000)))))) : va_E)
    congr 7
    funext j
    rw [i32_clamp hr, getD_set hl]
    unfold va_up
    by_cases z : j = i.toNat
    · rw [if_pos z, if_pos z]
      exact (if_neg (by show q ≠ 3000; omega)).symm
    · rw [if_neg z, if_neg z]
  rw [hset] at g1 g2
  exact k L H1 locs1 hL ⟨g1, g2, g3, by simpa using hlen, fun z => scr_keep (hscr z) rfl (fun o' k9 ho9 => rfl)⟩
theorem am_alen {o kd sz : Nat} {rf : List Nat} (hX : CX X) (hd : decode (m_cd (xm X)) pc = .ok (.arraylength, 1)) (hq : h.2[o]? = some (kd, sz, rf)) (h1 : 100 ≤ kd) (h2 : kd ≤ 103) (k : TT X ad cells slots (pc + 1) ls (vI sz :: st) h) : TT X ad cells slots pc ls (vR o :: st) h := by
  have e1 : Int32.ofNat sz = Int32.ofInt (sz : Int) := Int32.ofInt_eq_ofNat.symm
  obtain ⟨p, l, e, R, s, mm, args, below, meth, c, Q, D, tc, A, m⟩ := X
  obtain ⟨hx, hb, hml, hown, hts, hin, hK, hA, hnw, hfr, hlo⟩ := hX
  intro L H locs hL hS
  have he := wd_at (tc := tc) (ad := ad) hq
  rcases (show kd = 100 ∨ kd = 101 ∨ kd = 102 ∨ kd = 103 by omega) with rfl | rfl | rfl | rfl
  · exact va_alen hx hb hK hS.1 o 0 he rfl e1 hd (k L H locs hL hS)
  · exact va_alen hx hb hK hS.1 o 1 he rfl e1 hd (k L H locs hL hS)
  · exact va_alen hx hb hK hS.1 o 2 he rfl e1 hd (k L H locs hL hS)
  · exact va_alen hx hb hK hS.1 o 3 he rfl e1 hd (k L H locs hL hS)
theorem am_sld {i : Int} (hX : CX X) (hd : decode (m_cd (xm X)) pc = .ok (.iaload, 1)) (hm : m_own (xm X) = 13) (h0 : 0 ≤ i) (h1 : i < h.1 1001 0) (hr : inR i) (k : TT X ad cells slots (pc + 1) ls (vI (h.1 1000 i.toNat) :: st) h) : TT X ad cells slots pc ls (vI i :: vR 1000 :: st) h := by
  obtain ⟨p, l, e, R, s, mm, args, below, meth, c, Q, D, tc, A, m⟩ := X
  obtain ⟨hx, hb, hml, hown, hts, hin, hK, hA, hnw, hfr, hlo⟩ := hX
  intro L H locs hL hS
  obtain ⟨L9, xs, g1, g2, g3, g4, g5, g6⟩ := hS.2.2.2.2 hm
  have hlt : i < L9 := by rw [g5] at h1; exact h1
  exact va_sld hx hb g1 g2 g3 hS.2.2.1 (i32_vin hr h0 hlt) hd (by rw [i32_clamp hr, ← g6 _ (by omega)]; exact k L H locs hL hS)
theorem am_slen (hX : CX X) (hd : decode (m_cd (xm X)) pc = .ok (.arraylength, 1)) (hm : m_own (xm X) = 13) (k : TT X ad cells slots (pc + 1) ls (vI (h.1 1001 0) :: st) h) : TT X ad cells slots pc ls (vR 1000 :: st) h := by
  obtain ⟨p, l, e, R, s, mm, args, below, meth, c, Q, D, tc, A, m⟩ := X
  obtain ⟨hx, hb, hml, hown, hts, hin, hK, hA, hnw, hfr, hlo⟩ := hX
  intro L H locs hL hS
  obtain ⟨L9, xs, g1, g2, g3, g4, g5, g6⟩ := hS.2.2.2.2 hm
  have kk := k L H locs hL hS
  rw [g5] at kk
  exact va_slen hx hb g1 g2 g3 hS.2.2.1 hd (by rw [show Int32.ofNat L9 = Int32.ofInt (L9 : Int) from Int32.ofInt_eq_ofNat.symm]; exact kk)
theorem wcat_cv {ad : Nat → Nat} (l : List AV) : ((l.map (cv ad)).map fun v => v.category).sum = wcat l := by
  unfold wcat
  rw [List.map_map]
  congr 1
  apply List.map_congr_left
  intro v _
  rcases v with x | x | o <;> rfl
theorem jw {own ix j wi : Nat} (hf : jtab.lookup (own, ix) = some (j, wi)) : Jvm.Cond.methodLink (cname own) ix (jname j) ∈ lw_gt := by
  have hw := List.all_eq_true.mp jtab_ok _ (of_lk hf)
  simp only [Bool.and_eq_true] at hw
  exact okw_in hw.1
theorem am_abs {ix wi : Nat} {x : Int} (hX : CX X) (hd : decode (m_cd (xm X)) pc = .ok (.invokestatic ix, 3)) (hf : jtab.lookup (m_own (xm X), ix) = some (1, wi)) (hr : inR x) (hw : wcat st ≤ 8) (hroom : 1 ≤ m_fr (xm X) ∧ 40 ≤ m_lo (xm X)) (hc : cells ≤ (xR X).cells) (hs : slots ≤ (xR X).slots) (k : TT X ad cells slots (pc + 3) ls (vI (if 0 ≤ x then x else -x) :: st) h) : TT X ad cells slots pc ls (vI x :: st) h := by
  have e1 : (if 0 ≤ Int32.ofInt x then Int32.ofInt x else 0 - Int32.ofInt x) = Int32.ofInt (if 0 ≤ x then x else -x) := by
    have : (0 : Int32) ≤ Int32.ofInt x ↔ 0 ≤ x := i32_le in0 hr
    by_cases z : 0 ≤ x
    · rw [if_pos z, if_pos (this.mpr z)]
    · rw [if_neg z, if_neg (fun y => z (this.mp y)), Int32.ofInt_neg, Int32.zero_sub]
  obtain ⟨p, l, e, R, s, mm, args, below, meth, c, Q, D, tc, A, m⟩ := X
  obtain ⟨hx, hb, hml, hown, hts, hin, hK, hA, hnw, hfr, hlo⟩ := hX
  intro L H locs hL hS
  have hLs : L.size = m_ml m := by obtain ⟨-, lv, g1, -⟩ := hL; exact g1.1
  exact va_mabs hx hb (by rw [hml, hLs]) hown (hts _ (jw hf)) (hts _ w_absS) (hts _ w_math) (hts _ w_abs) (Nat.le_trans hroom.1 hfr) (by rw [wcat_cv]; exact Nat.le_trans (by omega) (Nat.le_trans hroom.2 hlo)) hc hs hd (by rw [e1]; exact k L H locs hL hS)
theorem am_max {ix wi : Nat} {x y : Int} (hX : CX X) (hd : decode (m_cd (xm X)) pc = .ok (.invokestatic ix, 3)) (hf : jtab.lookup (m_own (xm X), ix) = some (2, wi)) (hr : inR x) (hy : inR y) (hw : wcat st ≤ 8) (hroom : 1 ≤ m_fr (xm X) ∧ 40 ≤ m_lo (xm X)) (hc : cells ≤ (xR X).cells) (hs : slots ≤ (xR X).slots) (k : TT X ad cells slots (pc + 3) ls (vI (if x < y then y else x) :: st) h) : TT X ad cells slots pc ls (vI y :: vI x :: st) h := by
  have e1 : (if Int32.ofInt x < Int32.ofInt y then Int32.ofInt y else Int32.ofInt x) = Int32.ofInt (if x < y then y else x) := by
    by_cases z : x < y
    · rw [if_pos z, if_pos ((i32_lt hr hy).mpr z)]
    · rw [if_neg z, if_neg (fun q => z ((i32_lt hr hy).mp q))]
  obtain ⟨p, l, e, R, s, mm, args, below, meth, c, Q, D, tc, A, m⟩ := X
  obtain ⟨hx, hb, hml, hown, hts, hin, hK, hA, hnw, hfr, hlo⟩ := hX
  intro L H locs hL hS
  have hLs : L.size = m_ml m := by obtain ⟨-, lv, g1, -⟩ := hL; exact g1.1
  exact va_mmax hx hb (by rw [hml, hLs]) hown (hts _ (jw hf)) (hts _ w_maxS) (hts _ w_math) (hts _ w_max) (Nat.le_trans hroom.1 hfr) (by rw [wcat_cv]; exact Nat.le_trans (by omega) (Nat.le_trans hroom.2 hlo)) hc hs hd (by rw [e1]; exact k L H locs hL hS)
theorem am_min {ix wi : Nat} {x y : Int} (hX : CX X) (hd : decode (m_cd (xm X)) pc = .ok (.invokestatic ix, 3)) (hf : jtab.lookup (m_own (xm X), ix) = some (3, wi)) (hr : inR x) (hy : inR y) (hw : wcat st ≤ 8) (hroom : 1 ≤ m_fr (xm X) ∧ 40 ≤ m_lo (xm X)) (hc : cells ≤ (xR X).cells) (hs : slots ≤ (xR X).slots) (k : TT X ad cells slots (pc + 3) ls (vI (if y < x then y else x) :: st) h) : TT X ad cells slots pc ls (vI y :: vI x :: st) h := by
  obtain ⟨p, l, e, R, s, mm, args, below, meth, c, Q, D, tc, A, m⟩ := X
  obtain ⟨hx, hb, hml, hown, hts, hin, hK, hA, hnw, hfr, hlo⟩ := hX
  intro L H locs hL hS
  have hLs : L.size = m_ml m := by obtain ⟨-, lv, g1, -⟩ := hL; exact g1.1
  refine va_mmin hx hb (by rw [hml, hLs]) hown (hts _ (jw hf)) (hts _ w_minS) (hts _ w_math) (hts _ w_min) (Nat.le_trans hroom.1 hfr) (by rw [wcat_cv]; exact Nat.le_trans (by omega) (Nat.le_trans hroom.2 hlo)) hc hs hd ?_
  have kk := k L H locs hL hS
  simp only [List.map_cons, cv] at kk
  by_cases z : y < x
  · rw [if_pos z] at kk
    first | rw [if_pos ((i32_lt hy hr).mpr z)] | rw [if_neg (fun q => absurd ((i32_le hr hy).mp q) (by omega))]
    exact kk
  · rw [if_neg z] at kk
    first | rw [if_neg (fun q => z ((i32_lt hy hr).mp q))] | rw [if_pos ((i32_le hr hy).mpr (by omega))]
    exact kk
theorem am_copy {ix wi zc zd ca da : Nat} {rc0 rd : List Nat} {sp dp n : Int} (hX : CX X) (hd : decode (m_cd (xm X)) pc = .ok (.invokestatic ix, 3)) (hf : jtab.lookup (m_own (xm X), ix) = some (4, wi)) (hqc : h.2[ca]? = some (100, zc, rc0)) (hqd : h.2[da]? = some (100, zd, rd)) (r1 : inR sp) (r2 : inR dp) (r3 : inR n) (h1 : 0 ≤ sp) (h2 : 0 ≤ dp) (h3 : 0 ≤ n) (h4 : sp + n ≤ zc) (h5 : dp + n ≤ zd) (hw : wcat st ≤ 8) (hroom : 1 ≤ m_fr (xm X) ∧ 40 ≤ m_lo (xm X))
    (k : TT X ad cells slots (pc + 3) ls st (icp h.1 ca sp.toNat da dp.toNat n.toNat, h.2)) : TT X ad cells slots pc ls (vI n :: vI dp :: vR da :: vI sp :: vR ca :: st) h := by
  obtain ⟨p, l, e, R, s, mm, args, below, meth, c, Q, D, tc, A, m⟩ := X
  obtain ⟨hx, hb, hml, hown, hts, hin, hK, hA, hnw, hfr, hlo⟩ := hX
  intro L H locs hL hS
  obtain ⟨hP, hD, hSS, hlen, hscr⟩ := hS
  have hLs : L.size = m_ml m := by obtain ⟨-, lv, g1, -⟩ := hL; exact g1.1
  have hol : da < h.2.length := (List.getElem?_eq_some_iff.mp hqd).1
  have hI : ∀ o' k9, o' ≠ da → icp h.1 ca sp.toNat da dp.toNat n.toNat o' k9 = h.1 o' k9 := fun o' k9 z => if_neg (fun y => z y.1)
  refine va_copyi hx hb (by rw [hml, hLs]) hown (hts _ (jw hf)) (hts _ w_acN) (hts _ w_acS) (hts _ w_sys) hK hP hD hSS ca da 0 0 (wd_at (tc := tc) (ad := ad) hqc) (wd_at (tc := tc) (ad := ad) hqd) rfl rfl rfl ?_ ?_ ?_ ?_ ?_ (fun _ _ => rfl) (Nat.le_trans hroom.1 hfr) (by rw [wcat_cv, show nativeFrameWords "java/lang/System" "arraycopy" 5 = 7 by decide]; exact Nat.le_trans (by omega) (Nat.le_trans hroom.2 hlo)) hd (fun H1 locs1 g1 g2 g3 => ?_)
  · rw [show (0 : Int32) = Int32.ofInt 0 from rfl, i32_lt r1 in0]; omega
  · rw [show (0 : Int32) = Int32.ofInt 0 from rfl, i32_lt r2 in0]; omega
  · rw [show (0 : Int32) = Int32.ofInt 0 from rfl, i32_lt r3 in0]; omega
  · show (Int32.ofInt sp).toNatClampNeg + (Int32.ofInt n).toNatClampNeg ≤ zc
    rw [i32_clamp r1, i32_clamp r3]; omega
  · show (Int32.ofInt dp).toNatClampNeg + (Int32.ofInt n).toNatClampNeg ≤ zd
    rw [i32_clamp r2, i32_clamp r3]; omega
  · have hset : (wd tc ad h).set da (ad da, .inl (tc 0, zd, .inl (va_cpy (fun k => Int32.ofInt (h.1 ca k)) (fun k => Int32.ofInt (h.1 da k)) (Int32.ofInt sp).toNatClampNeg (Int32.ofInt dp).toNatClampNeg (Int32.ofInt n).toNatClampNeg))) = wd tc ad (icp h.1 ca sp.toNat da dp.toNat n.toNat, h.2) := by
      rw [← wd_upd hqd hI]
      congr 2
      show _ = (Sum.inl (tc 0, zd, Sum.inl (fun k => Int32.ofInt (icp h.1 ca sp.toNat da dp.toNat n.toNat da k))) : va_E)
      congr 4
      funext j
      rw [i32_clamp r1, i32_clamp r2, i32_clamp r3]
      unfold va_cpy icp
      by_cases z : dp.toNat ≤ j ∧ j < dp.toNat + n.toNat
      · rw [if_pos z, if_pos ⟨rfl, z⟩]
      · rw [if_neg z, if_neg (fun y => z y.2)]
    rw [hset] at g1 g2
    exact k L H1 locs1 hL ⟨g1, g2, g3, hlen, fun z => scr_keep (hscr z) rfl (fun o' k9 ho9 => hI o' k9 (by omega))⟩
theorem am_obj {ix wi o : Nat} (hX : CX X) (hd : decode (m_cd (xm X)) pc = .ok (.invokespecial ix, 3)) (hf : jtab.lookup (m_own (xm X), ix) = some (0, wi)) (hw : wcat st ≤ 8) (hroom : 1 ≤ m_fr (xm X) ∧ 40 ≤ m_lo (xm X)) (k : TT X ad cells slots (pc + 3) ls st h) : TT X ad cells slots pc ls (vR o :: st) h := by
  obtain ⟨p, l, e, R, s, mm, args, below, meth, c, Q, D, tc, A, m⟩ := X
  obtain ⟨hx, hb, hml, hown, hts, hin, hK, hA, hnw, hfr, hlo⟩ := hX
  intro L H locs hL hS
  have hLs : L.size = m_ml m := by obtain ⟨-, lv, g1, -⟩ := hL; exact g1.1
  refine W.objInit hx hb hown (hts _ (jw hf)) (hts _ w_objI) (hts _ w_obj) rfl (by rw [hml]; exact hLs) rfl hd (Nat.le_trans hroom.1 hfr) ?_ ?_
  · have := wcat_cv (ad := ad) st
    show 2 * 0 + ((st.map (cv ad)).map fun v => v.category).sum + 12 ≤ R.locals
    rw [this]
    have := hroom.2
    exact Nat.le_trans (by omega) (Nat.le_trans hroom.2 hlo)
  · exact k L H locs hL hS
end OPS
end
section
/-! ===== BEGIN new T[n][m]: the outer array a place, the inner ones among the pooled ===== -/
/-- f, but v at every address of l -/
def vr_up {α : Type} (f : Nat → α) (l : List Nat) (v : α) : Nat → α := fun a => if a ∈ l then v else f a
theorem vr_up_in {α : Type} {f : Nat → α} {l : List Nat} {v : α} {a : Nat} (h : a ∈ l) : vr_up f l v a = v := if_pos h
theorem vr_up_ne {α : Type} {f : Nat → α} {l : List Nat} {v : α} {a : Nat} (h : a ∉ l) : vr_up f l v a = f a := if_neg h
theorem vr_rows {L l : List Nat} {f : Nat → va_E} {e : va_E} (h : ∀ a, a ∈ l → a ∉ L) : va_pl L f ++ l.map (fun a => (a, e)) = va_pl (L ++ l) (vr_up f l e) := by
  unfold va_pl
  rw [List.map_append]
  congr 1
  · apply List.map_congr_left
    intro a ha
    rw [vr_up_ne (fun q => h a q ha)]
  · apply List.map_congr_left
    intro a ha
    rw [vr_up_in ha]
theorem vr_lay {X rows : va_W} {x : Nat × va_E} {pl : va_W} {D : va_G} {cl : List vw_C} {H : Heap} (hP : va_P D cl (((X ++ pl) ++ [x]) ++ rows) H) : va_P D cl ((X ++ [x]) ++ (pl ++ rows)) H := by
  rw [List.append_assoc (X ++ pl)] at hP
  have h := va_P.swap hP
  rw [← List.append_assoc X] at h
  have h2 := va_P.swap h
  rw [List.append_assoc (X ++ [x])] at h2
  exact h2
theorem vr_layD {X rows : va_W} {x : Nat × va_E} {pl : va_W} {A : Nat → Prop} (hD : va_D A (((X ++ pl) ++ [x]) ++ rows)) : va_D A ((X ++ [x]) ++ (pl ++ rows)) := by
  rw [List.append_assoc (X ++ pl)] at hD
  have h := va_D.swap hD
  rw [← List.append_assoc X] at h
  have h2 := va_D.swap h
  rw [List.append_assoc (X ++ [x])] at h2
  exact h2
theorem vr_outer (c : ClassId) (N h0 : Nat) : ∀ i : Nat, Jvm.Free.Multi.outerC c N h0 i = arrV c N (fun j => va_rf (if j < i then some (h0 + 1 + j) else none))
  | 0 => by
    show ({ cls := c, slots := Array.replicate N .null, vm := .none } : Cell) = _
    rw [arrV_new]
    refine congrArg (arrV c N) (funext fun j => ?_)
    simp [va_rf]
  | i + 1 => by
    show (Jvm.Free.Multi.outerC c N h0 i).setSlot i (.ref (h0 + 1 + i)) = _
    rw [vr_outer c N h0 i, arrV_store]
    refine congrArg (arrV c N) (funext fun j => ?_)
    by_cases e : j = i
    · subst e
      simp [updV, va_rf]
    · by_cases h : j < i
      · simp [updV, e, h, Nat.lt_succ_of_lt h]
      · simp [updV, e, h, show ¬ j < i + 1 by omega]
section VGM
variable {p : Program} {l : Launch} {e : Env} {R : Room} {s : State} {m : MethodId} {args : Array Value} {below : List Frame} {meth : Method} {c : Code} {H : Heap} {locs : List Loc} {cells slots : Nat} {Q : State → Prop}
variable {cc : ByteArray} {pc : Nat} {ls : Array Slot} {rest : List Value} {D : va_G} {cl : List vw_C} {A : Nat → Prop} {a : Nat} {tys : List (ClassId × FieldType)} {ws : va_W} {H0 : Heap}
theorem va_mna {X : va_W} {L : List Nat} {f : Nat → va_E} {cc : ByteArray} (hexec : p.tables.exec = Jvm.exec) (hb : c.code = cc) {own : String} {index : Nat} {ty : FieldType} {cy : ClassId} (hown : s.vm.findClass own = some m.cls) (hclink : (Cond.classLink own index ("[" ++ (FieldType.array ty).toString)).before args s = true) (hover : va_AOA ty s) (harr : (Cond.arrayClass ty).before args s = true) (hcy : s.vm.findClass (FieldType.array ty).toString = some cy)
    (hK : va_K D cl tys s) (hP : va_P D cl (X ++ va_pl L f) H) (hD : va_D A (X ++ va_pl L f)) (hS : va_S A H0 H locs) (hA : ∀ q, H0.size ≤ q → A q) {n k : Int32} {N' K' : Nat} {z : vp_A} (hn : ¬ n < 0) (hk : ¬ k < 0) (hN : n.toNatClampNeg = N') (hM : k.toNatClampNeg = K')
    (hb1 : N' * 4 ≤ 536870912) (hb2 : K' * componentBytes ty ≤ 536870912) (hb3 : K' ≤ 536870912) (hdf : fits ty (defaultValue ty) = true) (hdd : (defaultValue ty).isDefault = true) (hcells : cells + (1 + N') ≤ R.cells) (hslots : slots + (N' + N' * K') ≤ R.slots) (hz : ∀ c : ClassId, Jvm.Free.Multi.innerC c K' (defaultValue ty) = vp_cell c z) (hdg : decode cc pc = .ok (.multianewarray index 2, 4))
    (kk : ∀ (q : Nat) (r : Nat → Nat) (cA : ClassId) (H1 : Heap), (∀ i j : Nat, i < N' → j < N' → r i = r j → i = j) → (∀ i : Nat, i < N' → r i ∉ L) → va_K D cl (tys ++ [(cA, .array ty)]) s →
      va_P D cl ((X ++ [(q, .inl (cA, N', .inr (.inr (.inr (.inr (fun i => if i < N' then some (r i) else none))))))]) ++ va_pl (L ++ (List.range N').map r) (vr_up f ((List.range N').map r) (.inl (cy, z)))) H1 → va_D A ((X ++ [(q, .inl (cA, N', .inr (.inr (.inr (.inr (fun i => if i < N' then some (r i) else none))))))]) ++ va_pl (L ++ (List.range N').map r) (vr_up f ((List.range N').map r) (.inl (cy, z)))) → va_S A H0 H1 locs →
      W p l e R s m args below meth c H1 locs (cells + 1 + N') (slots + N' + N' * K') Q (F0 m (pc + 4) ls (.ref q :: rest))) : W p l e R s m args below meth c H locs cells slots Q (F0 m pc ls (.int k :: .int n :: rest)) := by
  subst hN
  subst hM
  intro T hT Xs
  obtain ⟨vm₁, cA, comp, -, fA, fC, hO, -, X', step⟩ := Xs.multianewarray2F hexec hown hclink (va_AOA.use hover) harr (g := F0 m pc ls (.int k :: .int n :: rest)) rfl (by rw [hb]; exact hdg) rfl hn hk hb1 hb2 hb3 hdf hdd hcells hslots
  have ec : some cy = some comp := hcy.symm.trans fC
  cases ec
  generalize hF : Jvm.Free.Multi.fill (T.setVm vm₁) cA cy n.toNatClampNeg k.toNatClampNeg (defaultValue ty) n.toNatClampNeg = F at X' step
  have hTh : (T.setVm vm₁).heap = H := hT
  obtain ⟨f1, f2, -, -⟩ := Jvm.Free.Multi.fill_facts (T.setVm vm₁) cA cy n.toNatClampNeg k.toNatClampNeg (defaultValue ty) n.toNatClampNeg
  rw [hF, hTh] at f1 f2
  have hold : ∀ x : Nat, x < H.size → F.heap[x]? = H[x]? := fun x hx => by
    have := Jvm.Free.Multi.fill_old (T.setVm vm₁) cA cy n.toNatClampNeg k.toNatClampNeg (defaultValue ty) (a := x) (by rw [hTh]; exact hx) n.toNatClampNeg
    rw [hF, hTh] at this
    exact this
  have hrow : ∀ j : Nat, j < n.toNatClampNeg → F.heap[H.size + 1 + j]? = some (vp_cell cy z) := fun j hj => by
    have := Jvm.Free.Multi.fill_inner (T.setVm vm₁) cA cy n.toNatClampNeg k.toNatClampNeg (defaultValue ty) n.toNatClampNeg j hj
    rw [hF, hTh, hz] at this
    exact this
  have hout : Jvm.Free.Multi.outerC cA n.toNatClampNeg H.size n.toNatClampNeg = vp_cell cA (n.toNatClampNeg, .inr (.inr (.inr (.inr (fun i => if i < n.toNatClampNeg then some (H.size + 1 + i) else none))))) := by
    rw [vp_cell_q]
    exact vr_outer cA n.toNatClampNeg H.size n.toNatClampNeg
  rw [hout] at f2
  have hlt : ∀ a, a ∈ L → a < H.size := fun a ha => by
    obtain ⟨k9, hk9⟩ := va_pl_get (X := X) (f := f) ha
    exact (hP k9 _ hk9).lt
  have hnl : ∀ i : Nat, i < n.toNatClampNeg → H.size + 1 + i ∉ L := fun i _ h => by
    have := hlt _ h
    omega
  have hnm : ∀ a, a ∈ (List.range n.toNatClampNeg).map (fun i => H.size + 1 + i) → a ∉ L := fun a ha h => by
    obtain ⟨i, -, rfl⟩ := List.mem_map.mp ha
    have := hlt _ h
    omega
  have hP0 : va_P D cl (X ++ va_pl L f) F.heap := hP.kept (fun k9 x hx => hold x.1 ((hP k9 x hx).lt))
  have hP1 : va_P D cl ((X ++ va_pl L f) ++ [(H.size, .inl (cA, n.toNatClampNeg, .inr (.inr (.inr (.inr (fun i => if i < n.toNatClampNeg then some (H.size + 1 + i) else none))))))]) F.heap := hP0.app (fun k9 x hx => by
    have h0 : k9 < 1 := (List.getElem?_eq_some_iff.mp hx).1
    rw [show k9 = 0 by omega] at hx
    cases hx
    exact f2)
  have hP2 : va_P D cl (((X ++ va_pl L f) ++ [(H.size, .inl (cA, n.toNatClampNeg, .inr (.inr (.inr (.inr (fun i => if i < n.toNatClampNeg then some (H.size + 1 + i) else none))))))]) ++ ((List.range n.toNatClampNeg).map (fun i => H.size + 1 + i)).map (fun a => (a, .inl (cy, z)))) F.heap := hP1.app (fun k9 x hx => by
    obtain ⟨a, ha, rfl⟩ := List.mem_map.mp (List.mem_of_getElem? hx)
    obtain ⟨i, hi, rfl⟩ := List.mem_map.mp ha
    exact hrow i (List.mem_range.mp hi))
  have hD2 : va_D A (((X ++ va_pl L f) ++ [(H.size, .inl (cA, n.toNatClampNeg, .inr (.inr (.inr (.inr (fun i => if i < n.toNatClampNeg then some (H.size + 1 + i) else none))))))]) ++ ((List.range n.toNatClampNeg).map (fun i => H.size + 1 + i)).map (fun a => (a, .inl (cy, z)))) := by
    have hD1 := hD.push (e := .inl (cA, n.toNatClampNeg, .inr (.inr (.inr (.inr (fun i => if i < n.toNatClampNeg then some (H.size + 1 + i) else none)))))) hP rfl (hA _ hS.1)
    generalize hW1 : (X ++ va_pl L f) ++ [(H.size, .inl (cA, n.toNatClampNeg, .inr (.inr (.inr (.inr (fun i => if i < n.toNatClampNeg then some (H.size + 1 + i) else none))))))] = W1 at hD1 hP1 ⊢
    have hle : ∀ (k9 : Nat) (x : Nat × va_E), W1[k9]? = some x → x.1 ≤ H.size := fun k9 x hx => by
      rw [← hW1] at hx
      by_cases hl : k9 < (X ++ va_pl L f).length
      · rw [List.getElem?_append_left hl] at hx
        exact Nat.le_of_lt ((hP k9 x hx).lt)
      · rw [List.getElem?_append_right (by omega)] at hx
        have h0 : k9 - (X ++ va_pl L f).length < 1 := (List.getElem?_eq_some_iff.mp hx).1
        rw [show k9 - (X ++ va_pl L f).length = 0 by omega] at hx
        cases hx
        exact Nat.le_refl _
    have hr : ∀ (k9 : Nat) (x : Nat × va_E), (((List.range n.toNatClampNeg).map (fun i => H.size + 1 + i)).map (fun a => ((a, .inl (cy, z)) : Nat × va_E)))[k9]? = some x → x.1 = H.size + 1 + k9 := fun k9 x hx => by
      rw [List.getElem?_map, List.getElem?_map] at hx
      by_cases h9 : k9 < n.toNatClampNeg
      · rw [List.getElem?_range h9] at hx
        cases hx
        rfl
      · have hn0 : (List.range n.toNatClampNeg)[k9]? = none := List.getElem?_eq_none (by rw [List.length_range]; omega)
        rw [hn0] at hx
        cases hx
    refine ⟨fun i j x y hi hj hxy => ?_, fun k9 x hx => ?_⟩
    · by_cases h1 : i < W1.length <;> by_cases h2 : j < W1.length
      · rw [List.getElem?_append_left h1] at hi
        rw [List.getElem?_append_left h2] at hj
        exact hD1.1 i j x y hi hj hxy
      · rw [List.getElem?_append_left h1] at hi
        rw [List.getElem?_append_right (by omega)] at hj
        have := hle _ _ hi
        have := hr _ _ hj
        omega
      · rw [List.getElem?_append_right (by omega)] at hi
        rw [List.getElem?_append_left h2] at hj
        have := hle _ _ hj
        have := hr _ _ hi
        omega
      · rw [List.getElem?_append_right (by omega)] at hi hj
        have := hr _ _ hi
        have := hr _ _ hj
        omega
    · by_cases h1 : k9 < W1.length
      · rw [List.getElem?_append_left h1] at hx
        exact hD1.2 k9 x hx
      · rw [List.getElem?_append_right (by omega)] at hx
        have := hr _ _ hx
        exact hA _ (by have := hS.1; omega)
  have hAr : ArrOfT s cA (.array ty) := fun N9 z9 => by
    obtain ⟨-, k9, hk9, cm9, hkk9⟩ := (hO 0 0 0).1
    exact ⟨(fun q hq => by cases hq), k9, hk9, cm9, hkk9⟩
  have hK2 : va_K D cl (tys ++ [(cA, .array ty)]) s := ⟨hK.1, fun k9 x hx => by
    by_cases hl : k9 < tys.length
    · rw [List.getElem?_append_left hl] at hx
      exact hK.2 k9 x hx
    · rw [List.getElem?_append_right (by omega)] at hx
      have h0 : k9 - tys.length < 1 := (List.getElem?_eq_some_iff.mp hx).1
      rw [show k9 - tys.length = 0 by omega] at hx
      cases hx
      exact ⟨hAr, fA⟩⟩
  obtain ⟨t, a1, b1⟩ := kk H.size (fun i => H.size + 1 + i) cA F.heap (fun i j _ _ h => by have h9 : H.size + 1 + i = H.size + 1 + j := h; omega) hnl hK2 (by rw [← vr_rows hnm]; exact vr_lay hP2) (by rw [← vr_rows hnm]; exact vr_layD hD2) ⟨by rw [f1]; have := hS.1; omega, fun x h1 h2 => (hold x (Nat.lt_of_lt_of_le h1 hS.1)).trans (hS.2.1 x h1 h2), hS.2.2⟩ F rfl X'
  refine ⟨t, step t ?_, b1⟩
  have e : T.heap.size = H.size := by rw [hT]
  rw [e]
  exact a1
end VGM
/-! ===== END ===== -/
end
section
/-! new cells over TT -/
theorem fk_ok : (List.range 13).all (fun ci => (List.range (nF ci)).all (fun k => decide (fk ci k ≠ 3))) = true := by decide +kernel
theorem fk_of {ci k : Nat} (h : ci < 13) (hk : k < nF ci) : fk ci k ≠ 3 := by
  have h1 := List.all_eq_true.mp fk_ok ci (List.mem_range.mpr h)
  have h2 := List.all_eq_true.mp h1 k (List.mem_range.mpr hk)
  simpa using h2
theorem getD_rep {n k : Nat} : (List.replicate n 3000).getD k 3000 = 3000 := by
  rw [List.getD_eq_getElem?_getD]
  by_cases h : k < n
  · rw [List.getElem?_replicate, if_pos h]; rfl
  · rw [List.getElem?_eq_none (by simpa using Nat.le_of_not_lt h)]; rfl
def ad1 (ad : Nat → Nat) (n q : Nat) : Nat → Nat := fun o => if o = n then q else ad o
theorem ad1_lt {ad : Nat → Nat} {n q o : Nat} (h : o ≠ n) : ad1 ad n q o = ad o := if_neg h
theorem clr_old {I : Nat → Nat → Int} {n o : Nat} (h : o < n ∨ 1000 ≤ o) (k : Nat) : iclr I n o k = I o k := if_neg (by omega)
theorem clr_new {I : Nat → Nat → Int} {n o : Nat} (h : n ≤ o) (h2 : o < 1000) (k : Nat) : iclr I n o k = 0 := if_pos ⟨h, h2⟩
theorem cls_at {ci : Nat} (h : ci < 13) : ∃ C T N, vwCl[ci]? = some (C, T, N) := by
  have h1 : ci < vwCl.length := h
  exact ⟨_, _, _, List.getElem?_eq_getElem h1⟩
section OPS
variable {X : CT} {ad : Nat → Nat} {cells slots pc : Nat} {ls st : List AV} {h : AH}
theorem am_new {ix ci wi : Nat} (hX : CX X) (hd : decode (m_cd (xm X)) pc = .ok (.new ix, 3)) (hf : ctab.lookup (m_own (xm X), ix) = some (ci, wi)) (hci : ci < 13) (hlen : h.2.length < 1000) (hS0 : okS h.2 = true) (hl0 : okRefs h.2.length ls = true) (hs0 : okRefs h.2.length st = true) (hc : cells + 1 ≤ (xR X).cells) (hs : slots + nF ci ≤ (xR X).slots)
    (k : ∀ ad' : Nat → Nat, (∀ o, o < h.2.length ∨ h.2.length + 1 ≤ o → ad' o = ad o) → TT X ad' (cells + 1) (slots + nF ci) (pc + 3) ls (vR h.2.length :: st) (iclr h.1 h.2.length, h.2 ++ [(ci, nF ci, List.replicate (nF ci) 3000)])) : TT X ad cells slots pc ls st h := by
  have hw := List.all_eq_true.mp ctab_ok _ (of_lk hf)
  rw [if_neg (show ¬ ci = 102 by omega)] at hw
  simp only [Bool.and_eq_true] at hw
  have hw2 := List.all_eq_true.mp w_cls ci (List.mem_range.mpr hci)
  simp only [Bool.and_eq_true] at hw2
  obtain ⟨C, T, N, hcl⟩ := cls_at hci
  obtain ⟨c1, c2, c3, c4, c5, c6, c7, c8⟩ := clsF hcl
  subst c4; subst c5
  obtain ⟨p, l, e, R, s, mm, args, below, meth, c, Q, D, tc, A, m⟩ := X
  obtain ⟨hx, hb, hml, hown, hts, hin, hK, hA, hnw, hfr, hlo⟩ := hX
  intro L H locs hL hS
  obtain ⟨hP, hD, hSS, hlen2, hscr⟩ := hS
  refine va_new (fs := (List.range (nF ci)).map (fval ad (iclr h.1 h.2.length) h.2.length ci (List.replicate (nF ci) 3000))) hx hb hts c1 (tyT ci) c2 hown (hts _ (okw_in hw.2)) (hts _ (okw_in hw2.1)) (hts _ (okw_in hw2.2)) hK hP hD hSS hA hcl ?_ hc hs hd (fun q H1 g1 g2 g3 => ?_)
  · intro j hj
    have hk3 := fk_of hci hj
    unfold vp_V
    rw [List.getD_eq_getElem?_getD, List.getElem?_map, List.getElem?_range hj]
    show _ = fval ad (iclr h.1 h.2.length) h.2.length ci (List.replicate (nF ci) 3000) j
    unfold fval
    rw [getD_rep, clr_new (Nat.le_refl _) hlen]
    unfold fk at hk3 ⊢
    generalize tyT ci j = ty at hk3 ⊢
    cases ty <;> first | rfl | exact absurd rfl hk3
  · have ha : ∀ o, o < h.2.length ∨ h.2.length + 1 ≤ o → ad1 ad h.2.length q o = ad o := fun o ho => ad1_lt (by omega)
    have hent : ent tc (ad1 ad h.2.length q) (iclr h.1 h.2.length) h.2.length (ci, nF ci, List.replicate (nF ci) 3000) = .inr (ci, (List.range (nF ci)).map (fval ad (iclr h.1 h.2.length) h.2.length ci (List.replicate (nF ci) 3000))) := by
      rw [ent_obj (ci := ci) (by omega)]
      congr 3
      funext j
      unfold fval
      rw [getD_rep]
      rfl
    have hwd := wd_app (tc := tc) (ad := ad) (ad' := ad1 ad h.2.length q) (I' := iclr h.1 h.2.length) (T := [(ci, nF ci, List.replicate (nF ci) 3000)]) hS0 hlen (fun o k9 ho => clr_old (Or.inl ho) k9) (fun o ho => ha o (Or.inl ho))
    have hwd2 : wd tc (ad1 ad h.2.length q) (iclr h.1 h.2.length, h.2 ++ [(ci, nF ci, List.replicate (nF ci) 3000)]) = wd tc ad h ++ [(q, .inr (ci, (List.range (nF ci)).map (fval ad (iclr h.1 h.2.length) h.2.length ci (List.replicate (nF ci) 3000))))] := by
      rw [hwd]
      show wd tc ad h ++ [(ad1 ad h.2.length q h.2.length, ent tc (ad1 ad h.2.length q) (iclr h.1 h.2.length) h.2.length (ci, nF ci, List.replicate (nF ci) 3000))] = _
      rw [hent, show ad1 ad h.2.length q h.2.length = q from if_pos rfl]
    rw [← hwd2] at g1 g2
    have kk := k _ ha L H1 locs (LR_ad hL (fun o ho => ha o (by have := okRefs_mem hl0 ho; omega))) ⟨g1, g2, g3, by show (h.2 ++ _).length ≤ 1000; simp; omega, fun z => scr_keep (hscr z) (ha _ (by omega)) (fun o k9 ho => clr_old (Or.inr ho) k9)⟩
    rw [List.map_cons, cv_ad (fun o ho => ha o (by have := okRefs_mem hs0 ho; omega))] at kk
    rw [show cv (ad1 ad h.2.length q) (vR h.2.length) = .ref q from congrArg Value.ref (if_pos rfl)] at kk
    exact kk
theorem arr_one {I : Nat → Nat → Int} {o : Nat} {tc : Nat → ClassId} {ad ad' : Nat → Nat} {q kd sz : Nat} {rf : List Nat} {E : va_E} (hS0 : okS h.2 = true) (hlen : h.2.length < 1000) (ha : ∀ o, o < h.2.length ∨ h.2.length + 1 ≤ o → ad' o = ad o) (hq : ad' h.2.length = q) (hE : ent tc ad' (iclr h.1 h.2.length) h.2.length (kd, sz, rf) = E) :
    wd tc ad' (iclr h.1 h.2.length, h.2 ++ [(kd, sz, rf)]) = wd tc ad h ++ [(q, E)] := by
  rw [wd_app (tc := tc) (ad := ad) (ad' := ad') (I' := iclr h.1 h.2.length) (T := [(kd, sz, rf)]) hS0 hlen (fun o k9 ho => clr_old (Or.inl ho) k9) (fun o ho => ha o (Or.inl ho))]
  show wd tc ad h ++ [(ad' h.2.length, ent tc ad' (iclr h.1 h.2.length) h.2.length (kd, sz, rf))] = _
  rw [hE, hq]
theorem arr_end {p : Program} {l : Launch} {e : Env} {R : Room} {s : State} {mm : MethodId} {args : Array Value} {below : List Frame} {meth : Method} {c : Code} {Q : State → Prop} {D : va_G} {tc : Nat → ClassId} {A : Nat → Prop} {m : Nat} {q kd sz : Nat} {rf : List Nat} {E : va_E} {L : Array Slot} {H1 : Heap} {locs : List Loc} {pc' : Nat} {r : List AV}
    (hS0 : okS h.2 = true) (hlen : h.2.length < 1000) (hl0 : okRefs h.2.length ls = true) (hs0 : okRefs h.2.length r = true) (hE : ∀ ad' : Nat → Nat, ent tc ad' (iclr h.1 h.2.length) h.2.length (kd, sz, rf) = E) (hL : LR ad (m_ml m) ls L) (hscr : m_own m = 13 → scrP s A ad h.1)
    (g1 : va_P D vwCl (wd tc ad h ++ [(q, E)]) H1) (g2 : va_D A (wd tc ad h ++ [(q, E)])) (g3 : va_S A s.heap H1 locs) {cells' slots' : Nat}
    (k : ∀ ad' : Nat → Nat, (∀ o, o < h.2.length ∨ h.2.length + 1 ≤ o → ad' o = ad o) → TT (p, l, e, R, s, mm, args, below, meth, c, Q, D, tc, A, m) ad' cells' slots' pc' ls (vR h.2.length :: r) (iclr h.1 h.2.length, h.2 ++ [(kd, sz, rf)])) :
    W p l e R s mm args below meth c H1 locs cells' slots' Q (F0 mm pc' L (.ref q :: r.map (cv ad))) := by
  have ha : ∀ o, o < h.2.length ∨ h.2.length + 1 ≤ o → ad1 ad h.2.length q o = ad o := fun o ho => ad1_lt (by omega)
  have hwd := arr_one (tc := tc) (I := h.1) (o := 0) (ad := ad) (ad' := ad1 ad h.2.length q) (q := q) hS0 hlen ha (if_pos rfl) (hE _)
  rw [← hwd] at g1 g2
  have kk := k _ ha L H1 locs (LR_ad hL (fun o ho => ha o (by have := okRefs_mem hl0 ho; omega))) ⟨g1, g2, g3, by show (h.2 ++ _).length ≤ 1000; simp; omega, fun z => scr_keep (hscr z) (ha _ (by omega)) (fun o k9 ho => clr_old (Or.inr ho) k9)⟩
  rw [List.map_cons, cv_ad (fun o ho => ha o (by have := okRefs_mem hs0 ho; omega))] at kk
  rw [show cv (ad1 ad h.2.length q) (vR h.2.length) = .ref q from congrArg Value.ref (if_pos rfl)] at kk
  exact kk
theorem clr_fun {I : Nat → Nat → Int} {n : Nat} (h : n < 1000) : (fun k => Int32.ofInt (iclr I n n k)) = fun _ => (0 : Int32) := funext fun k => by rw [clr_new (Nat.le_refl _) h]; rfl
theorem am_newI {n : Int} (hX : CX X) (hd : decode (m_cd (xm X)) pc = .ok (.newarray .int, 2)) (hn0 : 0 ≤ n) (hn1 : n ≤ 100000) (hlen : h.2.length < 1000) (hS0 : okS h.2 = true) (hl0 : okRefs h.2.length ls = true) (hs0 : okRefs h.2.length st = true) (hc : cells + 1 ≤ (xR X).cells) (hs : slots + n.toNat ≤ (xR X).slots)
    (k : ∀ ad' : Nat → Nat, (∀ o, o < h.2.length ∨ h.2.length + 1 ≤ o → ad' o = ad o) → TT X ad' (cells + 1) (slots + n.toNat) (pc + 2) ls (vR h.2.length :: st) (iclr h.1 h.2.length, h.2 ++ [(100, n.toNat, [])])) : TT X ad cells slots pc ls (vI n :: st) h := by
  have hr : inR n := ⟨by omega, by omega⟩
  obtain ⟨p, l, e, R, s, mm, args, below, meth, c, Q, D, tc, A, m⟩ := X
  obtain ⟨hx, hb, hml, hown, hts, hin, hK, hA, hnw, hfr, hlo⟩ := hX
  intro L H locs hL hS
  obtain ⟨hP, hD, hSS, hlen2, hscr⟩ := hS
  refine va_newa (atype := .int) (a0 := (n.toNat, .inl (fun _ => (0 : Int32)))) hx hb (hts _ w_arrI) rfl hK hP hD hSS hA (fun cA => vp_cell_i _ _ _) (by rw [show (0 : Int32) = Int32.ofInt 0 from rfl, i32_lt hr in0]; omega) (i32_clamp hr) (by show n.toNat * 4 ≤ 536870912; omega) hc hs hd (fun q cA H1 g0 g1 g2 g3 => ?_)
  have e1 : cA = tc 0 := by
    have h1 := (hK.2 0 (tc 0, .int) rfl).2
    have h2 := (g0.2 4 (cA, .int) rfl).2
    exact Option.some.inj (h2.symm.trans h1)
  subst e1
  exact arr_end hS0 hlen hl0 hs0 (fun ad' => by show (Sum.inl (tc 0, n.toNat, Sum.inl (fun k => Int32.ofInt (iclr h.1 h.2.length h.2.length k))) : va_E) = _; rw [clr_fun hlen]) hL hscr g1 g2 g3 k
theorem am_newB {n : Int} (hX : CX X) (hd : decode (m_cd (xm X)) pc = .ok (.newarray .byte, 2)) (hn0 : 0 ≤ n) (hn1 : n ≤ 100000) (hlen : h.2.length < 1000) (hS0 : okS h.2 = true) (hl0 : okRefs h.2.length ls = true) (hs0 : okRefs h.2.length st = true) (hc : cells + 1 ≤ (xR X).cells) (hs : slots + n.toNat ≤ (xR X).slots)
    (k : ∀ ad' : Nat → Nat, (∀ o, o < h.2.length ∨ h.2.length + 1 ≤ o → ad' o = ad o) → TT X ad' (cells + 1) (slots + n.toNat) (pc + 2) ls (vR h.2.length :: st) (iclr h.1 h.2.length, h.2 ++ [(101, n.toNat, [])])) : TT X ad cells slots pc ls (vI n :: st) h := by
  have hr : inR n := ⟨by omega, by omega⟩
  obtain ⟨p, l, e, R, s, mm, args, below, meth, c, Q, D, tc, A, m⟩ := X
  obtain ⟨hx, hb, hml, hown, hts, hin, hK, hA, hnw, hfr, hlo⟩ := hX
  intro L H locs hL hS
  obtain ⟨hP, hD, hSS, hlen2, hscr⟩ := hS
  refine va_newa (atype := .byte) (a0 := (n.toNat, .inl (fun _ => (0 : Int32)))) hx hb (hts _ w_arrB) rfl hK hP hD hSS hA (fun cA => vp_cell_i _ _ _) (by rw [show (0 : Int32) = Int32.ofInt 0 from rfl, i32_lt hr in0]; omega) (i32_clamp hr) (by show n.toNat * 1 ≤ 536870912; omega) hc hs hd (fun q cA H1 g0 g1 g2 g3 => ?_)
  have e1 : cA = tc 1 := by
    have h1 := (hK.2 1 (tc 1, .byte) rfl).2
    have h2 := (g0.2 4 (cA, .byte) rfl).2
    exact Option.some.inj (h2.symm.trans h1)
  subst e1
  exact arr_end hS0 hlen hl0 hs0 (fun ad' => by show (Sum.inl (tc 1, n.toNat, Sum.inl (fun k => Int32.ofInt (iclr h.1 h.2.length h.2.length k))) : va_E) = _; rw [clr_fun hlen]) hL hscr g1 g2 g3 k
theorem am_newR {n : Int} {ix wi : Nat} (hX : CX X) (hd : decode (m_cd (xm X)) pc = .ok (.anewarray ix, 3)) (hf : ctab.lookup (m_own (xm X), ix) = some (8, wi)) (hn0 : 0 ≤ n) (hn1 : n ≤ 100000) (hlen : h.2.length < 1000) (hS0 : okS h.2 = true) (hl0 : okRefs h.2.length ls = true) (hs0 : okRefs h.2.length st = true) (hc : cells + 1 ≤ (xR X).cells) (hs : slots + n.toNat ≤ (xR X).slots)
    (k : ∀ ad' : Nat → Nat, (∀ o, o < h.2.length ∨ h.2.length + 1 ≤ o → ad' o = ad o) → TT X ad' (cells + 1) (slots + n.toNat) (pc + 3) ls (vR h.2.length :: st) (iclr h.1 h.2.length, h.2 ++ [(103, n.toNat, List.replicate n.toNat 3000)])) : TT X ad cells slots pc ls (vI n :: st) h := by
  have hr : inR n := ⟨by omega, by omega⟩
  have hw := List.all_eq_true.mp ctab_ok _ (of_lk hf)
  rw [if_neg (show ¬ (8 : Nat) = 102 by decide)] at hw
  simp only [Bool.and_eq_true] at hw
  obtain ⟨p, l, e, R, s, mm, args, below, meth, c, Q, D, tc, A, m⟩ := X
  obtain ⟨hx, hb, hml, hown, hts, hin, hK, hA, hnw, hfr, hlo⟩ := hX
  intro L H locs hL hS
  obtain ⟨hP, hD, hSS, hlen2, hscr⟩ := hS
  refine va_newq (C := "RoundSlack$Rounds") hx hb hown (hts _ (okw_in hw.2)) hnw.2.1 hK hP hD hSS hA (by rw [show (0 : Int32) = Int32.ofInt 0 from rfl, i32_lt hr in0]; omega) (i32_clamp hr) (by omega) hc hs hd (fun q cA H1 g0 g1 g2 g3 => ?_)
  have e1 : cA = tc 3 := by
    obtain ⟨_, _, _, _, _, h1⟩ := (hK.2 3 (tc 3, .object "RoundSlack$Rounds") rfl).2
    obtain ⟨_, _, _, _, _, h2⟩ := (g0.2 4 (cA, .object "RoundSlack$Rounds") rfl).2
    exact Option.some.inj (h2.symm.trans h1)
  subst e1
  exact arr_end hS0 hlen hl0 hs0 (fun ad' => by
    show (Sum.inl (tc 3, n.toNat, Sum.inr (Sum.inr (Sum.inr (Sum.inr (fun k => rfo ad' ((List.replicate n.toNat 3000).getD k 3000)))))) : va_E) = _
    simp only [getD_rep]
    rfl) hL hscr g1 g2 g3 k
def adN (ad : Nat → Nat) (n q N : Nat) (r : Nat → Nat) : Nat → Nat := fun o => if o = n then q else if n < o ∧ o < n + 1 + N then r (o - n - 1) else ad o
theorem am_mna {n k9 : Int} {ix wi : Nat} (hX : CX X) (hd : decode (m_cd (xm X)) pc = .ok (.multianewarray ix 2, 4)) (hf : ctab.lookup (m_own (xm X), ix) = some (102, wi)) (hn0 : 0 ≤ n) (hn1 : n ≤ 900) (hk0 : 0 ≤ k9) (hk1 : k9 ≤ 1000) (hlen : h.2.length + 1 + n.toNat ≤ 1000) (hS0 : okS h.2 = true) (hl0 : okRefs h.2.length ls = true) (hs0 : okRefs h.2.length st = true) (hc : cells + (1 + n.toNat) ≤ (xR X).cells) (hs : slots + (n.toNat + n.toNat * k9.toNat) ≤ (xR X).slots)
    (k : ∀ ad' : Nat → Nat, (∀ o, o < h.2.length ∨ h.2.length + 1 + n.toNat ≤ o → ad' o = ad o) → TT X ad' (cells + 1 + n.toNat) (slots + n.toNat + n.toNat * k9.toNat) (pc + 4) ls (vR h.2.length :: st) (iclr h.1 h.2.length, (h.2 ++ [(102, n.toNat, (List.range n.toNat).map (fun i => h.2.length + 1 + i))]) ++ List.replicate n.toNat (100, k9.toNat, []))) : TT X ad cells slots pc ls (vI k9 :: vI n :: st) h := by
  have hr : inR n := ⟨by omega, by omega⟩
  have hr9 : inR k9 := ⟨by omega, by omega⟩
  have hw := List.all_eq_true.mp ctab_ok _ (of_lk hf)
  rw [if_pos rfl] at hw
  obtain ⟨p, l, e, R, s, mm, args, below, meth, c, Q, D, tc, A, m⟩ := X
  obtain ⟨hx, hb, hml, hown, hts, hin, hK, hA, hnw, hfr, hlo⟩ := hX
  intro L H locs hL hS
  obtain ⟨hP, hD, hSS, hlen2, hscr⟩ := hS
  have e0 : ("[" ++ (FieldType.array .int).toString : String) = "[[I" := by rfl
  have hcy : s.vm.findClass (FieldType.array .int).toString = some (tc 0) := (hK.2 0 (tc 0, .int) rfl).2
  refine va_mna (X := wd tc ad h) (L := []) (f := fun _ => .inr (0, [])) (cy := tc 0) (N' := n.toNat) (K' := k9.toNat) (z := (k9.toNat, .inl (fun _ => (0 : Int32)))) hx hb hown (by rw [e0]; exact hts _ (okw_in hw)) hnw.2.2 (hts _ w_arrI) hcy hK (by rw [show va_pl [] (fun _ => (Sum.inr (0, []) : va_E)) = [] from rfl, List.append_nil]; exact hP) (by rw [show va_pl [] (fun _ => (Sum.inr (0, []) : va_E)) = [] from rfl, List.append_nil]; exact hD) hSS hA
    (by rw [show (0 : Int32) = Int32.ofInt 0 from rfl, i32_lt hr in0]; omega) (by rw [show (0 : Int32) = Int32.ofInt 0 from rfl, i32_lt hr9 in0]; omega) (i32_clamp hr) (i32_clamp hr9) (by omega) (by show k9.toNat * 4 ≤ 536870912; omega) (by omega) rfl rfl hc hs (fun cA => by rw [vp_cell_i, ← arrV_new]; rfl) hd (fun q r cA H1 hinj hnl g0 g1 g2 g3 => ?_)
  have e1 : cA = tc 2 := by
    have h1 := (hK.2 2 (tc 2, .array .int) rfl).2
    have h2 := (g0.2 4 (cA, .array .int) rfl).2
    exact Option.some.inj (h2.symm.trans h1)
  subst e1
  have ha : ∀ o, o < h.2.length ∨ h.2.length + 1 + n.toNat ≤ o → adN ad h.2.length q n.toNat r o = ad o := fun o ho => by
    unfold adN
    rw [if_neg (by omega), if_neg (by omega)]
  have hwd : wd tc (adN ad h.2.length q n.toNat r) (iclr h.1 h.2.length, (h.2 ++ [(102, n.toNat, (List.range n.toNat).map (fun i => h.2.length + 1 + i))]) ++ List.replicate n.toNat (100, k9.toNat, [])) = (wd tc ad h ++ [(q, .inl (tc 2, n.toNat, .inr (.inr (.inr (.inr (fun i => if i < n.toNat then some (r i) else none))))))]) ++ va_pl ([] ++ (List.range n.toNat).map r) (vr_up (fun _ => .inr (0, [])) ((List.range n.toNat).map r) (.inl (tc 0, (k9.toNat, .inl (fun _ => (0 : Int32)))))) := by
    rw [List.append_assoc, wd_app (tc := tc) (ad := ad) (I' := iclr h.1 h.2.length) hS0 (by omega) (fun o k9 ho => clr_old (Or.inl ho) k9) (fun o ho => ha o (Or.inl ho)), List.append_assoc]
    congr 1
    show (adN ad h.2.length q n.toNat r h.2.length, ent tc (adN ad h.2.length q n.toNat r) (iclr h.1 h.2.length) h.2.length (102, n.toNat, (List.range n.toNat).map (fun i => h.2.length + 1 + i))) :: ((List.replicate n.toNat (100, k9.toNat, [])).zipIdx (h.2.length + 1)).map (fun z => (adN ad h.2.length q n.toNat r z.2, ent tc (adN ad h.2.length q n.toNat r) (iclr h.1 h.2.length) z.2 z.1)) = _
    have e2 : ent tc (adN ad h.2.length q n.toNat r) (iclr h.1 h.2.length) h.2.length (102, n.toNat, (List.range n.toNat).map (fun i => h.2.length + 1 + i)) = .inl (tc 2, n.toNat, .inr (.inr (.inr (.inr (fun i => if i < n.toNat then some (r i) else none))))) := by
      show (Sum.inl (tc 2, n.toNat, Sum.inr (Sum.inr (Sum.inr (Sum.inr (fun k => rfo (adN ad h.2.length q n.toNat r) (((List.range n.toNat).map (fun i => h.2.length + 1 + i)).getD k 3000)))))) : va_E) = _
      congr 7
      funext j
      rw [List.getD_eq_getElem?_getD, List.getElem?_map]
      by_cases hj : j < n.toNat
      · rw [List.getElem?_range hj, if_pos hj]
        show rfo _ (h.2.length + 1 + j) = _
        unfold rfo adN
        rw [if_neg (by omega), if_neg (by omega), if_pos (by omega), show h.2.length + 1 + j - h.2.length - 1 = j by omega]
      · rw [List.getElem?_eq_none (by simpa using Nat.le_of_not_lt hj), if_neg hj]
        rfl
    rw [e2, show adN ad h.2.length q n.toNat r h.2.length = q from if_pos rfl, List.singleton_append, List.nil_append]
    congr 1
    refine List.ext_getElem? fun j => ?_
    unfold va_pl
    rw [List.getElem?_map, List.getElem?_map, List.getElem?_map, List.getElem?_zipIdx, List.getElem?_replicate]
    by_cases hj : j < n.toNat
    · rw [if_pos hj, List.getElem?_range hj]
      show some (adN ad h.2.length q n.toNat r (h.2.length + 1 + j), ent tc (adN ad h.2.length q n.toNat r) (iclr h.1 h.2.length) (h.2.length + 1 + j) (100, k9.toNat, [])) = some (r j, vr_up (fun _ => .inr (0, [])) ((List.range n.toNat).map r) (.inl (tc 0, (k9.toNat, .inl (fun _ => (0 : Int32))))) (r j))
      rw [vr_up_in (List.mem_map.mpr ⟨j, List.mem_range.mpr hj, rfl⟩)]
      have e3 : adN ad h.2.length q n.toNat r (h.2.length + 1 + j) = r j := by
        unfold adN
        rw [if_neg (by omega), if_pos (by omega), show h.2.length + 1 + j - h.2.length - 1 = j by omega]
      have e4 : ent tc (adN ad h.2.length q n.toNat r) (iclr h.1 h.2.length) (h.2.length + 1 + j) (100, k9.toNat, []) = .inl (tc 0, (k9.toNat, .inl (fun _ => (0 : Int32)))) := by
        show (Sum.inl (tc 0, k9.toNat, Sum.inl (fun k => Int32.ofInt (iclr h.1 h.2.length (h.2.length + 1 + j) k))) : va_E) = _
        congr 4
        funext k8
        rw [clr_new (by omega) (by omega)]
        rfl
      rw [e3, e4]
    · rw [if_neg hj, List.getElem?_eq_none (show (List.range n.toNat).length ≤ j by simpa using Nat.le_of_not_lt hj)]
      rfl
  rw [← hwd] at g1 g2
  have kk := k _ ha L H1 locs (LR_ad hL (fun o ho => ha o (by have := okRefs_mem hl0 ho; omega))) ⟨g1, g2, g3, by show ((h.2 ++ _) ++ _).length ≤ 1000; simp; omega, fun z => scr_keep (hscr z) (ha _ (by omega)) (fun o k9 ho => clr_old (Or.inr ho) k9)⟩
  rw [List.map_cons, cv_ad (fun o ho => ha o (by have := okRefs_mem hs0 ho; omega))] at kk
  rw [show cv (adN ad h.2.length q n.toNat r) (vR h.2.length) = .ref q from congrArg Value.ref (if_pos rfl)] at kk
  exact kk
end OPS
end
section
/-! one step of the abstract run is one step of the machine -/
theorem sl_same {S : List AO} {o kd sz : Nat} {rf rf' : List Nat} (h : S[o]? = some (kd, sz, rf)) : sl (S.set o (kd, sz, rf')) = sl S := by
  induction S generalizing o with
  | nil => simp [sl]
  | cons q S ih =>
    cases o with
    | zero => simp at h; subst h; simp [sl]
    | succ o => simp at h; have := ih h; simp [sl] at this ⊢; omega
theorem okv_i {x : Int} {l : List AV} (h : okL (Sum.inl x :: l)) : inR x := (okL_cons.mp h).1
theorem okv_l {x : Int} {l : List AV} (h : okL (Sum.inr (Sum.inl x) :: l)) : inL x := (okL_cons.mp h).1
theorem okv_t {v : AV} {l : List AV} (h : okL (v :: l)) : okL l := (okL_cons.mp h).2
theorem ps_at {op a : Nat} {b : Int} {tb : List (Int × Nat)} {np : Nat} {ls st : List AV} {h : AH} {r : Option (Nat × List AV × List AV × AH)} {f : PF} (hf : pfs[op]? = some f) (hp : pstep op a b tb np ls st h = r) : f a b tb np ls st h = r := by
  unfold pstep at hp
  rw [hf] at hp
  exact hp
theorem put_int {X : CT} {ad : Nat → Nat} {cells slots pc : Nat} {ls st : List AV} {h : AH} {ix ci k0 wi sz o : Nat} {rf : List Nat} {x : Int} (hX : CX X) (hd : decode (m_cd (xm X)) pc = .ok (.putfield ix, 3)) (hf : ftab.lookup (m_own (xm X), ix) = some (ci, k0, wi)) (hfin : fFin ci k0 = false ∨ (m_kd (xm X) = 2 ∧ m_own (xm X) = ci)) (hk : fk ci k0 = 0 ∨ (fk ci k0 = 1 ∧ (x = 0 ∨ x = 1))) (hq : h.2[o]? = some (ci, sz, rf)) (hz : k0 < sz) (k : TT X ad cells slots (pc + 3) ls st (iup h.1 o k0 x, h.2)) : TT X ad cells slots pc ls (vI x :: vR o :: st) h := by
  have hk2 : fk ci k0 ≠ 2 := by omega
  have hs : h.2.set o (ci, sz, rf) = h.2 := by
    refine List.ext_getElem? fun j => ?_
    by_cases e : j = o
    · subst e; rw [List.getElem?_set_self (List.getElem?_eq_some_iff.mp hq).1, hq]
    · rw [List.getElem?_set_ne (fun z => e z.symm)]
  have ht : narrow (tyT ci k0) (cv ad (vI x)) = cv ad (vI x) ∧ fits (tyT ci k0) (cv ad (vI x)) = true := by
    unfold fk at hk
    generalize tyT ci k0 = ty at hk ⊢
    cases ty <;> simp at hk <;> first | exact ⟨rfl, rfl⟩ | (rcases hk with rfl | rfl <;> first | exact ⟨rfl, show fits .boolean (.int 0) = true by decide⟩ | exact ⟨rfl, show fits .boolean (.int 1) = true by decide⟩)
  refine put_any (v := vI x) (I' := iup h.1 o k0 x) (rf' := rf) hX hd hf hfin hq hz ht.1 ht.2 ?_ ?_ (fun o' k9 z => if_neg (fun y => z y.1)) (by rw [hs]; exact k)
  · unfold fval
    rw [if_neg hk2, show iup h.1 o k0 x o k0 = x from if_pos ⟨rfl, rfl⟩]
    rfl
  · intro j hj
    unfold fval
    rw [show iup h.1 o k0 x o j = h.1 o j from if_neg (fun y => hj y.2)]
theorem put_ref {X : CT} {ad : Nat → Nat} {cells slots pc : Nat} {ls st : List AV} {h : AH} {ix ci k0 wi sz o q : Nat} {rf : List Nat} (hX : CX X) (hd : decode (m_cd (xm X)) pc = .ok (.putfield ix, 3)) (hf : ftab.lookup (m_own (xm X), ix) = some (ci, k0, wi)) (hfin : fFin ci k0 = false ∨ (m_kd (xm X) = 2 ∧ m_own (xm X) = ci)) (hk : fk ci k0 = 2) (hq : h.2[o]? = some (ci, sz, rf)) (hz : k0 < sz) (hql : q < h.2.length) (hl : k0 < rf.length) (k : TT X ad cells slots (pc + 3) ls st (h.1, h.2.set o (ci, sz, rf.set k0 q))) : TT X ad cells slots pc ls (vR q :: vR o :: st) h := by
  have ht : narrow (tyT ci k0) (cv ad (vR q)) = cv ad (vR q) ∧ fits (tyT ci k0) (cv ad (vR q)) = true := by
    unfold fk at hk
    generalize tyT ci k0 = ty at hk ⊢
    cases ty <;> simp at hk <;> exact ⟨rfl, rfl⟩
  by_cases hq1 : q < 1000
  · refine put_any (v := vR q) (I' := h.1) (rf' := rf.set k0 q) hX hd hf hfin hq hz ht.1 ht.2 ?_ ?_ (fun _ _ _ => rfl) k
    · unfold fval
      rw [if_pos hk, getD_set hl, if_pos rfl]
      unfold rfo
      rw [if_neg (by omega)]
      rfl
    · intro j hj
      unfold fval
      rw [getD_set hl, if_neg hj]
  · obtain ⟨p, l, e, R, s, mm, args, below, meth, c, Q, D, tc, A, m⟩ := X
    intro L H locs hL hS
    have := hS.2.2.2.1
    omega
section STEP
variable {X : CT} {ad : Nat → Nat} {cells slots pc len op a pc' : Nat} {b : Int} {tb : List (Int × Nat)} {ls st ls' st' : List AV} {h h1 : AH}
def KK (X : CT) (ad : Nat → Nat) (cells slots pc' : Nat) (ls' st' : List AV) (h h1 : AH) : Prop := ∀ (ad' : Nat → Nat) (cells' slots' : Nat), (∀ o, (o < h.2.length ∨ h1.2.length ≤ o) → ad' o = ad o) → cells' + h.2.length = cells + h1.2.length → slots' + sl h.2 = slots + sl h1.2 → TT X ad' cells' slots' pc' ls' st' h1
theorem KK.same {pc' : Nat} {ls' st' : List AV} {h h1 : AH} (K : KK X ad cells slots pc' ls' st' h h1) (e1 : h1.2.length = h.2.length) (e2 : sl h1.2 = sl h.2) : TT X ad cells slots pc' ls' st' h1 := K ad cells slots (fun _ _ => rfl) (by rw [e1]) (by rw [e2])
theorem s_iconst {n : Int} (hX : CX X) (hr : 1 ≤ m_fr (xm X) ∧ 40 ≤ m_lo (xm X)) (hd : decode (m_cd (xm X)) pc = .ok (.iconst n, len)) (hrs : rs (xm X) pc len (.iconst n) = some (op, a, b, tb)) (hp : pstep op a b tb (pc + len) ls st h = some (pc', ls', st', h1)) (hst : okL st) (hc : cells + h1.2.length ≤ (xR X).cells + h.2.length) (hs : slots + sl h1.2 ≤ (xR X).slots + sl h.2) (K : KK X ad cells slots pc' ls' st' h h1) : TT X ad cells slots pc ls st h := by
  unfold rs at hrs
  dsimp only at hrs
  split at hrs
  case isFalse => cases hrs
  rename_i hl
  obtain ⟨rfl, hl2⟩ := hl
  cases hrs
  have hp2 := ps_at (f := p0) rfl hp
  unfold p0 at hp2
  (try dsimp only at hp2)
  (repeat' split at hp2)
  all_goals first
    | (cases hp2; done)
    | (cases hp2; exact am_iconst hX hd (K.same rfl rfl))
theorem s_bipush {n : Int} (hX : CX X) (hr : 1 ≤ m_fr (xm X) ∧ 40 ≤ m_lo (xm X)) (hd : decode (m_cd (xm X)) pc = .ok (.bipush n, len)) (hrs : rs (xm X) pc len (.bipush n) = some (op, a, b, tb)) (hp : pstep op a b tb (pc + len) ls st h = some (pc', ls', st', h1)) (hst : okL st) (hc : cells + h1.2.length ≤ (xR X).cells + h.2.length) (hs : slots + sl h1.2 ≤ (xR X).slots + sl h.2) (K : KK X ad cells slots pc' ls' st' h h1) : TT X ad cells slots pc ls st h := by
  unfold rs at hrs
  dsimp only at hrs
  split at hrs
  case isFalse => cases hrs
  rename_i hl
  obtain ⟨rfl, hl2⟩ := hl
  cases hrs
  have hp2 := ps_at (f := p0) rfl hp
  unfold p0 at hp2
  (try dsimp only at hp2)
  (repeat' split at hp2)
  all_goals first
    | (cases hp2; done)
    | (cases hp2; exact am_bipush hX hd hl2.1 hl2.2 (K.same rfl rfl))
theorem s_sipush {n : Int} (hX : CX X) (hr : 1 ≤ m_fr (xm X) ∧ 40 ≤ m_lo (xm X)) (hd : decode (m_cd (xm X)) pc = .ok (.sipush n, len)) (hrs : rs (xm X) pc len (.sipush n) = some (op, a, b, tb)) (hp : pstep op a b tb (pc + len) ls st h = some (pc', ls', st', h1)) (hst : okL st) (hc : cells + h1.2.length ≤ (xR X).cells + h.2.length) (hs : slots + sl h1.2 ≤ (xR X).slots + sl h.2) (K : KK X ad cells slots pc' ls' st' h h1) : TT X ad cells slots pc ls st h := by
  unfold rs at hrs
  dsimp only at hrs
  split at hrs
  case isFalse => cases hrs
  rename_i hl
  obtain ⟨rfl, hl2⟩ := hl
  cases hrs
  have hp2 := ps_at (f := p0) rfl hp
  unfold p0 at hp2
  (try dsimp only at hp2)
  (repeat' split at hp2)
  all_goals first
    | (cases hp2; done)
    | (cases hp2; exact am_sipush hX hd hl2.1 hl2.2 (K.same rfl rfl))
theorem s_ldc {ix : Nat} (hX : CX X) (hr : 1 ≤ m_fr (xm X) ∧ 40 ≤ m_lo (xm X)) (hd : decode (m_cd (xm X)) pc = .ok (.ldc ix, len)) (hrs : rs (xm X) pc len (.ldc ix) = some (op, a, b, tb)) (hp : pstep op a b tb (pc + len) ls st h = some (pc', ls', st', h1)) (hst : okL st) (hc : cells + h1.2.length ≤ (xR X).cells + h.2.length) (hs : slots + sl h1.2 ≤ (xR X).slots + sl h.2) (K : KK X ad cells slots pc' ls' st' h h1) : TT X ad cells slots pc ls st h := by
  unfold rs at hrs
  dsimp only at hrs
  split at hrs
  case isFalse => cases hrs
  rename_i hl
  subst hl
  split at hrs
  case h_2 => cases hrs
  rename_i q hf
  obtain ⟨v, wi⟩ := q
  cases hrs
  have hp2 := ps_at (f := p0) rfl hp
  unfold p0 at hp2
  (try dsimp only at hp2)
  (repeat' split at hp2)
  all_goals first
    | (cases hp2; done)
    | (cases hp2; exact am_ldc hX hd hf (K.same rfl rfl))
theorem s_ldcw {ix : Nat} (hX : CX X) (hr : 1 ≤ m_fr (xm X) ∧ 40 ≤ m_lo (xm X)) (hd : decode (m_cd (xm X)) pc = .ok (.ldc_w ix, len)) (hrs : rs (xm X) pc len (.ldc_w ix) = some (op, a, b, tb)) (hp : pstep op a b tb (pc + len) ls st h = some (pc', ls', st', h1)) (hst : okL st) (hc : cells + h1.2.length ≤ (xR X).cells + h.2.length) (hs : slots + sl h1.2 ≤ (xR X).slots + sl h.2) (K : KK X ad cells slots pc' ls' st' h h1) : TT X ad cells slots pc ls st h := by
  unfold rs at hrs
  dsimp only at hrs
  split at hrs
  case isFalse => cases hrs
  rename_i hl
  subst hl
  split at hrs
  case h_2 => cases hrs
  rename_i q hf
  obtain ⟨v, wi⟩ := q
  cases hrs
  have hp2 := ps_at (f := p0) rfl hp
  unfold p0 at hp2
  (try dsimp only at hp2)
  (repeat' split at hp2)
  all_goals first
    | (cases hp2; done)
    | (cases hp2; exact am_ldcw hX hd hf (K.same rfl rfl))
theorem s_ldc2 {ix : Nat} (hX : CX X) (hr : 1 ≤ m_fr (xm X) ∧ 40 ≤ m_lo (xm X)) (hd : decode (m_cd (xm X)) pc = .ok (.ldc2_w ix, len)) (hrs : rs (xm X) pc len (.ldc2_w ix) = some (op, a, b, tb)) (hp : pstep op a b tb (pc + len) ls st h = some (pc', ls', st', h1)) (hst : okL st) (hc : cells + h1.2.length ≤ (xR X).cells + h.2.length) (hs : slots + sl h1.2 ≤ (xR X).slots + sl h.2) (K : KK X ad cells slots pc' ls' st' h h1) : TT X ad cells slots pc ls st h := by
  unfold rs at hrs
  dsimp only at hrs
  split at hrs
  case isFalse => cases hrs
  rename_i hl
  subst hl
  split at hrs
  case h_2 => cases hrs
  rename_i q hf
  obtain ⟨v, wi⟩ := q
  cases hrs
  have hp2 := ps_at (f := p1) rfl hp
  unfold p1 at hp2
  (try dsimp only at hp2)
  (repeat' split at hp2)
  all_goals first
    | (cases hp2; done)
    | (cases hp2; exact am_ldc2 hX hd hf (K.same rfl rfl))
theorem s_iload_n {k : Fin 4} (hX : CX X) (hr : 1 ≤ m_fr (xm X) ∧ 40 ≤ m_lo (xm X)) (hd : decode (m_cd (xm X)) pc = .ok (.iload_n k, len)) (hrs : rs (xm X) pc len (.iload_n k) = some (op, a, b, tb)) (hp : pstep op a b tb (pc + len) ls st h = some (pc', ls', st', h1)) (hst : okL st) (hc : cells + h1.2.length ≤ (xR X).cells + h.2.length) (hs : slots + sl h1.2 ≤ (xR X).slots + sl h.2) (K : KK X ad cells slots pc' ls' st' h h1) : TT X ad cells slots pc ls st h := by
  unfold rs at hrs
  dsimp only at hrs
  split at hrs
  case isFalse => cases hrs
  rename_i hl
  subst hl
  cases hrs
  have hp2 := ps_at (f := p2) rfl hp
  unfold p2 at hp2
  (try dsimp only at hp2)
  (repeat' split at hp2)
  all_goals first
    | (cases hp2; done)
    | (cases hp2; exact am_iload_n hX hd (by assumption) (K.same rfl rfl))
theorem s_iload {k : Nat} (hX : CX X) (hr : 1 ≤ m_fr (xm X) ∧ 40 ≤ m_lo (xm X)) (hd : decode (m_cd (xm X)) pc = .ok (.iload k, len)) (hrs : rs (xm X) pc len (.iload k) = some (op, a, b, tb)) (hp : pstep op a b tb (pc + len) ls st h = some (pc', ls', st', h1)) (hst : okL st) (hc : cells + h1.2.length ≤ (xR X).cells + h.2.length) (hs : slots + sl h1.2 ≤ (xR X).slots + sl h.2) (K : KK X ad cells slots pc' ls' st' h h1) : TT X ad cells slots pc ls st h := by
  unfold rs at hrs
  dsimp only at hrs
  split at hrs
  case isFalse => cases hrs
  rename_i hl
  subst hl
  cases hrs
  have hp2 := ps_at (f := p2) rfl hp
  unfold p2 at hp2
  (try dsimp only at hp2)
  (repeat' split at hp2)
  all_goals first
    | (cases hp2; done)
    | (cases hp2; exact am_iload hX hd (by assumption) (K.same rfl rfl))
theorem s_aload_n {k : Fin 4} (hX : CX X) (hr : 1 ≤ m_fr (xm X) ∧ 40 ≤ m_lo (xm X)) (hd : decode (m_cd (xm X)) pc = .ok (.aload_n k, len)) (hrs : rs (xm X) pc len (.aload_n k) = some (op, a, b, tb)) (hp : pstep op a b tb (pc + len) ls st h = some (pc', ls', st', h1)) (hst : okL st) (hc : cells + h1.2.length ≤ (xR X).cells + h.2.length) (hs : slots + sl h1.2 ≤ (xR X).slots + sl h.2) (K : KK X ad cells slots pc' ls' st' h h1) : TT X ad cells slots pc ls st h := by
  unfold rs at hrs
  dsimp only at hrs
  split at hrs
  case isFalse => cases hrs
  rename_i hl
  subst hl
  cases hrs
  have hp2 := ps_at (f := p3) rfl hp
  unfold p3 at hp2
  (try dsimp only at hp2)
  (repeat' split at hp2)
  all_goals first
    | (cases hp2; done)
    | (cases hp2; exact am_aload_n hX hd (by assumption) (K.same rfl rfl))
theorem s_aload {k : Nat} (hX : CX X) (hr : 1 ≤ m_fr (xm X) ∧ 40 ≤ m_lo (xm X)) (hd : decode (m_cd (xm X)) pc = .ok (.aload k, len)) (hrs : rs (xm X) pc len (.aload k) = some (op, a, b, tb)) (hp : pstep op a b tb (pc + len) ls st h = some (pc', ls', st', h1)) (hst : okL st) (hc : cells + h1.2.length ≤ (xR X).cells + h.2.length) (hs : slots + sl h1.2 ≤ (xR X).slots + sl h.2) (K : KK X ad cells slots pc' ls' st' h h1) : TT X ad cells slots pc ls st h := by
  unfold rs at hrs
  dsimp only at hrs
  split at hrs
  case isFalse => cases hrs
  rename_i hl
  subst hl
  cases hrs
  have hp2 := ps_at (f := p3) rfl hp
  unfold p3 at hp2
  (try dsimp only at hp2)
  (repeat' split at hp2)
  all_goals first
    | (cases hp2; done)
    | (cases hp2; exact am_aload hX hd (by assumption) (K.same rfl rfl))
theorem s_istore_n {k : Fin 4} (hX : CX X) (hr : 1 ≤ m_fr (xm X) ∧ 40 ≤ m_lo (xm X)) (hd : decode (m_cd (xm X)) pc = .ok (.istore_n k, len)) (hrs : rs (xm X) pc len (.istore_n k) = some (op, a, b, tb)) (hp : pstep op a b tb (pc + len) ls st h = some (pc', ls', st', h1)) (hst : okL st) (hc : cells + h1.2.length ≤ (xR X).cells + h.2.length) (hs : slots + sl h1.2 ≤ (xR X).slots + sl h.2) (K : KK X ad cells slots pc' ls' st' h h1) : TT X ad cells slots pc ls st h := by
  unfold rs at hrs
  dsimp only at hrs
  split at hrs
  case isFalse => cases hrs
  rename_i hl
  subst hl
  cases hrs
  have hp2 := ps_at (f := p4) rfl hp
  unfold p4 at hp2
  (try dsimp only at hp2)
  (repeat' split at hp2)
  all_goals first
    | (cases hp2; done)
    | (cases hp2; exact am_istore_n hX hd (by assumption) (K.same rfl rfl))
theorem s_istore {k : Nat} (hX : CX X) (hr : 1 ≤ m_fr (xm X) ∧ 40 ≤ m_lo (xm X)) (hd : decode (m_cd (xm X)) pc = .ok (.istore k, len)) (hrs : rs (xm X) pc len (.istore k) = some (op, a, b, tb)) (hp : pstep op a b tb (pc + len) ls st h = some (pc', ls', st', h1)) (hst : okL st) (hc : cells + h1.2.length ≤ (xR X).cells + h.2.length) (hs : slots + sl h1.2 ≤ (xR X).slots + sl h.2) (K : KK X ad cells slots pc' ls' st' h h1) : TT X ad cells slots pc ls st h := by
  unfold rs at hrs
  dsimp only at hrs
  split at hrs
  case isFalse => cases hrs
  rename_i hl
  subst hl
  cases hrs
  have hp2 := ps_at (f := p4) rfl hp
  unfold p4 at hp2
  (try dsimp only at hp2)
  (repeat' split at hp2)
  all_goals first
    | (cases hp2; done)
    | (cases hp2; exact am_istore hX hd (by assumption) (K.same rfl rfl))
theorem s_astore_n {k : Fin 4} (hX : CX X) (hr : 1 ≤ m_fr (xm X) ∧ 40 ≤ m_lo (xm X)) (hd : decode (m_cd (xm X)) pc = .ok (.astore_n k, len)) (hrs : rs (xm X) pc len (.astore_n k) = some (op, a, b, tb)) (hp : pstep op a b tb (pc + len) ls st h = some (pc', ls', st', h1)) (hst : okL st) (hc : cells + h1.2.length ≤ (xR X).cells + h.2.length) (hs : slots + sl h1.2 ≤ (xR X).slots + sl h.2) (K : KK X ad cells slots pc' ls' st' h h1) : TT X ad cells slots pc ls st h := by
  unfold rs at hrs
  dsimp only at hrs
  split at hrs
  case isFalse => cases hrs
  rename_i hl
  subst hl
  cases hrs
  have hp2 := ps_at (f := p5) rfl hp
  unfold p5 at hp2
  (try dsimp only at hp2)
  (repeat' split at hp2)
  all_goals first
    | (cases hp2; done)
    | (cases hp2; exact am_astore_n hX hd (by assumption) (K.same rfl rfl))
theorem s_astore {k : Nat} (hX : CX X) (hr : 1 ≤ m_fr (xm X) ∧ 40 ≤ m_lo (xm X)) (hd : decode (m_cd (xm X)) pc = .ok (.astore k, len)) (hrs : rs (xm X) pc len (.astore k) = some (op, a, b, tb)) (hp : pstep op a b tb (pc + len) ls st h = some (pc', ls', st', h1)) (hst : okL st) (hc : cells + h1.2.length ≤ (xR X).cells + h.2.length) (hs : slots + sl h1.2 ≤ (xR X).slots + sl h.2) (K : KK X ad cells slots pc' ls' st' h h1) : TT X ad cells slots pc ls st h := by
  unfold rs at hrs
  dsimp only at hrs
  split at hrs
  case isFalse => cases hrs
  rename_i hl
  subst hl
  cases hrs
  have hp2 := ps_at (f := p5) rfl hp
  unfold p5 at hp2
  (try dsimp only at hp2)
  (repeat' split at hp2)
  all_goals first
    | (cases hp2; done)
    | (cases hp2; exact am_astore hX hd (by assumption) (K.same rfl rfl))
theorem s_iinc {k : Nat} {n : Int} (hX : CX X) (hr : 1 ≤ m_fr (xm X) ∧ 40 ≤ m_lo (xm X)) (hd : decode (m_cd (xm X)) pc = .ok (.iinc k n, len)) (hrs : rs (xm X) pc len (.iinc k n) = some (op, a, b, tb)) (hp : pstep op a b tb (pc + len) ls st h = some (pc', ls', st', h1)) (hst : okL st) (hc : cells + h1.2.length ≤ (xR X).cells + h.2.length) (hs : slots + sl h1.2 ≤ (xR X).slots + sl h.2) (K : KK X ad cells slots pc' ls' st' h h1) : TT X ad cells slots pc ls st h := by
  unfold rs at hrs
  dsimp only at hrs
  split at hrs
  case isFalse => cases hrs
  rename_i hl
  subst hl
  cases hrs
  have hp2 := ps_at (f := p6) rfl hp
  unfold p6 at hp2
  (try dsimp only at hp2)
  (repeat' split at hp2)
  all_goals first
    | (cases hp2; done)
    | (cases hp2; exact am_iinc hX hd (by assumption) (K.same rfl rfl))
theorem s_getfield {ix : Nat} (hX : CX X) (hr : 1 ≤ m_fr (xm X) ∧ 40 ≤ m_lo (xm X)) (hd : decode (m_cd (xm X)) pc = .ok (.getfield ix, len)) (hrs : rs (xm X) pc len (.getfield ix) = some (op, a, b, tb)) (hp : pstep op a b tb (pc + len) ls st h = some (pc', ls', st', h1)) (hst : okL st) (hc : cells + h1.2.length ≤ (xR X).cells + h.2.length) (hs : slots + sl h1.2 ≤ (xR X).slots + sl h.2) (K : KK X ad cells slots pc' ls' st' h h1) : TT X ad cells slots pc ls st h := by
  unfold rs at hrs
  dsimp only at hrs
  split at hrs
  case isFalse => cases hrs
  rename_i hl
  subst hl
  split at hrs
  case h_2 => cases hrs
  rename_i q hf
  obtain ⟨ci, k0, wi⟩ := q
  unfold rget at hrs
  split at hrs
  case isFalse => cases hrs
  split at hrs
  · rename_i hk
    cases hrs
    have hp2 := ps_at (f := p8) rfl hp
    unfold p8 at hp2
    (repeat' split at hp2)
    all_goals first
      | (cases hp2; done)
      | (rename_i hg; obtain ⟨rfl, hg2, hg3⟩ := hg; cases hp2; exact am_getR hX hd hf hk (by assumption) hg2 (by assumption) hg3 (K.same rfl rfl))
  · split at hrs
    · rename_i hk _
      cases hrs
      have hp2 := ps_at (f := p7) rfl hp
      unfold p7 at hp2
      (repeat' split at hp2)
      all_goals first
        | (cases hp2; done)
        | (rename_i hg; obtain ⟨rfl, hg2⟩ := hg; cases hp2; exact am_getI hX hd hf hk (by assumption) hg2 (K.same rfl rfl))
    · cases hrs
theorem s_putfield {ix : Nat} (hX : CX X) (hr : 1 ≤ m_fr (xm X) ∧ 40 ≤ m_lo (xm X)) (hd : decode (m_cd (xm X)) pc = .ok (.putfield ix, len)) (hrs : rs (xm X) pc len (.putfield ix) = some (op, a, b, tb)) (hp : pstep op a b tb (pc + len) ls st h = some (pc', ls', st', h1)) (hst : okL st) (hc : cells + h1.2.length ≤ (xR X).cells + h.2.length) (hs : slots + sl h1.2 ≤ (xR X).slots + sl h.2) (K : KK X ad cells slots pc' ls' st' h h1) : TT X ad cells slots pc ls st h := by
  unfold rs at hrs
  dsimp only at hrs
  split at hrs
  case isFalse => cases hrs
  rename_i hl
  subst hl
  split at hrs
  case h_2 => cases hrs
  rename_i q hf
  obtain ⟨ci, k0, wi⟩ := q
  unfold rput at hrs
  split at hrs
  case isFalse => cases hrs
  rename_i hcond
  split at hrs
  · rename_i hk
    cases hrs
    have hp2 := ps_at (f := p10) rfl hp
    unfold p10 at hp2
    (repeat' split at hp2)
    all_goals first
      | (cases hp2; done)
      | (rename_i q o r kd sz rf hq hg
         obtain ⟨rfl, hg2, hg3, hg4⟩ := hg
         cases hp2
         have hk' := hk
         have hlen : ∀ {α : Type}, True → True := fun _ => trivial
         refine put_ref hX hd hf hcond.2.2 hk hq hg2 hg3 hg4 (K.same (by simp) (sl_same hq)))
  · split at hrs
    · rename_i hk
      cases hrs
      have hp2 := ps_at (f := p9) rfl hp
      unfold p9 at hp2
      (repeat' split at hp2)
      all_goals first
        | (cases hp2; done)
        | (rename_i x o r kd sz rf hq hg
           obtain ⟨rfl, hg2, -⟩ := hg
           cases hp2
           exact put_int hX hd hf hcond.2.2 (Or.inl hk) hq hg2 (K.same rfl rfl))
    · split at hrs
      · rename_i hk
        cases hrs
        have hp2 := ps_at (f := p9) rfl hp
        unfold p9 at hp2
        (repeat' split at hp2)
        all_goals first
          | (cases hp2; done)
          | (rename_i x o r kd sz rf hq hg
             obtain ⟨rfl, hg2, hg3⟩ := hg
             cases hp2
             exact put_int hX hd hf hcond.2.2 (Or.inr ⟨hk, hg3.resolve_left (by simp)⟩) hq hg2 (K.same rfl rfl))
      · cases hrs
theorem s_baload (hX : CX X) (hr : 1 ≤ m_fr (xm X) ∧ 40 ≤ m_lo (xm X)) (hd : decode (m_cd (xm X)) pc = .ok (.baload, len)) (hrs : rs (xm X) pc len (.baload) = some (op, a, b, tb)) (hp : pstep op a b tb (pc + len) ls st h = some (pc', ls', st', h1)) (hst : okL st) (hc : cells + h1.2.length ≤ (xR X).cells + h.2.length) (hs : slots + sl h1.2 ≤ (xR X).slots + sl h.2) (K : KK X ad cells slots pc' ls' st' h h1) : TT X ad cells slots pc ls st h := by
  unfold rs at hrs
  dsimp only at hrs
  split at hrs
  case isFalse => cases hrs
  rename_i hl
  subst hl
  cases hrs
  have hp2 := ps_at (f := p11) rfl hp
  unfold p11 at hp2
  (repeat' split at hp2)
  all_goals first
    | (cases hp2; done)
    | (rename_i hg; obtain ⟨rfl, g1, g2⟩ := hg; cases hp2; exact am_bald hX hd (by assumption) g1 g2 (okv_i hst) (K.same rfl rfl))
theorem s_aaload (hX : CX X) (hr : 1 ≤ m_fr (xm X) ∧ 40 ≤ m_lo (xm X)) (hd : decode (m_cd (xm X)) pc = .ok (.aaload, len)) (hrs : rs (xm X) pc len (.aaload) = some (op, a, b, tb)) (hp : pstep op a b tb (pc + len) ls st h = some (pc', ls', st', h1)) (hst : okL st) (hc : cells + h1.2.length ≤ (xR X).cells + h.2.length) (hs : slots + sl h1.2 ≤ (xR X).slots + sl h.2) (K : KK X ad cells slots pc' ls' st' h h1) : TT X ad cells slots pc ls st h := by
  unfold rs at hrs
  dsimp only at hrs
  split at hrs
  case isFalse => cases hrs
  rename_i hl
  subst hl
  cases hrs
  have hp2 := ps_at (f := p12) rfl hp
  unfold p12 at hp2
  (repeat' split at hp2)
  all_goals first
    | (cases hp2; done)
    | (rename_i hg; obtain ⟨g0, g1, g2, g3⟩ := hg; cases hp2; exact am_aald hX hd (by assumption) g0 g1 g2 (okv_i hst) (by assumption) g3 (K.same rfl rfl))
theorem s_iastore (hX : CX X) (hr : 1 ≤ m_fr (xm X) ∧ 40 ≤ m_lo (xm X)) (hd : decode (m_cd (xm X)) pc = .ok (.iastore, len)) (hrs : rs (xm X) pc len (.iastore) = some (op, a, b, tb)) (hp : pstep op a b tb (pc + len) ls st h = some (pc', ls', st', h1)) (hst : okL st) (hc : cells + h1.2.length ≤ (xR X).cells + h.2.length) (hs : slots + sl h1.2 ≤ (xR X).slots + sl h.2) (K : KK X ad cells slots pc' ls' st' h h1) : TT X ad cells slots pc ls st h := by
  unfold rs at hrs
  dsimp only at hrs
  split at hrs
  case isFalse => cases hrs
  rename_i hl
  subst hl
  cases hrs
  have hp2 := ps_at (f := p13) rfl hp
  unfold p13 at hp2
  (repeat' split at hp2)
  all_goals first
    | (cases hp2; done)
    | (rename_i hg; obtain ⟨rfl, g1, g2, g3⟩ := hg; cases hp2; exact am_iast hX hd (by assumption) g1 g2 (okv_i (okv_t hst)) (K.same rfl rfl))
theorem s_bastore (hX : CX X) (hr : 1 ≤ m_fr (xm X) ∧ 40 ≤ m_lo (xm X)) (hd : decode (m_cd (xm X)) pc = .ok (.bastore, len)) (hrs : rs (xm X) pc len (.bastore) = some (op, a, b, tb)) (hp : pstep op a b tb (pc + len) ls st h = some (pc', ls', st', h1)) (hst : okL st) (hc : cells + h1.2.length ≤ (xR X).cells + h.2.length) (hs : slots + sl h1.2 ≤ (xR X).slots + sl h.2) (K : KK X ad cells slots pc' ls' st' h h1) : TT X ad cells slots pc ls st h := by
  unfold rs at hrs
  dsimp only at hrs
  split at hrs
  case isFalse => cases hrs
  rename_i hl
  subst hl
  cases hrs
  have hp2 := ps_at (f := p13) rfl hp
  unfold p13 at hp2
  (repeat' split at hp2)
  all_goals first
    | (cases hp2; done)
    | (rename_i hg; obtain ⟨rfl, g1, g2, g3⟩ := hg; cases hp2; exact am_bast hX hd (by assumption) g1 g2 (okv_i (okv_t hst)) (g3.resolve_left (by decide)).1 (g3.resolve_left (by decide)).2 (K.same rfl rfl))
theorem s_aastore (hX : CX X) (hr : 1 ≤ m_fr (xm X) ∧ 40 ≤ m_lo (xm X)) (hd : decode (m_cd (xm X)) pc = .ok (.aastore, len)) (hrs : rs (xm X) pc len (.aastore) = some (op, a, b, tb)) (hp : pstep op a b tb (pc + len) ls st h = some (pc', ls', st', h1)) (hst : okL st) (hc : cells + h1.2.length ≤ (xR X).cells + h.2.length) (hs : slots + sl h1.2 ≤ (xR X).slots + sl h.2) (K : KK X ad cells slots pc' ls' st' h h1) : TT X ad cells slots pc ls st h := by
  unfold rs at hrs
  dsimp only at hrs
  split at hrs
  case isFalse => cases hrs
  rename_i hl
  subst hl
  cases hrs
  have hp2 := ps_at (f := p14) rfl hp
  unfold p14 at hp2
  (repeat' split at hp2)
  all_goals first
    | (cases hp2; done)
    | (rename_i hg; obtain ⟨rfl, rfl, g1, g2, g3⟩ := hg; cases hp2; exact am_aast hX hd (by assumption) (by assumption) g1 g2 (okv_i (okv_t hst)) g3 (K.same (by simp) (sl_same (by assumption))))
theorem s_iaload (hX : CX X) (hr : 1 ≤ m_fr (xm X) ∧ 40 ≤ m_lo (xm X)) (hd : decode (m_cd (xm X)) pc = .ok (.iaload, len)) (hrs : rs (xm X) pc len (.iaload) = some (op, a, b, tb)) (hp : pstep op a b tb (pc + len) ls st h = some (pc', ls', st', h1)) (hst : okL st) (hc : cells + h1.2.length ≤ (xR X).cells + h.2.length) (hs : slots + sl h1.2 ≤ (xR X).slots + sl h.2) (K : KK X ad cells slots pc' ls' st' h h1) : TT X ad cells slots pc ls st h := by
  unfold rs at hrs
  dsimp only at hrs
  split at hrs
  case isFalse => cases hrs
  rename_i hl
  subst hl
  split at hrs
  · rename_i hm
    cases hrs
    have hp2 := ps_at (f := p36) rfl hp
    unfold p36 at hp2
    (repeat' split at hp2)
    all_goals first
      | (cases hp2; done)
      | (rename_i hg; obtain ⟨rfl, g1, g2⟩ := hg; cases hp2; exact am_sld hX hd hm g1 g2 (okv_i hst) (K.same rfl rfl))
  · cases hrs
    have hp2 := ps_at (f := p11) rfl hp
    unfold p11 at hp2
    (repeat' split at hp2)
    all_goals first
      | (cases hp2; done)
      | (rename_i hg; obtain ⟨rfl, g1, g2⟩ := hg; cases hp2; exact am_iald hX hd (by assumption) g1 g2 (okv_i hst) (K.same rfl rfl))
theorem s_arraylength (hX : CX X) (hr : 1 ≤ m_fr (xm X) ∧ 40 ≤ m_lo (xm X)) (hd : decode (m_cd (xm X)) pc = .ok (.arraylength, len)) (hrs : rs (xm X) pc len (.arraylength) = some (op, a, b, tb)) (hp : pstep op a b tb (pc + len) ls st h = some (pc', ls', st', h1)) (hst : okL st) (hc : cells + h1.2.length ≤ (xR X).cells + h.2.length) (hs : slots + sl h1.2 ≤ (xR X).slots + sl h.2) (K : KK X ad cells slots pc' ls' st' h h1) : TT X ad cells slots pc ls st h := by
  unfold rs at hrs
  dsimp only at hrs
  split at hrs
  case isFalse => cases hrs
  rename_i hl
  subst hl
  split at hrs
  · rename_i hm
    cases hrs
    have hp2 := ps_at (f := p37) rfl hp
    unfold p37 at hp2
    (repeat' split at hp2)
    all_goals first
      | (cases hp2; done)
      | (rename_i hg; subst hg; cases hp2; exact am_slen hX hd hm (K.same rfl rfl))
  · cases hrs
    have hp2 := ps_at (f := p15) rfl hp
    unfold p15 at hp2
    (repeat' split at hp2)
    all_goals first
      | (cases hp2; done)
      | (rename_i hg; obtain ⟨g1, g2, g3⟩ := hg; cases hp2; exact am_alen hX hd (by assumption) g1 g2 (K.same rfl rfl))
theorem s_iadd (hX : CX X) (hr : 1 ≤ m_fr (xm X) ∧ 40 ≤ m_lo (xm X)) (hd : decode (m_cd (xm X)) pc = .ok (.iadd, len)) (hrs : rs (xm X) pc len (.iadd) = some (op, a, b, tb)) (hp : pstep op a b tb (pc + len) ls st h = some (pc', ls', st', h1)) (hst : okL st) (hc : cells + h1.2.length ≤ (xR X).cells + h.2.length) (hs : slots + sl h1.2 ≤ (xR X).slots + sl h.2) (K : KK X ad cells slots pc' ls' st' h h1) : TT X ad cells slots pc ls st h := by
  unfold rs at hrs
  dsimp only at hrs
  split at hrs
  case isFalse => cases hrs
  rename_i hl
  subst hl
  cases hrs
  have hp2 := ps_at (f := p16) rfl hp
  unfold p16 at hp2
  split at hp2
  case h_2 => cases hp2
  rename_i y x r
  split at hp2
  case h_2 => cases hp2
  rename_i z hz
  cases hp2
  have hz2 : (if inR (x + y) then some (x + y) else none) = some z := hz
  split at hz2
  case isFalse => cases hz2
  rename_i hg
  cases hz2
  exact am_iadd hX hd (K.same rfl rfl)
theorem s_isub (hX : CX X) (hr : 1 ≤ m_fr (xm X) ∧ 40 ≤ m_lo (xm X)) (hd : decode (m_cd (xm X)) pc = .ok (.isub, len)) (hrs : rs (xm X) pc len (.isub) = some (op, a, b, tb)) (hp : pstep op a b tb (pc + len) ls st h = some (pc', ls', st', h1)) (hst : okL st) (hc : cells + h1.2.length ≤ (xR X).cells + h.2.length) (hs : slots + sl h1.2 ≤ (xR X).slots + sl h.2) (K : KK X ad cells slots pc' ls' st' h h1) : TT X ad cells slots pc ls st h := by
  unfold rs at hrs
  dsimp only at hrs
  split at hrs
  case isFalse => cases hrs
  rename_i hl
  subst hl
  cases hrs
  have hp2 := ps_at (f := p16) rfl hp
  unfold p16 at hp2
  split at hp2
  case h_2 => cases hp2
  rename_i y x r
  split at hp2
  case h_2 => cases hp2
  rename_i z hz
  cases hp2
  have hz2 : (if inR (x - y) then some (x - y) else none) = some z := hz
  split at hz2
  case isFalse => cases hz2
  rename_i hg
  cases hz2
  exact am_isub hX hd (K.same rfl rfl)
theorem s_imul (hX : CX X) (hr : 1 ≤ m_fr (xm X) ∧ 40 ≤ m_lo (xm X)) (hd : decode (m_cd (xm X)) pc = .ok (.imul, len)) (hrs : rs (xm X) pc len (.imul) = some (op, a, b, tb)) (hp : pstep op a b tb (pc + len) ls st h = some (pc', ls', st', h1)) (hst : okL st) (hc : cells + h1.2.length ≤ (xR X).cells + h.2.length) (hs : slots + sl h1.2 ≤ (xR X).slots + sl h.2) (K : KK X ad cells slots pc' ls' st' h h1) : TT X ad cells slots pc ls st h := by
  unfold rs at hrs
  dsimp only at hrs
  split at hrs
  case isFalse => cases hrs
  rename_i hl
  subst hl
  cases hrs
  have hp2 := ps_at (f := p16) rfl hp
  unfold p16 at hp2
  split at hp2
  case h_2 => cases hp2
  rename_i y x r
  split at hp2
  case h_2 => cases hp2
  rename_i z hz
  cases hp2
  have hz2 : (if inR (x * y) then some (x * y) else none) = some z := hz
  split at hz2
  case isFalse => cases hz2
  rename_i hg
  cases hz2
  exact am_imul hX hd (K.same rfl rfl)
theorem s_idiv (hX : CX X) (hr : 1 ≤ m_fr (xm X) ∧ 40 ≤ m_lo (xm X)) (hd : decode (m_cd (xm X)) pc = .ok (.idiv, len)) (hrs : rs (xm X) pc len (.idiv) = some (op, a, b, tb)) (hp : pstep op a b tb (pc + len) ls st h = some (pc', ls', st', h1)) (hst : okL st) (hc : cells + h1.2.length ≤ (xR X).cells + h.2.length) (hs : slots + sl h1.2 ≤ (xR X).slots + sl h.2) (K : KK X ad cells slots pc' ls' st' h h1) : TT X ad cells slots pc ls st h := by
  unfold rs at hrs
  dsimp only at hrs
  split at hrs
  case isFalse => cases hrs
  rename_i hl
  subst hl
  cases hrs
  have hp2 := ps_at (f := p16) rfl hp
  unfold p16 at hp2
  split at hp2
  case h_2 => cases hp2
  rename_i y x r
  split at hp2
  case h_2 => cases hp2
  rename_i z hz
  cases hp2
  have hz2 : (if y ≠ 0 ∧ inR (x.tdiv y) then some (x.tdiv y) else none) = some z := hz
  split at hz2
  case isFalse => cases hz2
  rename_i hg
  cases hz2
  exact am_idiv hX hd (okv_i (okv_t hst)) (okv_i hst) hg.1 hg.2 (K.same rfl rfl)
theorem s_irem (hX : CX X) (hr : 1 ≤ m_fr (xm X) ∧ 40 ≤ m_lo (xm X)) (hd : decode (m_cd (xm X)) pc = .ok (.irem, len)) (hrs : rs (xm X) pc len (.irem) = some (op, a, b, tb)) (hp : pstep op a b tb (pc + len) ls st h = some (pc', ls', st', h1)) (hst : okL st) (hc : cells + h1.2.length ≤ (xR X).cells + h.2.length) (hs : slots + sl h1.2 ≤ (xR X).slots + sl h.2) (K : KK X ad cells slots pc' ls' st' h h1) : TT X ad cells slots pc ls st h := by
  unfold rs at hrs
  dsimp only at hrs
  split at hrs
  case isFalse => cases hrs
  rename_i hl
  subst hl
  cases hrs
  have hp2 := ps_at (f := p16) rfl hp
  unfold p16 at hp2
  split at hp2
  case h_2 => cases hp2
  rename_i y x r
  split at hp2
  case h_2 => cases hp2
  rename_i z hz
  cases hp2
  have hz2 : (if y ≠ 0 ∧ inR (x.tdiv y) then some (x.tmod y) else none) = some z := hz
  split at hz2
  case isFalse => cases hz2
  rename_i hg
  cases hz2
  exact am_irem hX hd (okv_i (okv_t hst)) (okv_i hst) hg.1 hg.2 (K.same rfl rfl)
theorem s_ishl (hX : CX X) (hr : 1 ≤ m_fr (xm X) ∧ 40 ≤ m_lo (xm X)) (hd : decode (m_cd (xm X)) pc = .ok (.ishl, len)) (hrs : rs (xm X) pc len (.ishl) = some (op, a, b, tb)) (hp : pstep op a b tb (pc + len) ls st h = some (pc', ls', st', h1)) (hst : okL st) (hc : cells + h1.2.length ≤ (xR X).cells + h.2.length) (hs : slots + sl h1.2 ≤ (xR X).slots + sl h.2) (K : KK X ad cells slots pc' ls' st' h h1) : TT X ad cells slots pc ls st h := by
  unfold rs at hrs
  dsimp only at hrs
  split at hrs
  case isFalse => cases hrs
  rename_i hl
  subst hl
  cases hrs
  have hp2 := ps_at (f := p16) rfl hp
  unfold p16 at hp2
  split at hp2
  case h_2 => cases hp2
  rename_i y x r
  split at hp2
  case h_2 => cases hp2
  rename_i z hz
  cases hp2
  have hz2 : (some (Int32.ofInt x <<< (Int32.ofInt y &&& 31)).toInt) = some z := hz
  cases hz2
  exact am_ishl hX hd (K.same rfl rfl)
theorem s_ishr (hX : CX X) (hr : 1 ≤ m_fr (xm X) ∧ 40 ≤ m_lo (xm X)) (hd : decode (m_cd (xm X)) pc = .ok (.ishr, len)) (hrs : rs (xm X) pc len (.ishr) = some (op, a, b, tb)) (hp : pstep op a b tb (pc + len) ls st h = some (pc', ls', st', h1)) (hst : okL st) (hc : cells + h1.2.length ≤ (xR X).cells + h.2.length) (hs : slots + sl h1.2 ≤ (xR X).slots + sl h.2) (K : KK X ad cells slots pc' ls' st' h h1) : TT X ad cells slots pc ls st h := by
  unfold rs at hrs
  dsimp only at hrs
  split at hrs
  case isFalse => cases hrs
  rename_i hl
  subst hl
  cases hrs
  have hp2 := ps_at (f := p16) rfl hp
  unfold p16 at hp2
  split at hp2
  case h_2 => cases hp2
  rename_i y x r
  split at hp2
  case h_2 => cases hp2
  rename_i z hz
  cases hp2
  have hz2 : (some (Int32.ofInt x >>> (Int32.ofInt y &&& 31)).toInt) = some z := hz
  cases hz2
  exact am_ishr hX hd (K.same rfl rfl)
theorem s_iand (hX : CX X) (hr : 1 ≤ m_fr (xm X) ∧ 40 ≤ m_lo (xm X)) (hd : decode (m_cd (xm X)) pc = .ok (.iand, len)) (hrs : rs (xm X) pc len (.iand) = some (op, a, b, tb)) (hp : pstep op a b tb (pc + len) ls st h = some (pc', ls', st', h1)) (hst : okL st) (hc : cells + h1.2.length ≤ (xR X).cells + h.2.length) (hs : slots + sl h1.2 ≤ (xR X).slots + sl h.2) (K : KK X ad cells slots pc' ls' st' h h1) : TT X ad cells slots pc ls st h := by
  unfold rs at hrs
  dsimp only at hrs
  split at hrs
  case isFalse => cases hrs
  rename_i hl
  subst hl
  cases hrs
  have hp2 := ps_at (f := p16) rfl hp
  unfold p16 at hp2
  split at hp2
  case h_2 => cases hp2
  rename_i y x r
  split at hp2
  case h_2 => cases hp2
  rename_i z hz
  cases hp2
  have hz2 : (some (Int32.ofInt x &&& Int32.ofInt y).toInt) = some z := hz
  cases hz2
  exact am_iand hX hd (K.same rfl rfl)
theorem s_ior (hX : CX X) (hr : 1 ≤ m_fr (xm X) ∧ 40 ≤ m_lo (xm X)) (hd : decode (m_cd (xm X)) pc = .ok (.ior, len)) (hrs : rs (xm X) pc len (.ior) = some (op, a, b, tb)) (hp : pstep op a b tb (pc + len) ls st h = some (pc', ls', st', h1)) (hst : okL st) (hc : cells + h1.2.length ≤ (xR X).cells + h.2.length) (hs : slots + sl h1.2 ≤ (xR X).slots + sl h.2) (K : KK X ad cells slots pc' ls' st' h h1) : TT X ad cells slots pc ls st h := by
  unfold rs at hrs
  dsimp only at hrs
  split at hrs
  case isFalse => cases hrs
  rename_i hl
  subst hl
  cases hrs
  have hp2 := ps_at (f := p16) rfl hp
  unfold p16 at hp2
  split at hp2
  case h_2 => cases hp2
  rename_i y x r
  split at hp2
  case h_2 => cases hp2
  rename_i z hz
  cases hp2
  have hz2 : (some (Int32.ofInt x ||| Int32.ofInt y).toInt) = some z := hz
  cases hz2
  exact am_ior hX hd (K.same rfl rfl)
theorem s_ixor (hX : CX X) (hr : 1 ≤ m_fr (xm X) ∧ 40 ≤ m_lo (xm X)) (hd : decode (m_cd (xm X)) pc = .ok (.ixor, len)) (hrs : rs (xm X) pc len (.ixor) = some (op, a, b, tb)) (hp : pstep op a b tb (pc + len) ls st h = some (pc', ls', st', h1)) (hst : okL st) (hc : cells + h1.2.length ≤ (xR X).cells + h.2.length) (hs : slots + sl h1.2 ≤ (xR X).slots + sl h.2) (K : KK X ad cells slots pc' ls' st' h h1) : TT X ad cells slots pc ls st h := by
  unfold rs at hrs
  dsimp only at hrs
  split at hrs
  case isFalse => cases hrs
  rename_i hl
  subst hl
  cases hrs
  have hp2 := ps_at (f := p16) rfl hp
  unfold p16 at hp2
  split at hp2
  case h_2 => cases hp2
  rename_i y x r
  split at hp2
  case h_2 => cases hp2
  rename_i z hz
  cases hp2
  have hz2 : (some (Int32.ofInt x ^^^ Int32.ofInt y).toInt) = some z := hz
  cases hz2
  exact am_ixor hX hd (K.same rfl rfl)
theorem s_i2b  (hX : CX X) (hr : 1 ≤ m_fr (xm X) ∧ 40 ≤ m_lo (xm X)) (hd : decode (m_cd (xm X)) pc = .ok (.i2b, len)) (hrs : rs (xm X) pc len (.i2b) = some (op, a, b, tb)) (hp : pstep op a b tb (pc + len) ls st h = some (pc', ls', st', h1)) (hst : okL st) (hc : cells + h1.2.length ≤ (xR X).cells + h.2.length) (hs : slots + sl h1.2 ≤ (xR X).slots + sl h.2) (K : KK X ad cells slots pc' ls' st' h h1) : TT X ad cells slots pc ls st h := by
  unfold rs at hrs
  dsimp only at hrs
  split at hrs
  case isFalse => cases hrs
  rename_i hl
  subst hl
  cases hrs
  have hp2 := ps_at (f := p17) rfl hp
  unfold p17 at hp2
  (try dsimp only at hp2)
  (repeat' split at hp2)
  all_goals first
    | (cases hp2; done)
    | (cases hp2; exact am_i2b hX hd (by omega) (by omega) (K.same rfl rfl))
theorem s_i2l  (hX : CX X) (hr : 1 ≤ m_fr (xm X) ∧ 40 ≤ m_lo (xm X)) (hd : decode (m_cd (xm X)) pc = .ok (.i2l, len)) (hrs : rs (xm X) pc len (.i2l) = some (op, a, b, tb)) (hp : pstep op a b tb (pc + len) ls st h = some (pc', ls', st', h1)) (hst : okL st) (hc : cells + h1.2.length ≤ (xR X).cells + h.2.length) (hs : slots + sl h1.2 ≤ (xR X).slots + sl h.2) (K : KK X ad cells slots pc' ls' st' h h1) : TT X ad cells slots pc ls st h := by
  unfold rs at hrs
  dsimp only at hrs
  split at hrs
  case isFalse => cases hrs
  rename_i hl
  subst hl
  cases hrs
  have hp2 := ps_at (f := p18) rfl hp
  unfold p18 at hp2
  (try dsimp only at hp2)
  (repeat' split at hp2)
  all_goals first
    | (cases hp2; done)
    | (cases hp2; exact am_i2l hX hd (okv_i hst) (K.same rfl rfl))
theorem s_lcmp (hX : CX X) (hr : 1 ≤ m_fr (xm X) ∧ 40 ≤ m_lo (xm X)) (hd : decode (m_cd (xm X)) pc = .ok (.lcmp, len)) (hrs : rs (xm X) pc len (.lcmp) = some (op, a, b, tb)) (hp : pstep op a b tb (pc + len) ls st h = some (pc', ls', st', h1)) (hst : okL st) (hc : cells + h1.2.length ≤ (xR X).cells + h.2.length) (hs : slots + sl h1.2 ≤ (xR X).slots + sl h.2) (K : KK X ad cells slots pc' ls' st' h h1) : TT X ad cells slots pc ls st h := by
  unfold rs at hrs
  dsimp only at hrs
  split at hrs
  case isFalse => cases hrs
  rename_i hl
  subst hl
  cases hrs
  have hp2 := ps_at (f := p19) rfl hp
  unfold p19 at hp2
  split at hp2
  case h_2 => cases hp2
  cases hp2
  exact am_lcmp hX hd (okv_l (okv_t hst)) (okv_l hst) (K.same rfl rfl)
theorem s_ifCond {c0 : Jvm.ClassFile.Cond} {off : Int} (hX : CX X) (hr : 1 ≤ m_fr (xm X) ∧ 40 ≤ m_lo (xm X)) (hd : decode (m_cd (xm X)) pc = .ok (.ifCond c0 off, len)) (hrs : rs (xm X) pc len (.ifCond c0 off) = some (op, a, b, tb)) (hp : pstep op a b tb (pc + len) ls st h = some (pc', ls', st', h1)) (hst : okL st) (hc : cells + h1.2.length ≤ (xR X).cells + h.2.length) (hs : slots + sl h1.2 ≤ (xR X).slots + sl h.2) (K : KK X ad cells slots pc' ls' st' h h1) : TT X ad cells slots pc ls st h := by
  unfold rs at hrs
  dsimp only at hrs
  split at hrs
  case isFalse => cases hrs
  rename_i hl
  obtain ⟨rfl, hl2⟩ := hl
  cases hrs
  have hp2 := ps_at (f := p20) rfl hp
  unfold p20 at hp2
  split at hp2
  case h_2 => cases hp2
  cases hp2
  exact am_if hX hd hl2 (okv_i hst) (K.same rfl rfl)
theorem s_icmp {c0 : Jvm.ClassFile.Cond} {off : Int} (hX : CX X) (hr : 1 ≤ m_fr (xm X) ∧ 40 ≤ m_lo (xm X)) (hd : decode (m_cd (xm X)) pc = .ok (.if_icmp c0 off, len)) (hrs : rs (xm X) pc len (.if_icmp c0 off) = some (op, a, b, tb)) (hp : pstep op a b tb (pc + len) ls st h = some (pc', ls', st', h1)) (hst : okL st) (hc : cells + h1.2.length ≤ (xR X).cells + h.2.length) (hs : slots + sl h1.2 ≤ (xR X).slots + sl h.2) (K : KK X ad cells slots pc' ls' st' h h1) : TT X ad cells slots pc ls st h := by
  unfold rs at hrs
  dsimp only at hrs
  split at hrs
  case isFalse => cases hrs
  rename_i hl
  obtain ⟨rfl, hl2⟩ := hl
  cases hrs
  have hp2 := ps_at (f := p21) rfl hp
  unfold p21 at hp2
  split at hp2
  case h_2 => cases hp2
  cases hp2
  exact am_icmp hX hd hl2 (okv_i (okv_t hst)) (okv_i hst) (K.same rfl rfl)
theorem s_goto {off : Int} (hX : CX X) (hr : 1 ≤ m_fr (xm X) ∧ 40 ≤ m_lo (xm X)) (hd : decode (m_cd (xm X)) pc = .ok (.goto off, len)) (hrs : rs (xm X) pc len (.goto off) = some (op, a, b, tb)) (hp : pstep op a b tb (pc + len) ls st h = some (pc', ls', st', h1)) (hst : okL st) (hc : cells + h1.2.length ≤ (xR X).cells + h.2.length) (hs : slots + sl h1.2 ≤ (xR X).slots + sl h.2) (K : KK X ad cells slots pc' ls' st' h h1) : TT X ad cells slots pc ls st h := by
  unfold rs at hrs
  dsimp only at hrs
  split at hrs
  case isFalse => cases hrs
  rename_i hl
  obtain ⟨rfl, hl2⟩ := hl
  cases hrs
  cases hp
  exact am_goto hX hd hl2 (K.same rfl rfl)
theorem s_table {d lo hi : Int} {offs : Array Int} (hX : CX X) (hr : 1 ≤ m_fr (xm X) ∧ 40 ≤ m_lo (xm X)) (hd : decode (m_cd (xm X)) pc = .ok (.tableswitch d lo hi offs, len)) (hrs : rs (xm X) pc len (.tableswitch d lo hi offs) = some (op, a, b, tb)) (hp : pstep op a b tb (pc + len) ls st h = some (pc', ls', st', h1)) (hst : okL st) (hc : cells + h1.2.length ≤ (xR X).cells + h.2.length) (hs : slots + sl h1.2 ≤ (xR X).slots + sl h.2) (K : KK X ad cells slots pc' ls' st' h h1) : TT X ad cells slots pc ls st h := by
  unfold rs at hrs
  dsimp only at hrs
  split at hrs
  case isFalse => cases hrs
  rename_i hl
  cases hrs
  have hp2 := ps_at (f := p23) rfl hp
  unfold p23 at hp2
  split at hp2
  case h_2 => cases hp2
  cases hp2
  exact am_table hX hd hl.1 hl.2.1 hl.2.2 (okv_i hst) (K.same rfl rfl)
theorem s_lookup {d : Int} {ps : Array (Int × Int)} (hX : CX X) (hr : 1 ≤ m_fr (xm X) ∧ 40 ≤ m_lo (xm X)) (hd : decode (m_cd (xm X)) pc = .ok (.lookupswitch d ps, len)) (hrs : rs (xm X) pc len (.lookupswitch d ps) = some (op, a, b, tb)) (hp : pstep op a b tb (pc + len) ls st h = some (pc', ls', st', h1)) (hst : okL st) (hc : cells + h1.2.length ≤ (xR X).cells + h.2.length) (hs : slots + sl h1.2 ≤ (xR X).slots + sl h.2) (K : KK X ad cells slots pc' ls' st' h h1) : TT X ad cells slots pc ls st h := by
  unfold rs at hrs
  dsimp only at hrs
  split at hrs
  case isFalse => cases hrs
  rename_i hl
  cases hrs
  have hp2 := ps_at (f := p23) rfl hp
  unfold p23 at hp2
  split at hp2
  case h_2 => cases hp2
  cases hp2
  exact am_lookup hX hd hl.1 hl.2.1 hl.2.2 (okv_i hst) (K.same rfl rfl)
theorem s_dup (hX : CX X) (hr : 1 ≤ m_fr (xm X) ∧ 40 ≤ m_lo (xm X)) (hd : decode (m_cd (xm X)) pc = .ok (.dup, len)) (hrs : rs (xm X) pc len (.dup) = some (op, a, b, tb)) (hp : pstep op a b tb (pc + len) ls st h = some (pc', ls', st', h1)) (hst : okL st) (hc : cells + h1.2.length ≤ (xR X).cells + h.2.length) (hs : slots + sl h1.2 ≤ (xR X).slots + sl h.2) (K : KK X ad cells slots pc' ls' st' h h1) : TT X ad cells slots pc ls st h := by
  unfold rs at hrs
  dsimp only at hrs
  split at hrs
  case isFalse => cases hrs
  rename_i hl
  subst hl
  cases hrs
  have hp2 := ps_at (f := p24) rfl hp
  unfold p24 at hp2
  split at hp2
  · cases hp2
    exact am_dupI hX hd (K.same rfl rfl)
  · cases hp2
    exact am_dupR hX hd (K.same rfl rfl)
  · cases hp2
theorem s_dup2  (hX : CX X) (hr : 1 ≤ m_fr (xm X) ∧ 40 ≤ m_lo (xm X)) (hd : decode (m_cd (xm X)) pc = .ok (.dup2, len)) (hrs : rs (xm X) pc len (.dup2) = some (op, a, b, tb)) (hp : pstep op a b tb (pc + len) ls st h = some (pc', ls', st', h1)) (hst : okL st) (hc : cells + h1.2.length ≤ (xR X).cells + h.2.length) (hs : slots + sl h1.2 ≤ (xR X).slots + sl h.2) (K : KK X ad cells slots pc' ls' st' h h1) : TT X ad cells slots pc ls st h := by
  unfold rs at hrs
  dsimp only at hrs
  split at hrs
  case isFalse => cases hrs
  rename_i hl
  subst hl
  cases hrs
  have hp2 := ps_at (f := p25) rfl hp
  unfold p25 at hp2
  (try dsimp only at hp2)
  (repeat' split at hp2)
  all_goals first
    | (cases hp2; done)
    | (cases hp2; exact am_dup2 hX hd (K.same rfl rfl))
theorem s_pop  (hX : CX X) (hr : 1 ≤ m_fr (xm X) ∧ 40 ≤ m_lo (xm X)) (hd : decode (m_cd (xm X)) pc = .ok (.pop, len)) (hrs : rs (xm X) pc len (.pop) = some (op, a, b, tb)) (hp : pstep op a b tb (pc + len) ls st h = some (pc', ls', st', h1)) (hst : okL st) (hc : cells + h1.2.length ≤ (xR X).cells + h.2.length) (hs : slots + sl h1.2 ≤ (xR X).slots + sl h.2) (K : KK X ad cells slots pc' ls' st' h h1) : TT X ad cells slots pc ls st h := by
  unfold rs at hrs
  dsimp only at hrs
  split at hrs
  case isFalse => cases hrs
  rename_i hl
  subst hl
  cases hrs
  have hp2 := ps_at (f := p26) rfl hp
  unfold p26 at hp2
  (try dsimp only at hp2)
  (repeat' split at hp2)
  all_goals first
    | (cases hp2; done)
    | (cases hp2; exact am_pop hX hd (K.same rfl rfl))
theorem s_new {ix : Nat} (hX : CX X) (hr : 1 ≤ m_fr (xm X) ∧ 40 ≤ m_lo (xm X)) (hd : decode (m_cd (xm X)) pc = .ok (.new ix, len)) (hrs : rs (xm X) pc len (.new ix) = some (op, a, b, tb)) (hp : pstep op a b tb (pc + len) ls st h = some (pc', ls', st', h1)) (hst : okL st) (hc : cells + h1.2.length ≤ (xR X).cells + h.2.length) (hs : slots + sl h1.2 ≤ (xR X).slots + sl h.2) (K : KK X ad cells slots pc' ls' st' h h1) : TT X ad cells slots pc ls st h := by
  unfold rs at hrs
  dsimp only at hrs
  split at hrs
  case isFalse => cases hrs
  rename_i hl
  subst hl
  split at hrs
  case h_2 => cases hrs
  rename_i q hf
  obtain ⟨v, wi⟩ := q
  split at hrs
  case isFalse => cases hrs
  rename_i hci
  cases hrs
  have hp2 := ps_at (f := p27) rfl hp
  unfold p27 at hp2
  split at hp2
  case isFalse => cases hp2
  rename_i hg
  obtain ⟨g1, g2, g3, g4⟩ := hg
  cases hp2
  simp only [List.length_append, List.length_cons, List.length_nil, sl_app] at hc hs
  have e : sl [(v, (nF v : Int).toNat, List.replicate (nF v : Int).toNat 3000)] = nF v := by simp [sl]
  rw [e] at hs
  refine am_new hX hd hf hci g1 g2 g3 g4 (by omega) (by omega) (fun ad' ha => K ad' _ _ (fun o ho => ha o (by simp at ho; omega)) (by simp; omega) (by rw [sl_app, e]; omega))
theorem s_newarr100 (hX : CX X) (hr : 1 ≤ m_fr (xm X) ∧ 40 ≤ m_lo (xm X)) (hd : decode (m_cd (xm X)) pc = .ok (.newarray .int, len)) (hrs : rs (xm X) pc len (.newarray .int) = some (op, a, b, tb)) (hp : pstep op a b tb (pc + len) ls st h = some (pc', ls', st', h1)) (hst : okL st) (hc : cells + h1.2.length ≤ (xR X).cells + h.2.length) (hs : slots + sl h1.2 ≤ (xR X).slots + sl h.2) (K : KK X ad cells slots pc' ls' st' h h1) : TT X ad cells slots pc ls st h := by
  unfold rs at hrs
  dsimp only at hrs
  split at hrs
  case isFalse => cases hrs
  rename_i hl
  subst hl
  cases hrs
  have hp2 := ps_at (f := p28) rfl hp
  unfold p28 at hp2
  split at hp2
  case h_2 => cases hp2
  rename_i n r
  split at hp2
  case isFalse => cases hp2
  rename_i hg
  obtain ⟨g1, g2, g3, g4, g5, g6⟩ := hg
  cases hp2
  simp only [List.length_append, List.length_cons, List.length_nil, sl_app] at hc hs
  have e : sl [((100 : Nat), n.toNat, ([] : List Nat))] = n.toNat := by simp [sl]
  rw [e] at hs
  refine am_newI hX hd g1 g2 g3 g4 g5 g6 (by omega) (by omega) (fun ad' ha => K ad' _ _ (fun o ho => ha o (by simp at ho; omega)) (by simp; omega) (by rw [sl_app, e]; omega))
theorem s_newarr101 (hX : CX X) (hr : 1 ≤ m_fr (xm X) ∧ 40 ≤ m_lo (xm X)) (hd : decode (m_cd (xm X)) pc = .ok (.newarray .byte, len)) (hrs : rs (xm X) pc len (.newarray .byte) = some (op, a, b, tb)) (hp : pstep op a b tb (pc + len) ls st h = some (pc', ls', st', h1)) (hst : okL st) (hc : cells + h1.2.length ≤ (xR X).cells + h.2.length) (hs : slots + sl h1.2 ≤ (xR X).slots + sl h.2) (K : KK X ad cells slots pc' ls' st' h h1) : TT X ad cells slots pc ls st h := by
  unfold rs at hrs
  dsimp only at hrs
  split at hrs
  case isFalse => cases hrs
  rename_i hl
  subst hl
  cases hrs
  have hp2 := ps_at (f := p28) rfl hp
  unfold p28 at hp2
  split at hp2
  case h_2 => cases hp2
  rename_i n r
  split at hp2
  case isFalse => cases hp2
  rename_i hg
  obtain ⟨g1, g2, g3, g4, g5, g6⟩ := hg
  cases hp2
  simp only [List.length_append, List.length_cons, List.length_nil, sl_app] at hc hs
  have e : sl [((101 : Nat), n.toNat, ([] : List Nat))] = n.toNat := by simp [sl]
  rw [e] at hs
  refine am_newB hX hd g1 g2 g3 g4 g5 g6 (by omega) (by omega) (fun ad' ha => K ad' _ _ (fun o ho => ha o (by simp at ho; omega)) (by simp; omega) (by rw [sl_app, e]; omega))
theorem s_anew {ix : Nat} (hX : CX X) (hr : 1 ≤ m_fr (xm X) ∧ 40 ≤ m_lo (xm X)) (hd : decode (m_cd (xm X)) pc = .ok (.anewarray ix, len)) (hrs : rs (xm X) pc len (.anewarray ix) = some (op, a, b, tb)) (hp : pstep op a b tb (pc + len) ls st h = some (pc', ls', st', h1)) (hst : okL st) (hc : cells + h1.2.length ≤ (xR X).cells + h.2.length) (hs : slots + sl h1.2 ≤ (xR X).slots + sl h.2) (K : KK X ad cells slots pc' ls' st' h h1) : TT X ad cells slots pc ls st h := by
  unfold rs at hrs
  dsimp only at hrs
  split at hrs
  case isFalse => cases hrs
  rename_i hl
  subst hl
  split at hrs
  case h_2 => cases hrs
  rename_i q hf
  obtain ⟨v, wi⟩ := q
  split at hrs
  case isFalse => cases hrs
  rename_i hci
  have hci2 : v = 8 := hci
  subst hci2
  cases hrs
  have hp2 := ps_at (f := p29) rfl hp
  unfold p29 at hp2
  split at hp2
  case h_2 => cases hp2
  rename_i n r
  split at hp2
  case isFalse => cases hp2
  rename_i hg
  obtain ⟨g1, g2, g3, g4, g5, g6⟩ := hg
  cases hp2
  simp only [List.length_append, List.length_cons, List.length_nil, sl_app] at hc hs
  have e : sl [((103 : Nat), n.toNat, List.replicate n.toNat 3000)] = n.toNat := by simp [sl]
  rw [e] at hs
  refine am_newR hX hd hf g1 g2 g3 g4 g5 g6 (by omega) (by omega) (fun ad' ha => K ad' _ _ (fun o ho => ha o (by simp at ho; omega)) (by simp; omega) (by rw [sl_app, e]; omega))
theorem s_mna {ix d : Nat} (hX : CX X) (hr : 1 ≤ m_fr (xm X) ∧ 40 ≤ m_lo (xm X)) (hd : decode (m_cd (xm X)) pc = .ok (.multianewarray ix d, len)) (hrs : rs (xm X) pc len (.multianewarray ix d) = some (op, a, b, tb)) (hp : pstep op a b tb (pc + len) ls st h = some (pc', ls', st', h1)) (hst : okL st) (hc : cells + h1.2.length ≤ (xR X).cells + h.2.length) (hs : slots + sl h1.2 ≤ (xR X).slots + sl h.2) (K : KK X ad cells slots pc' ls' st' h h1) : TT X ad cells slots pc ls st h := by
  unfold rs at hrs
  dsimp only at hrs
  split at hrs
  case isFalse => cases hrs
  rename_i hl
  obtain ⟨rfl, rfl⟩ := hl
  split at hrs
  case h_2 => cases hrs
  rename_i q hf
  obtain ⟨v, wi⟩ := q
  split at hrs
  case isFalse => cases hrs
  rename_i hci
  have hci2 : v = 102 := hci
  subst hci2
  cases hrs
  have hp2 := ps_at (f := p30) rfl hp
  unfold p30 at hp2
  split at hp2
  case h_2 => cases hp2
  rename_i k n r
  split at hp2
  case isFalse => cases hp2
  rename_i hg
  obtain ⟨g1, g2, g3, g4, g5, g6, g7, g8⟩ := hg
  cases hp2
  have e1 : sl [((102 : Nat), n.toNat, (List.range n.toNat).map (fun i => h.2.length + 1 + i))] = n.toNat := by simp [sl]
  have e2 : sl (List.replicate n.toNat ((100 : Nat), k.toNat, ([] : List Nat))) = n.toNat * k.toNat := by simp [sl]
  simp only [List.length_append, List.length_cons, List.length_nil, List.length_replicate, sl_app, e1, e2] at hc hs
  refine am_mna hX hd hf g1 g2 g3 g4 g5 g6 g7 g8 (by omega) (by omega) (fun ad' ha => K ad' _ _ (fun o ho => ha o (by simp at ho; omega)) (by simp; omega) (by rw [sl_app, sl_app, e1, e2]; omega))
end STEP
end
section
/-! the rest of one step: the JDK's few, all instructions together; what a run leaves as it is -/
def okPS (f : PF) : Prop := ∀ {a : Nat} {b : Int} {tb : List (Int × Nat)} {np pc' : Nat} {ls st ls' st' : List AV} {h h' : AH}, f a b tb np ls st h = some (pc', ls', st', h') → h.2.length ≤ 1000 → h'.2.length ≤ 1000 ∧ ∀ o k, 1000 ≤ o → h'.1 o k = h.1 o k
theorem lt_of_get {S : List AO} {o : Nat} {q : AO} (h : S[o]? = some q) : o < S.length := (List.getElem?_eq_some_iff.mp h).1
theorem ps_p0 : okPS p0 := by
  intro a b tb np pc' ls st ls' st' h h' e hl
  unfold p0 at e
  (try dsimp only at e)
  (repeat' split at e)
  all_goals first
    | (cases e; done)
    | (cases e; exact ⟨hl, fun _ _ _ => rfl⟩)
theorem ps_p1 : okPS p1 := by
  intro a b tb np pc' ls st ls' st' h h' e hl
  unfold p1 at e
  (try dsimp only at e)
  (repeat' split at e)
  all_goals first
    | (cases e; done)
    | (cases e; exact ⟨hl, fun _ _ _ => rfl⟩)
theorem ps_p2 : okPS p2 := by
  intro a b tb np pc' ls st ls' st' h h' e hl
  unfold p2 at e
  (try dsimp only at e)
  (repeat' split at e)
  all_goals first
    | (cases e; done)
    | (cases e; exact ⟨hl, fun _ _ _ => rfl⟩)
theorem ps_p3 : okPS p3 := by
  intro a b tb np pc' ls st ls' st' h h' e hl
  unfold p3 at e
  (try dsimp only at e)
  (repeat' split at e)
  all_goals first
    | (cases e; done)
    | (cases e; exact ⟨hl, fun _ _ _ => rfl⟩)
theorem ps_p4 : okPS p4 := by
  intro a b tb np pc' ls st ls' st' h h' e hl
  unfold p4 at e
  (try dsimp only at e)
  (repeat' split at e)
  all_goals first
    | (cases e; done)
    | (cases e; exact ⟨hl, fun _ _ _ => rfl⟩)
theorem ps_p5 : okPS p5 := by
  intro a b tb np pc' ls st ls' st' h h' e hl
  unfold p5 at e
  (try dsimp only at e)
  (repeat' split at e)
  all_goals first
    | (cases e; done)
    | (cases e; exact ⟨hl, fun _ _ _ => rfl⟩)
theorem ps_p6 : okPS p6 := by
  intro a b tb np pc' ls st ls' st' h h' e hl
  unfold p6 at e
  (try dsimp only at e)
  (repeat' split at e)
  all_goals first
    | (cases e; done)
    | (cases e; exact ⟨hl, fun _ _ _ => rfl⟩)
theorem ps_p7 : okPS p7 := by
  intro a b tb np pc' ls st ls' st' h h' e hl
  unfold p7 at e
  (try dsimp only at e)
  (repeat' split at e)
  all_goals first
    | (cases e; done)
    | (cases e; exact ⟨hl, fun _ _ _ => rfl⟩)
theorem ps_p8 : okPS p8 := by
  intro a b tb np pc' ls st ls' st' h h' e hl
  unfold p8 at e
  (try dsimp only at e)
  (repeat' split at e)
  all_goals first
    | (cases e; done)
    | (cases e; exact ⟨hl, fun _ _ _ => rfl⟩)
theorem ps_p9 : okPS p9 := by
  intro a b tb np pc' ls st ls' st' h h' e hl
  unfold p9 at e
  (try dsimp only at e)
  (repeat' split at e)
  all_goals first
    | (cases e; done)
    | (cases e; exact ⟨hl, fun o k ho => if_neg (fun y => by have := lt_of_get (by assumption); omega)⟩)
    | (cases e; (rename_i hq _; have := lt_of_get hq; exact ⟨hl, fun o k ho => if_neg (fun y => by omega)⟩))
theorem ps_p10 : okPS p10 := by
  intro a b tb np pc' ls st ls' st' h h' e hl
  unfold p10 at e
  (try dsimp only at e)
  (repeat' split at e)
  all_goals first
    | (cases e; done)
    | (cases e; exact ⟨by simpa using hl, fun _ _ _ => rfl⟩)
theorem ps_p11 : okPS p11 := by
  intro a b tb np pc' ls st ls' st' h h' e hl
  unfold p11 at e
  (try dsimp only at e)
  (repeat' split at e)
  all_goals first
    | (cases e; done)
    | (cases e; exact ⟨hl, fun _ _ _ => rfl⟩)
theorem ps_p12 : okPS p12 := by
  intro a b tb np pc' ls st ls' st' h h' e hl
  unfold p12 at e
  (try dsimp only at e)
  (repeat' split at e)
  all_goals first
    | (cases e; done)
    | (cases e; exact ⟨hl, fun _ _ _ => rfl⟩)
theorem ps_p13 : okPS p13 := by
  intro a b tb np pc' ls st ls' st' h h' e hl
  unfold p13 at e
  (try dsimp only at e)
  (repeat' split at e)
  all_goals first
    | (cases e; done)
    | (cases e; exact ⟨hl, fun o k ho => if_neg (fun y => by have := lt_of_get (by assumption); omega)⟩)
    | (cases e; (rename_i hq _; have := lt_of_get hq; exact ⟨hl, fun o k ho => if_neg (fun y => by omega)⟩))
theorem ps_p14 : okPS p14 := by
  intro a b tb np pc' ls st ls' st' h h' e hl
  unfold p14 at e
  (try dsimp only at e)
  (repeat' split at e)
  all_goals first
    | (cases e; done)
    | (cases e; exact ⟨by simpa using hl, fun _ _ _ => rfl⟩)
theorem ps_p15 : okPS p15 := by
  intro a b tb np pc' ls st ls' st' h h' e hl
  unfold p15 at e
  (try dsimp only at e)
  (repeat' split at e)
  all_goals first
    | (cases e; done)
    | (cases e; exact ⟨hl, fun _ _ _ => rfl⟩)
theorem ps_p16 : okPS p16 := by
  intro a b tb np pc' ls st ls' st' h h' e hl
  unfold p16 at e
  (try dsimp only at e)
  (repeat' split at e)
  all_goals first
    | (cases e; done)
    | (cases e; exact ⟨hl, fun _ _ _ => rfl⟩)
theorem ps_p17 : okPS p17 := by
  intro a b tb np pc' ls st ls' st' h h' e hl
  unfold p17 at e
  (try dsimp only at e)
  (repeat' split at e)
  all_goals first
    | (cases e; done)
    | (cases e; exact ⟨hl, fun _ _ _ => rfl⟩)
theorem ps_p18 : okPS p18 := by
  intro a b tb np pc' ls st ls' st' h h' e hl
  unfold p18 at e
  (try dsimp only at e)
  (repeat' split at e)
  all_goals first
    | (cases e; done)
    | (cases e; exact ⟨hl, fun _ _ _ => rfl⟩)
theorem ps_p19 : okPS p19 := by
  intro a b tb np pc' ls st ls' st' h h' e hl
  unfold p19 at e
  (try dsimp only at e)
  (repeat' split at e)
  all_goals first
    | (cases e; done)
    | (cases e; exact ⟨hl, fun _ _ _ => rfl⟩)
theorem ps_p20 : okPS p20 := by
  intro a b tb np pc' ls st ls' st' h h' e hl
  unfold p20 at e
  (try dsimp only at e)
  (repeat' split at e)
  all_goals first
    | (cases e; done)
    | (cases e; exact ⟨hl, fun _ _ _ => rfl⟩)
theorem ps_p21 : okPS p21 := by
  intro a b tb np pc' ls st ls' st' h h' e hl
  unfold p21 at e
  (try dsimp only at e)
  (repeat' split at e)
  all_goals first
    | (cases e; done)
    | (cases e; exact ⟨hl, fun _ _ _ => rfl⟩)
theorem ps_p22 : okPS p22 := by
  intro a b tb np pc' ls st ls' st' h h' e hl
  unfold p22 at e
  (try dsimp only at e)
  (repeat' split at e)
  all_goals first
    | (cases e; done)
    | (cases e; exact ⟨hl, fun _ _ _ => rfl⟩)
theorem ps_p23 : okPS p23 := by
  intro a b tb np pc' ls st ls' st' h h' e hl
  unfold p23 at e
  (try dsimp only at e)
  (repeat' split at e)
  all_goals first
    | (cases e; done)
    | (cases e; exact ⟨hl, fun _ _ _ => rfl⟩)
theorem ps_p24 : okPS p24 := by
  intro a b tb np pc' ls st ls' st' h h' e hl
  unfold p24 at e
  (try dsimp only at e)
  (repeat' split at e)
  all_goals first
    | (cases e; done)
    | (cases e; exact ⟨hl, fun _ _ _ => rfl⟩)
theorem ps_p25 : okPS p25 := by
  intro a b tb np pc' ls st ls' st' h h' e hl
  unfold p25 at e
  (try dsimp only at e)
  (repeat' split at e)
  all_goals first
    | (cases e; done)
    | (cases e; exact ⟨hl, fun _ _ _ => rfl⟩)
theorem ps_p26 : okPS p26 := by
  intro a b tb np pc' ls st ls' st' h h' e hl
  unfold p26 at e
  (try dsimp only at e)
  (repeat' split at e)
  all_goals first
    | (cases e; done)
    | (cases e; exact ⟨hl, fun _ _ _ => rfl⟩)
theorem ps_p27 : okPS p27 := by
  intro a b tb np pc' ls st ls' st' h h' e hl
  unfold p27 at e
  (try dsimp only at e)
  (repeat' split at e)
  all_goals first
    | (cases e; done)
    | (cases e; exact ⟨by simp; omega, fun o k ho => clr_old (Or.inr ho) k⟩)
theorem ps_p28 : okPS p28 := by
  intro a b tb np pc' ls st ls' st' h h' e hl
  unfold p28 at e
  (try dsimp only at e)
  (repeat' split at e)
  all_goals first
    | (cases e; done)
    | (cases e; exact ⟨by simp; omega, fun o k ho => clr_old (Or.inr ho) k⟩)
theorem ps_p29 : okPS p29 := by
  intro a b tb np pc' ls st ls' st' h h' e hl
  unfold p29 at e
  (try dsimp only at e)
  (repeat' split at e)
  all_goals first
    | (cases e; done)
    | (cases e; exact ⟨by simp; omega, fun o k ho => clr_old (Or.inr ho) k⟩)
theorem ps_p30 : okPS p30 := by
  intro a b tb np pc' ls st ls' st' h h' e hl
  unfold p30 at e
  (try dsimp only at e)
  (repeat' split at e)
  all_goals first
    | (cases e; done)
    | (cases e; exact ⟨by simp; omega, fun o k ho => clr_old (Or.inr ho) k⟩)
theorem ps_p31 : okPS p31 := by
  intro a b tb np pc' ls st ls' st' h h' e hl
  unfold p31 at e
  (try dsimp only at e)
  (repeat' split at e)
  all_goals first
    | (cases e; done)
    | (cases e; exact ⟨hl, fun _ _ _ => rfl⟩)
theorem ps_p32 : okPS p32 := by
  intro a b tb np pc' ls st ls' st' h h' e hl
  unfold p32 at e
  (try dsimp only at e)
  (repeat' split at e)
  all_goals first
    | (cases e; done)
    | (cases e; exact ⟨hl, fun _ _ _ => rfl⟩)
theorem ps_p33 : okPS p33 := by
  intro a b tb np pc' ls st ls' st' h h' e hl
  unfold p33 at e
  (try dsimp only at e)
  (repeat' split at e)
  all_goals first
    | (cases e; done)
    | (cases e; exact ⟨hl, fun _ _ _ => rfl⟩)
theorem ps_p34 : okPS p34 := by
  intro a b tb np pc' ls st ls' st' h h' e hl
  unfold p34 at e
  (try dsimp only at e)
  (repeat' split at e)
  all_goals first
    | (cases e; done)
    | (cases e; (rename_i hq _; have := lt_of_get hq; exact ⟨hl, fun o k ho => if_neg (fun y => by omega)⟩))
theorem ps_p35 : okPS p35 := by
  intro a b tb np pc' ls st ls' st' h h' e hl
  unfold p35 at e
  (try dsimp only at e)
  (repeat' split at e)
  all_goals first
    | (cases e; done)
    | (cases e; exact ⟨hl, fun _ _ _ => rfl⟩)
theorem ps_p36 : okPS p36 := by
  intro a b tb np pc' ls st ls' st' h h' e hl
  unfold p36 at e
  (try dsimp only at e)
  (repeat' split at e)
  all_goals first
    | (cases e; done)
    | (cases e; exact ⟨hl, fun _ _ _ => rfl⟩)
theorem ps_p37 : okPS p37 := by
  intro a b tb np pc' ls st ls' st' h h' e hl
  unfold p37 at e
  (try dsimp only at e)
  (repeat' split at e)
  all_goals first
    | (cases e; done)
    | (cases e; exact ⟨hl, fun _ _ _ => rfl⟩)
theorem pfs_ps : ∀ f ∈ pfs, okPS f := by
  unfold pfs
  simp only [List.forall_mem_cons]
  exact ⟨ps_p0, ps_p1, ps_p2, ps_p3, ps_p4, ps_p5, ps_p6, ps_p7, ps_p8, ps_p9, ps_p10, ps_p11, ps_p12, ps_p13, ps_p14, ps_p15, ps_p16, ps_p17, ps_p18, ps_p19, ps_p20, ps_p21, ps_p22, ps_p23, ps_p24, ps_p25, ps_p26, ps_p27, ps_p28, ps_p29, ps_p30, ps_p31, ps_p32, ps_p33, ps_p34, ps_p35, ps_p36, ps_p37, fun f h => absurd h List.not_mem_nil⟩
theorem pstep_ps {op a : Nat} {b : Int} {tb : List (Int × Nat)} {np pc' : Nat} {ls st ls' st' : List AV} {h h' : AH} (e : pstep op a b tb np ls st h = some (pc', ls', st', h')) (hl : h.2.length ≤ 1000) : h'.2.length ≤ 1000 ∧ ∀ o k, 1000 ≤ o → h'.1 o k = h.1 o k := by
  unfold pstep at e
  split at e
  · rename_i f hf
    exact pfs_ps f (List.mem_of_getElem? hf) e hl
  · cases e
theorem arun_ps : ∀ (f m pc : Nat) (ls st : List AV) (h : AH) (v : Option AV) (h' : AH), arun f m pc ls st h = some (v, h') → h.2.length ≤ 1000 → h'.2.length ≤ 1000 ∧ ∀ o k, 1000 ≤ o → h'.1 o k = h.1 o k := by
  intro f
  induction f with
  | zero => intro m pc ls st h v h' e; cases e
  | succ f ih =>
    intro m pc ls st h v h' e hl
    unfold arun at e
    split at e
    · cases e
    · split at e
      · split at e
        · cases e
        · rename_i hp
          obtain ⟨a1, a2⟩ := pstep_ps hp hl
          obtain ⟨b1, b2⟩ := ih _ _ _ _ _ _ _ e a1
          exact ⟨b1, fun o k ho => (b2 o k ho).trans (a2 o k ho)⟩
      · split at e
        · split at e
          · cases e; exact ⟨hl, fun _ _ _ => rfl⟩
          · cases e
        · split at e
          · split at e
            · split at e
              · cases e; exact ⟨hl, fun _ _ _ => rfl⟩
              · cases e
            · cases e
          · split at e
            · split at e
              · cases e; exact ⟨hl, fun _ _ _ => rfl⟩
              · cases e
            · split at e
              · split at e
                · split at e
                  · cases e
                  · rename_i hc
                    obtain ⟨a1, a2⟩ := ih _ _ _ _ _ _ _ hc hl
                    split at e
                    · obtain ⟨b1, b2⟩ := ih _ _ _ _ _ _ _ e a1
                      exact ⟨b1, fun o k ho => (b2 o k ho).trans (a2 o k ho)⟩
                    · cases e
                · cases e
              · cases e
section STEP
variable {X : CT} {ad : Nat → Nat} {cells slots pc len op a pc' : Nat} {b : Int} {tb : List (Int × Nat)} {ls st ls' st' : List AV} {h h1 : AH}
theorem s_static {ix : Nat} (hX : CX X) (hr : 1 ≤ m_fr (xm X) ∧ 40 ≤ m_lo (xm X)) (hd : decode (m_cd (xm X)) pc = .ok (.invokestatic ix, len)) (hrs : rs (xm X) pc len (.invokestatic ix) = some (op, a, b, tb)) (hp : pstep op a b tb (pc + len) ls st h = some (pc', ls', st', h1)) (hst : okL st) (hc : cells + h1.2.length ≤ (xR X).cells + h.2.length) (hs : slots + sl h1.2 ≤ (xR X).slots + sl h.2) (hop : op < 40) (K : KK X ad cells slots pc' ls' st' h h1) : TT X ad cells slots pc ls st h := by
  unfold rs at hrs
  dsimp only at hrs
  split at hrs
  case isFalse => cases hrs
  rename_i hl
  subst hl
  split at hrs
  · unfold rcall at hrs
    split at hrs
    · cases hrs; omega
    · cases hrs
  · split at hrs
    case h_2 => cases hrs
    rename_i q hf
    obtain ⟨j, wi⟩ := q
    unfold rjdk at hrs
    dsimp only at hrs
    split at hrs
    · rename_i hj
      subst hj
      cases hrs
      have hp2 := ps_at (f := p31) rfl hp
      unfold p31 at hp2
      split at hp2
      case h_2 => cases hp2
      split at hp2
      case isFalse => cases hp2
      rename_i hg
      cases hp2
      exact am_abs hX hd hf (okv_i hst) hg.2 hr (by omega) (by omega) (K.same rfl rfl)
    · split at hrs
      · rename_i hj
        subst hj
        cases hrs
        have hp2 := ps_at (f := p32) rfl hp
        unfold p32 at hp2
        split at hp2
        case h_2 => cases hp2
        split at hp2
        case isFalse => cases hp2
        rename_i hg
        cases hp2
        exact am_max hX hd hf (okv_i (okv_t hst)) (okv_i hst) hg hr (by omega) (by omega) (K.same rfl rfl)
      · split at hrs
        · rename_i hj
          subst hj
          cases hrs
          have hp2 := ps_at (f := p33) rfl hp
          unfold p33 at hp2
          split at hp2
          case h_2 => cases hp2
          split at hp2
          case isFalse => cases hp2
          rename_i hg
          cases hp2
          exact am_min hX hd hf (okv_i (okv_t hst)) (okv_i hst) hg hr (by omega) (by omega) (K.same rfl rfl)
        · split at hrs
          · rename_i hj
            subst hj
            cases hrs
            have hp2 := ps_at (f := p34) rfl hp
            unfold p34 at hp2
            split at hp2
            case h_2 => cases hp2
            split at hp2
            case h_2 => cases hp2
            rename_i kc zc rc0 kd zd rd hqc hqd
            split at hp2
            case isFalse => cases hp2
            rename_i hg
            obtain ⟨rfl, rfl, g1, g2, g3, g4, g5, g6⟩ := hg
            cases hp2
            exact am_copy hX hd hf hqc hqd (okv_i (okv_t (okv_t (okv_t hst)))) (okv_i (okv_t hst)) (okv_i hst) g1 g2 g3 g4 g5 g6 hr (K.same rfl rfl)
          · cases hrs
theorem s_special {ix : Nat} (hX : CX X) (hr : 1 ≤ m_fr (xm X) ∧ 40 ≤ m_lo (xm X)) (hd : decode (m_cd (xm X)) pc = .ok (.invokespecial ix, len)) (hrs : rs (xm X) pc len (.invokespecial ix) = some (op, a, b, tb)) (hp : pstep op a b tb (pc + len) ls st h = some (pc', ls', st', h1)) (hst : okL st) (hc : cells + h1.2.length ≤ (xR X).cells + h.2.length) (hs : slots + sl h1.2 ≤ (xR X).slots + sl h.2) (hop : op < 40) (K : KK X ad cells slots pc' ls' st' h h1) : TT X ad cells slots pc ls st h := by
  unfold rs at hrs
  dsimp only at hrs
  split at hrs
  case isFalse => cases hrs
  rename_i hl
  subst hl
  split at hrs
  · unfold rcall at hrs
    split at hrs
    · cases hrs; omega
    · cases hrs
  · split at hrs
    case h_2 => cases hrs
    rename_i q hf
    obtain ⟨j, wi⟩ := q
    split at hrs
    case isFalse => cases hrs
    rename_i hj
    have hj2 : j = 0 := hj
    subst hj2
    cases hrs
    have hp2 := ps_at (f := p35) rfl hp
    unfold p35 at hp2
    split at hp2
    case h_2 => cases hp2
    split at hp2
    case isFalse => cases hp2
    rename_i hg
    cases hp2
    exact am_obj hX hd hf hg hr (K.same rfl rfl)
theorem am_step (hX : CX X) (hr : 1 ≤ m_fr (xm X) ∧ 40 ≤ m_lo (xm X)) (hrc : rc (xm X) pc = some (len, op, a, b, tb)) (hop : op < 40) (hp : pstep op a b tb (pc + len) ls st h = some (pc', ls', st', h1)) (hst : okL st) (hc : cells + h1.2.length ≤ (xR X).cells + h.2.length) (hs : slots + sl h1.2 ≤ (xR X).slots + sl h.2) (K : KK X ad cells slots pc' ls' st' h h1) : TT X ad cells slots pc ls st h := by
  unfold rc at hrc
  split at hrc
  case h_2 => cases hrc
  rename_i i len' hd
  split at hrc
  case h_2 => cases hrc
  rename_i r hrs
  cases hrc
  have hrs0 := hrs
  unfold rs at hrs
  split at hrs
  · exact s_iconst hX hr hd hrs0 hp hst hc hs K
  · exact s_bipush hX hr hd hrs0 hp hst hc hs K
  · exact s_sipush hX hr hd hrs0 hp hst hc hs K
  · exact s_ldc hX hr hd hrs0 hp hst hc hs K
  · exact s_ldcw hX hr hd hrs0 hp hst hc hs K
  · exact s_ldc2 hX hr hd hrs0 hp hst hc hs K
  · exact s_iload_n hX hr hd hrs0 hp hst hc hs K
  · exact s_iload hX hr hd hrs0 hp hst hc hs K
  · exact s_aload_n hX hr hd hrs0 hp hst hc hs K
  · exact s_aload hX hr hd hrs0 hp hst hc hs K
  · exact s_istore_n hX hr hd hrs0 hp hst hc hs K
  · exact s_istore hX hr hd hrs0 hp hst hc hs K
  · exact s_astore_n hX hr hd hrs0 hp hst hc hs K
  · exact s_astore hX hr hd hrs0 hp hst hc hs K
  · exact s_iinc hX hr hd hrs0 hp hst hc hs K
  · exact s_getfield hX hr hd hrs0 hp hst hc hs K
  · exact s_putfield hX hr hd hrs0 hp hst hc hs K
  · exact s_iaload hX hr hd hrs0 hp hst hc hs K
  · exact s_baload hX hr hd hrs0 hp hst hc hs K
  · exact s_aaload hX hr hd hrs0 hp hst hc hs K
  · exact s_iastore hX hr hd hrs0 hp hst hc hs K
  · exact s_bastore hX hr hd hrs0 hp hst hc hs K
  · exact s_aastore hX hr hd hrs0 hp hst hc hs K
  · exact s_arraylength hX hr hd hrs0 hp hst hc hs K
  · exact s_iadd hX hr hd hrs0 hp hst hc hs K
  · exact s_isub hX hr hd hrs0 hp hst hc hs K
  · exact s_imul hX hr hd hrs0 hp hst hc hs K
  · exact s_idiv hX hr hd hrs0 hp hst hc hs K
  · exact s_irem hX hr hd hrs0 hp hst hc hs K
  · exact s_ishl hX hr hd hrs0 hp hst hc hs K
  · exact s_ishr hX hr hd hrs0 hp hst hc hs K
  · exact s_iand hX hr hd hrs0 hp hst hc hs K
  · exact s_ior hX hr hd hrs0 hp hst hc hs K
  · exact s_ixor hX hr hd hrs0 hp hst hc hs K
  · exact s_i2b hX hr hd hrs0 hp hst hc hs K
  · exact s_i2l hX hr hd hrs0 hp hst hc hs K
  · exact s_lcmp hX hr hd hrs0 hp hst hc hs K
  · exact s_ifCond hX hr hd hrs0 hp hst hc hs K
  · exact s_icmp hX hr hd hrs0 hp hst hc hs K
  · exact s_goto hX hr hd hrs0 hp hst hc hs K
  · exact s_table hX hr hd hrs0 hp hst hc hs K
  · exact s_lookup hX hr hd hrs0 hp hst hc hs K
  · exact s_dup hX hr hd hrs0 hp hst hc hs K
  · exact s_dup2 hX hr hd hrs0 hp hst hc hs K
  · exact s_pop hX hr hd hrs0 hp hst hc hs K
  · exact s_new hX hr hd hrs0 hp hst hc hs K
  · exact s_newarr100 hX hr hd hrs0 hp hst hc hs K
  · exact s_newarr101 hX hr hd hrs0 hp hst hc hs K
  · exact s_anew hX hr hd hrs0 hp hst hc hs K
  · exact s_mna hX hr hd hrs0 hp hst hc hs K
  · split at hrs
    · cases hrs; omega
    · cases hrs
  · split at hrs
    · cases hrs; omega
    · cases hrs
  · split at hrs
    · cases hrs; omega
    · cases hrs
  · split at hrs
    · split at hrs
      · split at hrs
        · unfold rcall at hrs
          split at hrs
          · cases hrs; omega
          · cases hrs
        · cases hrs
      · cases hrs
    · cases hrs
  · exact s_static hX hr hd hrs0 hp hst hc hs hop K
  · exact s_special hX hr hd hrs0 hp hst hc hs hop K
  · cases hrs
end STEP
end
section
/-! a call by contract; the abstract run carries the machine -/
theorem va_AOA.moved {ty : FieldType} {u U : State} (hvm : u.vm.Alike U.vm) (h : va_AOA ty u) : va_AOA ty U := by
  have e := Jvm.Cond.arrayOver_setVmC (args := #[]) hvm (.array ty)
  have h1 : (Jvm.Cond.arrayOver (.array ty)).before #[] (u.setVm U.vm) = true := e.trans h
  exact h1
theorem nwP.warm {s U : State} (hW : s.WarmedH U.vm) (h : nwP s) : nwP U := by
  refine ⟨fun w hw => ?_, va_AO.moved hW.alike h.2.1, va_AOA.moved hW.alike h.2.2⟩
  obtain ⟨q, -, rfl⟩ := List.mem_map.mp hw
  exact va_Nw.warmM hW (h.1 _ hw)
theorem nwP.same {s U : State} (e : s.vm = U.vm) (h : nwP s) : nwP U := by
  refine ⟨fun w hw => ?_, va_AO.moved (by rw [e]; exact Vm.Alike.refl _) h.2.1, va_AOA.moved (by rw [e]; exact Vm.Alike.refl _) h.2.2⟩
  obtain ⟨q, -, rfl⟩ := List.mem_map.mp hw
  exact va_Nw.same rfl e (h.1 _ hw)
def wsm (m : Nat) : List Jvm.Cond := Jvm.Cond.code (m_y m) (m_cd m) (m_ml m) (rkT (m_rk m)) :: lw_gt
theorem wsm_good {m : Nat} (h0 : m ≠ 0) (h : m < nM) : GoodIn lw_gt (wsm m) := by
  intro w hw
  have hm : w ∈ lw_gt := by
    rcases List.mem_cons.mp hw with rfl | h1
    · exact okc_of h0 h
    · exact h1
  exact ⟨hm, good_of_word (List.mem_filter.mp hm).2⟩
def PcA (D : va_G) (tc : Nat → ClassId) (ad : Nat → Nat) (h : AH) (sz : Nat) : State → Prop := fun U => U.heap.size = sz ∧ va_P D vwCl (wd tc ad h) U.heap ∧ va_K D vwCl (tysF tc) U ∧ va_D (fun _ => True) (wd tc ad h) ∧ nwP U ∧ h.2.length ≤ 1000
def BA (D : va_G) (tc : Nat → ClassId) (ad : Nat → Nat) (h h' : AH) (A : Nat → Prop) : (Nat → Nat) → State → Prop := fun ad' t => (∀ o, (o < h.2.length ∨ h'.2.length ≤ o) → ad' o = ad o) ∧ va_P D vwCl (wd tc ad' h') t.heap ∧ va_K D vwCl (tysF tc) t ∧ va_D A (wd tc ad' h')
def QcA (v : Option AV) (B : (Nat → Nat) → State → Prop) (A : Nat → Prop) : Array Value → State → Outcome → State → Prop := match v with
  | none => va_Qv (fun _ => True) B A
  | some (.inl x) => va_Qi (fun r _ => r = Int32.ofInt x) B A
  | some (.inr (.inl x)) => va_Ql (fun r _ => r = Int64.ofInt x) B A
  | some (.inr (.inr _)) => fun _ _ _ _ => False
def retOk (m : Nat) (raw : Instr) (v : Option AV) : Prop := match v with
  | none => raw = .return_ ∧ m_rk m = 0
  | some (.inl x) => raw = .ireturn ∧ (m_rk m = 1 ∨ (m_rk m = 2 ∧ (x = 0 ∨ x = 1)))
  | some (.inr (.inl _)) => raw = .lreturn ∧ m_rk m = 3
  | some (.inr (.inr _)) => False
def FIN (X : CT) (ad : Nat → Nat) (cells slots : Nat) (h h' : AH) (v : Option AV) : Prop := ∀ (ad' : Nat → Nat) (cells' slots' pc' : Nat) (raw : Instr) (ls' : List AV), (∀ o, (o < h.2.length ∨ h'.2.length ≤ o) → ad' o = ad o) → cells' + h.2.length = cells + h'.2.length → slots' + sl h.2 = slots + sl h'.2 → decode (m_cd (xm X)) pc' = .ok (raw, 1) → retOk (xm X) raw v → TT X ad' cells' slots' pc' ls' v.toList h'
def SIM (f : Nat) : Prop := ∀ (m pc : Nat) (ls st : List AV) (h : AH) (v : Option AV) (h' : AH), arun f m pc ls st h = some (v, h') → okL ls → okL st → okI h.1 → ∀ (X : CT) (ad : Nat → Nat) (cells slots : Nat), CX X → xm X = m → (1 ≤ m_fr m ∧ 40 ≤ m_lo m) → cells + h'.2.length ≤ (xR X).cells + h.2.length → slots + sl h'.2 ≤ (xR X).slots + sl h.2 → FIN X ad cells slots h h' v → TT X ad cells slots pc ls st h
theorem wcat_len {l : List AV} : l.length ≤ wcat l := by
  unfold wcat
  induction l with
  | nil => simp
  | cons v l ih =>
    simp only [List.map_cons, List.sum_cons, List.length_cons]
    rcases v with x | x | o <;> simp <;> omega
def wc1 (v : AV) : Nat := match v with | .inr (.inl _) => 2 | _ => 1
theorem wcat_cons {v : AV} {l : List AV} : wcat (v :: l) = wc1 v + wcat l := rfl
theorem wcat_one {l : List AV} (h : wcat l = l.length) : ∀ v ∈ l, ∀ x, v ≠ vL x := by
  induction l with
  | nil => intro v hv; cases hv
  | cons w l ih =>
    have h2 := wcat_len (l := l)
    rw [wcat_cons, List.length_cons] at h
    unfold wc1 at h
    intro v hv x
    rcases w with y | y | o
    · rcases List.mem_cons.mp hv with rfl | hv
      · intro z; cases z
      · exact ih (by simp at h; omega) v hv x
    · simp at h; omega
    · rcases List.mem_cons.mp hv with rfl | hv
      · intro z; cases z
      · exact ih (by simp at h; omega) v hv x
theorem cv_cat {ad : Nat → Nat} {v : AV} (h : ∀ x, v ≠ vL x) : (cv ad v).category = 1 := by
  rcases v with x | x | o
  · rfl
  · exact absurd rfl (h x)
  · rfl
theorem lva_mem {ad : Nat → Nat} : ∀ (l : List AV) (i : Nat), (∀ v ∈ l, ∀ x, v ≠ vL x) → (∀ q ∈ lv_args i (l.map (cv ad)), q.2.category = 1) ∧ ∀ (j : Nat) (v : AV), l[j]? = some v → (i + j, cv ad v) ∈ lv_args i (l.map (cv ad))
  | [], i, _ => by
    refine ⟨fun q hq => ?_, fun j v h => ?_⟩
    · simp [lv_args] at hq
    · simp at h
  | w :: l, i, hl => by
    have hc : (cv ad w).category = 1 := cv_cat (hl w List.mem_cons_self)
    obtain ⟨a1, a2⟩ := lva_mem (ad := ad) l (i + 1) (fun v hv => hl v (List.mem_cons_of_mem _ hv))
    have e : lv_args i ((w :: l).map (cv ad)) = (i, cv ad w) :: lv_args (i + 1) (l.map (cv ad)) := by
      show (i, cv ad w) :: lv_args (if (cv ad w).category = 2 then i + 2 else i + 1) (l.map (cv ad)) = _
      rw [if_neg (by rw [hc]; decide)]
    rw [e]
    refine ⟨fun q hq => ?_, fun j v h => ?_⟩
    · rcases List.mem_cons.mp hq with rfl | hq
      · exact hc
      · exact a1 q hq
    · cases j with
      | zero => simp at h; subst h; exact List.mem_cons_self
      | succ j => exact List.mem_cons_of_mem _ (by have := a2 j v (by simpa using h); rwa [show i + 1 + j = i + (j + 1) by omega] at this)
theorem lg_len {ad : Nat → Nat} : ∀ l : List AV, (∀ v ∈ l, ∀ x, v ≠ vL x) → (lg_sl (l.map (cv ad))).length = l.length
  | [], _ => rfl
  | w :: l, hl => by
    have hc : (cv ad w).category = 1 := cv_cat (hl w List.mem_cons_self)
    have := lg_len (ad := ad) l (fun v hv => hl v (List.mem_cons_of_mem _ hv))
    unfold lg_sl at this ⊢
    rw [List.map_cons, List.flatMap_cons, List.length_append, this, if_neg (by rw [hc]; decide)]
    simp
    omega
theorem okM_parts {m : Nat} (h0 : m ≠ 0) (h : m < nM) : (m_y m).cls = cname (m_own m) ∧ plainName (m_y m).cls = true ∧ ((m_y m).cls ≠ "java/lang/invoke/MethodHandle" ∧ (m_y m).cls ≠ "java/lang/invoke/VarHandle") ∧ (parseMethodDescriptor (m_y m).desc).map (fun d => d.parameters.length) = some (m_np m - (if m_kd m = 1 then 0 else 1)) ∧ (m_kd m = 2 → (m_y m).name = "<init>") ∧ m_kd m ≤ 2 ∧ (m_kd m ≠ 1 → 1 ≤ m_np m) ∧ (1 ≤ m_fr m ∧ 40 ≤ m_lo m) ∧ (m_kd m = 2 → m_rk m = 0) ∧ m_own m < 13 ∧ (if m_kd m = 1 then Jvm.Cond.static (m_y m) ∈ lw_gt else Jvm.Cond.instanceMethod (m_y m) ∈ lw_gt) ∧ (m_kd m = 0 → Jvm.Cond.selects (m_y m).cls (m_y m) (m_y m) ∈ lw_gt) ∧ Jvm.Cond.initialized (m_y m).cls ∈ lw_gt := by
  have hk := okM_of h0 h
  unfold okM at hk
  split at hk
  · simp only [Bool.and_eq_true, decide_eq_true_eq] at hk
    obtain ⟨⟨⟨⟨⟨⟨⟨⟨⟨⟨⟨⟨a1, a2⟩, a3⟩, a4⟩, a5⟩, a6⟩, a7⟩, a8⟩, a9⟩, a10⟩, a11⟩, a12⟩, a13⟩ := hk
    refine ⟨a4, a5, a6, a7, a8, a9, a10, a11, a12, a13, ?_, ?_, okw_in a3⟩
    · by_cases z : m_kd m = 1
      · rw [if_pos z] at a1 ⊢; exact okw_in a1
      · rw [if_neg z] at a1 ⊢; exact okw_in a1
    · intro z
      rw [if_pos z] at a2
      exact okw_in a2
  · cases hk
end
section
/-! a method's contract out of its abstract run; a call by it -/
theorem met_of {f : Nat} (IH : SIM f) (l : Launch) {mid : Nat} {as : List AV} {h h' : AH} {v : Option AV} (h0 : mid ≠ 0) (hm : mid < nM) (e : arun f mid 0 (entryL mid as) [] h = some (v, h')) (has : okL as) (hI : okI h.1) (hw : wcat as = as.length) (hml9 : as.length ≤ m_ml mid) (hrange : okL v.toList) (D : va_G) (tc : Nat → ClassId) (ad : Nat → Nat) (sz : Nat) :
    Met l (m_y mid) (wsm mid) ({ frames := m_fr mid, cells := h'.2.length - h.2.length, slots := sl h'.2 - sl h.2, locals := m_lo mid } : Room) (va_Pc (as.map (cv ad)) (PcA D tc ad h sz)) (QcA v (BA D tc ad h h' (va_A (wd tc ad h) sz)) (va_A (wd tc ad h) sz)) (h'.2.length - h.2.length) (sl h'.2 - sl h.2) (va_A (wd tc ad h) sz) := by
  obtain ⟨b1, b2, b3, b4, b5, b6, b7, b8, b9, b10, b11, b12, b13⟩ := okM_parts h0 hm
  obtain ⟨-, -, l1, l2⟩ := arun_ok _ _ _ _ _ _ _ _ e (okL_entry has) okL_nil hI
  have hone := wcat_one hw
  refine Met.ofW (cc := m_cd mid) (maxL := m_ml mid) (ret := rkT (m_rk mid)) b2 rfl ?_
  intro p en s mm args below meth c s₁ B hml hv
  obtain ⟨rfl, hsz, hP, hK, hD0, hnw, hlen⟩ := hv
  have hx := B.exec
  have hb := B.bytes
  have hr := B.returns
  have hts := atoms_spec (ws := wsm mid) B.pre
  have hown : s.vm.findClass (cname (m_own mid)) = some mm.cls := by
    have := findClass_of_methodNamed B.named
    rwa [b1] at this
  have hlocks := B.notSynchronized
  have hin : meth.name = (m_y mid).name := (name_of_methodNamed B.named B.method).1
  subst hsz
  have hD : va_D (va_A (wd tc ad h) s.heap.size) (wd tc ad h) := hD0.self (sz := s.heap.size)
  have hA : ∀ q : Nat, s.heap.size ≤ q → va_A (wd tc ad h) s.heap.size q := fun q z => Or.inr z
  rw [lg_entry_eq]
  have hl := lv_entry (as.map (cv ad)) (n := m_ml mid) (by rw [lg_len as hone]; exact hml9)
  generalize (lg_sl (as.map (cv ad)) ++ List.replicate (m_ml mid - (lg_sl (as.map (cv ad))).length) Slot.unset).toArray = L at hl ⊢
  obtain ⟨m1, m2⟩ := lva_mem (ad := ad) as 0 hone
  have hLR : LR ad (m_ml mid) (entryL mid as) L := by
    refine ⟨by unfold entryL; simp; omega, _, hl, m1, fun i w hw9 hn => ?_⟩
    unfold entryL at hw9
    by_cases z : i < as.length
    · rw [List.getElem?_append_left z] at hw9
      have := m2 i w hw9
      rwa [Nat.zero_add] at this
    · rw [List.getElem?_append_right (by omega), List.getElem?_replicate] at hw9
      split at hw9
      · cases hw9; exact absurd rfl (hn 0)
      · cases hw9
  have hCX : CX (p, l, en, (headSpec (wsm mid) ({ frames := m_fr mid, cells := h'.2.length - h.2.length, slots := sl h'.2 - sl h.2, locals := m_lo mid } : Room)).room, s, mm, (as.map (cv ad)).toArray, below, meth, c, MQ below (QcA v (BA D tc ad h h' (va_A (wd tc ad h) s.heap.size)) (va_A (wd tc ad h) s.heap.size)) (as.map (cv ad)).toArray s (h'.2.length - h.2.length) (sl h'.2 - sl h.2) (va_A (wd tc ad h) s.heap.size), D, tc, va_A (wd tc ad h) s.heap.size, mid) :=
    ⟨hx, hb, hml, hown, fun w z => hts w (List.mem_cons_of_mem _ z), fun z => by rw [hin]; exact b5 z, hK, hA, hnw, Nat.le_refl _, Nat.le_refl _⟩
  have hSR : SR D tc (va_A (wd tc ad h) s.heap.size) s mid ad h s.heap [] := ⟨hP, hD, va_S.rf, hlen, fun z => absurd z (by omega)⟩
  refine IH mid 0 (entryL mid as) [] h v h' e (okL_entry has) okL_nil hI _ ad 0 0 hCX rfl b8 (by show 0 + h'.2.length ≤ (h'.2.length - h.2.length) + h.2.length; omega) (by show 0 + sl h'.2 ≤ (sl h'.2 - sl h.2) + sl h.2; omega) ?_ L s.heap [] hLR hSR
  intro ad' cells' slots' pc' raw ls' hag hc hs hd hret
  have hc2 : cells' = h'.2.length - h.2.length := by omega
  have hs2 : slots' = sl h'.2 - sl h.2 := by omega
  subst hc2
  subst hs2
  intro L9 H9 locs9 hL9 hS9
  obtain ⟨hP9, hD9, hSS9, hlen9, -⟩ := hS9
  have hret : retOk mid raw v := hret
  rcases v with _ | x | x | o
  · obtain ⟨rfl, hk⟩ := hret
    exact W.vret hx hb (by rw [hr, hk]; rfl) (fun t ht hW => ⟨⟨ad', rfl, trivial, hag, by rw [ht]; exact hP9, va_K.moved hW.alike hK, hD9⟩, hSS9.F ht⟩) hSS9.2.2 hd hlocks
  · obtain ⟨rfl, hk⟩ := hret
    rcases hk with hk | ⟨hk, hx01⟩
    · exact W.iret hx hb (by rw [hr, hk]; rfl) (fun t ht hW => ⟨⟨Int32.ofInt x, ad', rfl, rfl, hag, by rw [ht]; exact hP9, va_K.moved hW.alike hK, hD9⟩, hSS9.F ht⟩) hSS9.2.2 hd hlocks
    · have hnar : narrow .boolean (.int (Int32.ofInt x)) = .int (Int32.ofInt x) := by rcases hx01 with rfl | rfl <;> rfl
      exact W.zret hx hb (by rw [hr, hk]; rfl) hnar (fun t ht hW => ⟨⟨Int32.ofInt x, ad', rfl, rfl, hag, by rw [ht]; exact hP9, va_K.moved hW.alike hK, hD9⟩, hSS9.F ht⟩) hSS9.2.2 hd hlocks
  · obtain ⟨rfl, hk⟩ := hret
    exact W.lret hx hb (by rw [hr, hk]; rfl) (fun t ht hW => ⟨⟨Int64.ofInt x, ad', rfl, rfl, hag, by rw [ht]; exact hP9, va_K.moved hW.alike hK, hD9⟩, hSS9.F ht⟩) hSS9.2.2 hd hlocks
  · exact absurd hret (by intro z; exact z)
theorem pc_blind {D : va_G} {tc : Nat → ClassId} {ad : Nat → Nat} {h : AH} {sz : Nat} {av : List Value} : FrameBlind (va_Pc av (PcA D tc ad h sz)) := fun a U g mk q => by
  obtain ⟨q0, q1, qP, qK, qD, qn, ql⟩ := q
  exact ⟨q0, q1, qP, va_K.moved (u := U) (U := U.calling g mk a) (Vm.Alike.refl U.vm) qK, qD, nwP.same (s := U) (U := U.calling g mk a) rfl qn, ql⟩
/-- behind a call -/
theorem call_end {p : Program} {l : Launch} {e : Env} {R : Room} {s : State} {mm : MethodId} {args : Array Value} {below : List Frame} {meth : Method} {c : Code} {Q : State → Prop} {D : va_G} {tc : Nat → ClassId} {A : Nat → Prop} {m : Nat} {ad : Nat → Nat} {cells slots mc ms pc : Nat} {ls rest st0 : List AV} {h h' : AH} {v : Option AV} {L : Array Slot} {H : Heap} {locs : List Loc} {a : Array Value}
    (hX : CX (p, l, e, R, s, mm, args, below, meth, c, Q, D, tc, A, m)) (hL : LR ad (m_ml m) ls L) (hS : SR D tc A s m ad h H locs) (hlen' : h'.2.length ≤ 1000) (hle : h.2.length ≤ h'.2.length) (hscr : ∀ o k, 1000 ≤ o → h'.1 o k = h.1 o k) (hrefs : h'.2.length = h.2.length ∨ (okRefs h.2.length ls = true ∧ okRefs h.2.length rest = true))
    (hr : va_Run p l e R s mm args below meth c H locs cells slots mc ms (F0 mm pc L (st0.map (cv ad))) (rest.map (cv ad)) (QcA v (BA D tc ad h h' (va_A (wd tc ad h) H.size)) (va_A (wd tc ad h) H.size) a) (va_A (wd tc ad h) H.size))
    (K : ∀ ad' : Nat → Nat, (∀ o, (o < h.2.length ∨ h'.2.length ≤ o) → ad' o = ad o) → TT (p, l, e, R, s, mm, args, below, meth, c, Q, D, tc, A, m) ad' (cells + mc) (slots + ms) (pc + 3) ls (v.toList ++ rest) h') :
    W p l e R s mm args below meth c H locs cells slots Q (F0 mm pc L (st0.map (cv ad))) := by
  obtain ⟨hx, hb, hml, hown, hts, hin, hK, hA, hnw, hfr, hlo⟩ := hX
  obtain ⟨hP, hD, hSS, hlen, hsc⟩ := hS
  have hFc : ∀ q, va_A (wd tc ad h) H.size q → A q := by
    intro q z
    rcases z with ⟨k, en, z⟩ | z
    · exact hD.2 k (q, en) z
    · exact hA q (Nat.le_trans hSS.1 z)
  have fin : ∀ (ad' : Nat → Nat) (t : State) (H1 : Heap) (locs1 : List Loc), t.heap = H1 → BA D tc ad h h' (va_A (wd tc ad h) H.size) ad' t → va_S A s.heap H1 locs1 → W p l e R s mm args below meth c H1 locs1 (cells + mc) (slots + ms) Q (F0 mm (pc + 3) L ((v.toList ++ rest).map (cv ad'))) ∧ ∀ w ∈ rest, cv ad' w = cv ad w := by
    intro ad' t H1 locs1 ht hB hS1
    obtain ⟨hag, hP1, hK1, hD1⟩ := hB
    rw [ht] at hP1
    have hr1 : ∀ o, vR o ∈ ls → ad' o = ad o := fun o ho => hag o (by
      rcases hrefs with z | z
      · omega
      · have := okRefs_mem z.1 ho; omega)
    have hr2 : ∀ o, vR o ∈ rest → ad' o = ad o := fun o ho => hag o (by
      rcases hrefs with z | z
      · omega
      · have := okRefs_mem z.2 ho; omega)
    refine ⟨K ad' hag L H1 locs1 (LR_ad hL hr1) ⟨hP1, hD1.weaken (fun _ q _ z => hFc q.1 z), hS1, hlen', fun z => scr_keep (hsc z) (hag _ (by omega)) hscr⟩, fun w hw => ?_⟩
    rcases w with x | x | o
    · rfl
    · rfl
    · exact congrArg Value.ref (hr2 o hw)
  rcases v with _ | x | x | o
  · refine va_callv (a := a) hr hSS (fun q _ z => hFc q z) hFc (fun u t H1 locs1 ht hvm hw hB hz1 hk1 hS1 => ?_)
    obtain ⟨f1, f2⟩ := fin u t H1 locs1 ht hB hS1
    rw [show ((none : Option AV).toList ++ rest).map (cv u) = rest.map (cv ad) from List.map_congr_left f2] at f1
    exact f1
  · refine va_calli (a := a) hr hSS (fun q _ z => hFc q z) hFc (fun r u t H1 locs1 ht hvm hw hB hz1 hk1 hS1 => ?_)
    obtain ⟨f1, f2⟩ := fin u t H1 locs1 ht hB hS1
    have hw2 : r = Int32.ofInt x := hw
    rw [show ((some (Sum.inl x) : Option AV).toList ++ rest).map (cv u) = .int r :: rest.map (cv ad) from by rw [hw2]; exact congrArg (fun z => Value.int (Int32.ofInt x) :: z) (List.map_congr_left f2)] at f1
    exact f1
  · refine va_calll (a := a) hr hSS (fun q _ z => hFc q z) hFc (fun r u t H1 locs1 ht hvm hw hB hz1 hk1 hS1 => ?_)
    obtain ⟨f1, f2⟩ := fin u t H1 locs1 ht hB hS1
    have hw2 : r = Int64.ofInt x := hw
    rw [show ((some (Sum.inr (Sum.inl x)) : Option AV).toList ++ rest).map (cv u) = .long r :: rest.map (cv ad) from by rw [hw2]; exact congrArg (fun z => Value.long (Int64.ofInt x) :: z) (List.map_congr_left f2)] at f1
    exact f1
  · intro T hT Xs
    obtain ⟨v9, st₀, t, T', L9, h0, X', hL9, e1, e2, hq, st9⟩ := hr T hT Xs
    exact absurd hq (fun z => z)
end
section
theorem callB_mk {R : Room} {s : State} {args : Array Value} {own : String} {ix mid mc ms : Nat} {rm : Room} (h0 : mid ≠ 0) (hm : mid < nM) (hts : ∀ w ∈ lw_gt, w.before args s = true) (hrc : rm.cells = mc) (hrs : rm.slots = ms) (hl : (Jvm.Cond.methodLink own ix (m_y mid)).before args s = true) (hR : rm.frames + 1 ≤ R.frames ∧ 8 + (m_ml mid + 11) + rm.locals ≤ R.locals) :
    CallB R s args own ix (m_y mid) (m_cd mid) (m_ml mid) (rkT (m_rk mid)) (wsm mid) rm mc ms (m_np mid - (if m_kd mid = 1 then 0 else 1)) := by
  obtain ⟨b1, b2, b3, b4, b5, b6, b7, b8, b9, b10, b11, b12, b13⟩ := okM_parts h0 hm
  exact callB_of _ hts (wsm_good h0 hm) rfl hrc hrs (hts _ b13) hl ⟨b3.1, b3.2, b4⟩ hR
theorem callN_mk {R : Room} {s : State} {args : Array Value} {own host : String} {ix mid mc ms : Nat} {rm : Room} (h0 : mid ≠ 0) (hm : mid < nM) (hts : ∀ w ∈ lw_gt, w.before args s = true) (hrc : rm.cells = mc) (hrs : rm.slots = ms) (hl : va_Nw (.methodLinkNest own ix (m_y mid) host) s) (hR : rm.frames + 1 ≤ R.frames ∧ 8 + (m_ml mid + 11) + rm.locals ≤ R.locals) :
    va_CN R s args own ix (m_y mid) host (m_cd mid) (m_ml mid) (rkT (m_rk mid)) (wsm mid) rm mc ms (m_np mid - (if m_kd mid = 1 then 0 else 1)) := by
  obtain ⟨b1, b2, b3, b4, b5, b6, b7, b8, b9, b10, b11, b12, b13⟩ := okM_parts h0 hm
  exact va_cnB _ hts (wsm_good h0 hm) rfl hrc hrs hl (hts _ b13) ⟨b3.1, b3.2, b4⟩ hR
theorem mtb_word {own ix mid nest wi : Nat} (hf : mtb.lookup (own, ix) = some (mid, nest, wi)) : (nest = 0 → Jvm.Cond.methodLink (cname own) ix (m_y mid) ∈ lw_gt) ∧ (nest ≠ 0 → Jvm.Cond.methodLinkNest (cname own) ix (m_y mid) "RoundSlack" ∈ nests) := by
  have hm := of_lk hf
  have hw := List.all_eq_true.mp mtb_ok _ hm
  refine ⟨fun z => ?_, fun z => ?_⟩
  · rw [if_pos (show ((own, ix), mid, nest, wi).2.2.1 = 0 from z)] at hw
    exact okw_in hw
  · exact List.mem_map.mpr ⟨_, List.mem_filter.mpr ⟨hm, by simpa using z⟩, rfl⟩
theorem am_call {f : Nat} (IH : SIM f) {X : CT} {ad : Nat → Nat} {cells slots pc ix mid nest wi kk : Nat} {ls as rest : List AV} {h h' : AH} {v : Option AV} {raw : Instr} (hX : CX X) (hd : decode (m_cd (xm X)) pc = .ok (raw, 3)) (hraw : raw = .invokevirtual ix ∧ kk = 0 ∧ nest = 0 ∨ raw = .invokestatic ix ∧ kk = 1 ∨ raw = .invokespecial ix ∧ kk = 2) (hf : mtb.lookup (m_own (xm X), ix) = some (mid, nest, wi)) (h0 : mid ≠ 0) (hm : mid < nM) (hkd : m_kd mid = kk) (hfr : m_fr mid + 1 ≤ m_fr (xm X)) (hlo : 8 + (m_ml mid + 11) + m_lo mid ≤ m_lo (xm X)) (hnp : m_np mid ≤ m_ml mid)
    (hlen : as.length = m_np mid) (hw : wcat as = as.length) (hw8 : wcat rest ≤ 8) (hrecv : recvOk kk mid as h = true) (has : okL as) (hI : okI h.1) (e : arun f mid 0 (entryL mid as) [] h = some (v, h')) (hrefs : h'.2.length = h.2.length ∨ (okRefs h.2.length ls = true ∧ okRefs h.2.length rest = true)) (hc : cells + h'.2.length ≤ (xR X).cells + h.2.length) (hs : slots + sl h'.2 ≤ (xR X).slots + sl h.2)
    (K : KK X ad cells slots (pc + 3) ls (v.toList ++ rest) h h') : TT X ad cells slots pc ls (as.reverse ++ rest) h := by
  obtain ⟨b1, b2, b3, b4, b5, b6, b7, b8, b9, b10, b11, b12, b13⟩ := okM_parts h0 hm
  obtain ⟨hv9, -, l1, l2⟩ := arun_ok _ _ _ _ _ _ _ _ e (okL_entry has) okL_nil hI
  obtain ⟨x, y⟩ := mtb_word hf
  obtain ⟨p, l, en, R, s, mm, args, below, meth, c, Q, D, tc, A, m⟩ := X
  have hX0 := hX
  obtain ⟨hx, hb, hml, hown, hts, hin, hK, hA, hnw, hfr9, hlo9⟩ := hX
  intro L H locs hL hS
  have hLs : L.size = m_ml m := by obtain ⟨-, lv, g1, -⟩ := hL; exact g1.1
  have hlen0 := hS.2.2.2.1
  obtain ⟨hl', hscr⟩ := arun_ps _ _ _ _ _ _ _ _ e hlen0
  have hM := met_of IH l h0 hm e has hI hw (by omega) hv9 D tc ad H.size
  have hroom : m_fr mid + 1 ≤ R.frames ∧ 8 + (m_ml mid + 11) + m_lo mid ≤ R.locals := ⟨Nat.le_trans hfr hfr9, Nat.le_trans hlo hlo9⟩
  have hPc : ∀ U : State, U.heap = H → s.WarmedH U.vm → PcA D tc ad h H.size U := fun U hU hW => ⟨by rw [hU], by rw [hU]; exact hS.1, va_K.moved hW.alike hK, hS.2.1.weaken (fun _ _ _ _ => trivial), hnw.warm hW, hlen0⟩
  have hcs : cells + (h'.2.length - h.2.length) ≤ R.cells ∧ slots + (sl h'.2 - sl h.2) ≤ R.slots := ⟨by have : (xR (p, l, en, R, s, mm, args, below, meth, c, Q, D, tc, A, m)).cells = R.cells := rfl; omega, by have : (xR (p, l, en, R, s, mm, args, below, meth, c, Q, D, tc, A, m)).slots = R.slots := rfl; omega⟩
  have hroomW : 2 * (F0 mm pc L ((as.reverse ++ rest).map (cv ad))).monitorRoom + ((rest.map (cv ad)).map fun v => v.category).sum ≤ 8 := lv_room (by rw [wcat_cv]; exact hw8)
  refine call_end (mc := h'.2.length - h.2.length) (ms := sl h'.2 - sl h.2) (a := (as.map (cv ad)).toArray) hX0 hL hS hl' l1 hscr hrefs ?_ (fun ad' hag => K ad' _ _ hag (by omega) (by omega))
  rcases hraw with ⟨rfl, rfl, rfl⟩ | ⟨rfl, rfl⟩ | ⟨rfl, rfl⟩
  · -- virtual
    have hlk := hts _ (x rfl)
    cases as with
    | nil => simp at hlen; have := b7 (by omega); omega
    | cons r0 as =>
      rcases r0 with r0 | r0 | o
      · simp [recvOk] at hrecv
      · simp [recvOk] at hrecv
      · have hrk : ∃ q, h.2[o]? = some q ∧ q.1 = m_own mid := by
          unfold recvOk at hrecv
          cases hq : h.2[o]? with
          | none => simp [hq] at hrecv
          | some q => simp [hq] at hrecv; exact ⟨q, rfl, hrecv⟩
        obtain ⟨⟨kd, sz, rf⟩, hq, hkq⟩ := hrk
        have hkq2 : kd = m_own mid := hkq
        subst hkq2
        obtain ⟨C, T, N, hcl⟩ := cls_at b10
        obtain ⟨c1, c2, c3, c4, c5, c6, c7, c8⟩ := clsF hcl
        have he := wd_at (tc := tc) (ad := ad) hq
        rw [ent_obj (ci := m_own mid) (by omega)] at he
        have hrv := va_recv hK hS.1 hcl he
        have hsel := hts _ (b12 hkd)
        have hinst : (Jvm.Cond.instanceMethod (m_y mid)).before args s = true := hts _ (by rw [if_neg (by omega)] at b11; exact b11)
        exact va_runV (C := C) (As := as.map (cv ad)) (rest := rest.map (cv ad)) (b := ad o) (g := F0 mm pc L (((Sum.inr (Sum.inr o) :: as).reverse ++ rest).map (cv ad))) ⟨hx, hb, hml, hown, hts⟩ hM ⟨callB_mk h0 hm hts rfl rfl hlk hroom, hinst, by rw [c4, ← b1]; exact hsel⟩ ⟨pc_blind, hrv, fun U hU hW => ⟨rfl, hPc U hU hW⟩⟩ rfl (by simp only [List.length_map]; simp only [List.length_cons] at hlen; rw [if_neg (by omega)]; omega) hLs (by simp [cv, List.map_reverse]) hroomW hd hcs
  · -- static
    have hst : (Jvm.Cond.static (m_y mid)).before args s = true := hts _ (by rw [if_pos hkd] at b11; exact b11)
    have hn : (as.map (cv ad)).length = m_np mid - (if m_kd mid = 1 then 0 else 1) := by rw [if_pos hkd, List.length_map]; omega
    by_cases z : nest = 0
    · exact va_runS (As := as.map (cv ad)) (rest := rest.map (cv ad)) (g := F0 mm pc L ((as.reverse ++ rest).map (cv ad))) ⟨hx, hb, hml, hown, hts⟩ hM ⟨callB_mk h0 hm hts rfl rfl (hts _ (x z)) hroom, hst⟩ ⟨pc_blind, fun U hU hW => ⟨rfl, hPc U hU hW⟩⟩ rfl hn hLs (by simp [List.map_reverse]) hroomW hd hcs
    · exact va_runSN (As := as.map (cv ad)) (rest := rest.map (cv ad)) (g := F0 mm pc L ((as.reverse ++ rest).map (cv ad))) ⟨hx, hb, hml, hown, hts⟩ hM ⟨callN_mk h0 hm hts rfl rfl (hnw.1 _ (y z)) hroom, hst, trivial⟩ ⟨pc_blind, fun U hU hW => ⟨rfl, hPc U hU hW⟩⟩ rfl hn hLs (by simp [List.map_reverse]) hroomW hd hcs
  · -- a constructor
    have hinst : (Jvm.Cond.instanceMethod (m_y mid)).before args s = true := hts _ (by rw [if_neg (by omega)] at b11; exact b11)
    cases as with
    | nil => simp at hlen; have := b7 (by omega); omega
    | cons r0 as =>
      rcases r0 with r0 | r0 | o
      · simp [recvOk] at hrecv
      · simp [recvOk] at hrecv
      · have hn : (as.map (cv ad)).length = m_np mid - (if m_kd mid = 1 then 0 else 1) := by simp only [List.length_map]; simp only [List.length_cons] at hlen; rw [if_neg (by omega)]; omega
        have hret : rkT (m_rk mid) = none := by rw [b9 hkd]; rfl
        by_cases z : nest = 0
        · have hcb := callB_mk (rm := { frames := m_fr mid, cells := h'.2.length - h.2.length, slots := sl h'.2 - sl h.2, locals := m_lo mid }) h0 hm hts rfl rfl (hts _ (x z)) hroom
          rw [hret] at hcb
          exact va_runI (As := as.map (cv ad)) (rest := rest.map (cv ad)) (b := ad o) (g := F0 mm pc L (((Sum.inr (Sum.inr o) :: as).reverse ++ rest).map (cv ad))) ⟨hx, hb, hml, hown, hts⟩ hM ⟨hcb, b5 hkd, hinst⟩ ⟨pc_blind, fun U hU hW => ⟨rfl, hPc U hU hW⟩⟩ rfl hn hLs (by simp [cv, List.map_reverse]) hroomW hd hcs
        · have hcb := callN_mk (rm := { frames := m_fr mid, cells := h'.2.length - h.2.length, slots := sl h'.2 - sl h.2, locals := m_lo mid }) h0 hm hts rfl rfl (hnw.1 _ (y z)) hroom
          rw [hret] at hcb
          exact va_runIN (As := as.map (cv ad)) (rest := rest.map (cv ad)) (b := ad o) (g := F0 mm pc L (((Sum.inr (Sum.inr o) :: as).reverse ++ rest).map (cv ad))) ⟨hx, hb, hml, hown, hts⟩ hM ⟨hcb, b5 hkd, hinst⟩ ⟨pc_blind, fun U hU hW => ⟨rfl, hPc U hU hW⟩⟩ rfl hn hLs (by simp [cv, List.map_reverse]) hroomW hd hcs
end
section
theorem entryNZ : ∀ m, m_own m = 13 → m = 0 ∨ nM ≤ m := by
  intro m h
  by_cases h0 : m = 0
  · exact Or.inl h0
  · by_cases hm : m < nM
    · have := (okM_parts h0 hm).2.2.2.2.2.2.2.2.2.1
      omega
    · exact Or.inr (by omega)
def calleeOk : Bool := mtb.all (fun q => decide (q.2.1 ≠ 0))
theorem calleeOk_t : calleeOk = true := by decide +kernel
theorem mtb_nz {own ix mid nest wi : Nat} (hf : mtb.lookup (own, ix) = some (mid, nest, wi)) : mid ≠ 0 := by
  have := List.all_eq_true.mp calleeOk_t _ (of_lk hf)
  simpa using this
theorem rc_call {m pc len a : Nat} {b : Int} {tb : List (Int × Nat)} (h : rc m pc = some (len, 43, a, b, tb)) : ∃ (raw : Instr) (ix nest wi : Nat), len = 3 ∧ decode (m_cd m) pc = .ok (raw, 3) ∧ (raw = .invokevirtual ix ∧ tk tb = 0 ∧ nest = 0 ∨ raw = .invokestatic ix ∧ tk tb = 1 ∨ raw = .invokespecial ix ∧ tk tb = 2) ∧ mtb.lookup (m_own m, ix) = some (a, nest, wi) ∧ a < nM ∧ m_kd a = tk tb ∧ m_fr a + 1 ≤ m_fr m ∧ 8 + (m_ml a + 11) + m_lo a ≤ m_lo m ∧ m_np a ≤ m_ml a ∧ b = (m_np a : Int) := by
  unfold rc at h
  split at h
  case h_2 => cases h
  rename_i i len' hd
  split at h
  case h_2 => cases h
  rename_i r hrs
  cases h
  have key : ∀ {k mid : Nat}, rcall m k mid = some (43, a, b, tb) → a = mid ∧ tk tb = k ∧ a < nM ∧ m_kd a = k ∧ m_fr a + 1 ≤ m_fr m ∧ 8 + (m_ml a + 11) + m_lo a ≤ m_lo m ∧ m_np a ≤ m_ml a ∧ b = (m_np a : Int) := by
    intro k mid z
    unfold rcall at z
    split at z
    · rename_i hc
      simp only [Option.some.injEq, Prod.mk.injEq] at z
      obtain ⟨-, rfl, rfl, rfl⟩ := z
      exact ⟨rfl, by simp [tk], hc.1, hc.2.1, hc.2.2.1, hc.2.2.2.1, hc.2.2.2.2, rfl⟩
    · cases z
  unfold rs at hrs
  split at hrs
  · (repeat' split at hrs) <;> cases hrs
  · (repeat' split at hrs) <;> cases hrs
  · (repeat' split at hrs) <;> cases hrs
  · (repeat' split at hrs) <;> cases hrs
  · (repeat' split at hrs) <;> cases hrs
  · (repeat' split at hrs) <;> cases hrs
  · (repeat' split at hrs) <;> cases hrs
  · (repeat' split at hrs) <;> cases hrs
  · (repeat' split at hrs) <;> cases hrs
  · (repeat' split at hrs) <;> cases hrs
  · (repeat' split at hrs) <;> cases hrs
  · (repeat' split at hrs) <;> cases hrs
  · (repeat' split at hrs) <;> cases hrs
  · (repeat' split at hrs) <;> cases hrs
  · (repeat' split at hrs) <;> cases hrs
  · split at hrs
    · split at hrs
      · unfold rget at hrs
        (repeat' split at hrs) <;> cases hrs
      · cases hrs
    · cases hrs
  · split at hrs
    · split at hrs
      · unfold rput at hrs
        (repeat' split at hrs) <;> cases hrs
      · cases hrs
    · cases hrs
  · (repeat' split at hrs) <;> cases hrs
  · (repeat' split at hrs) <;> cases hrs
  · (repeat' split at hrs) <;> cases hrs
  · (repeat' split at hrs) <;> cases hrs
  · (repeat' split at hrs) <;> cases hrs
  · (repeat' split at hrs) <;> cases hrs
  · (repeat' split at hrs) <;> cases hrs
  · (repeat' split at hrs) <;> cases hrs
  · (repeat' split at hrs) <;> cases hrs
  · (repeat' split at hrs) <;> cases hrs
  · (repeat' split at hrs) <;> cases hrs
  · (repeat' split at hrs) <;> cases hrs
  · (repeat' split at hrs) <;> cases hrs
  · (repeat' split at hrs) <;> cases hrs
  · (repeat' split at hrs) <;> cases hrs
  · (repeat' split at hrs) <;> cases hrs
  · (repeat' split at hrs) <;> cases hrs
  · (repeat' split at hrs) <;> cases hrs
  · (repeat' split at hrs) <;> cases hrs
  · (repeat' split at hrs) <;> cases hrs
  · (repeat' split at hrs) <;> cases hrs
  · (repeat' split at hrs) <;> cases hrs
  · (repeat' split at hrs) <;> cases hrs
  · (repeat' split at hrs) <;> cases hrs
  · (repeat' split at hrs) <;> cases hrs
  · (repeat' split at hrs) <;> cases hrs
  · (repeat' split at hrs) <;> cases hrs
  · (repeat' split at hrs) <;> cases hrs
  · (repeat' split at hrs) <;> cases hrs
  · (repeat' split at hrs) <;> cases hrs
  · (repeat' split at hrs) <;> cases hrs
  · (repeat' split at hrs) <;> cases hrs
  · (repeat' split at hrs) <;> cases hrs
  · (repeat' split at hrs) <;> cases hrs
  · (repeat' split at hrs) <;> cases hrs
  · (repeat' split at hrs) <;> cases hrs
  · rename_i ix
    split at hrs
    case isFalse => cases hrs
    rename_i hl
    subst hl
    split at hrs
    case h_2 => cases hrs
    rename_i q hf
    obtain ⟨mid, nest, wi⟩ := q
    split at hrs
    case isFalse => cases hrs
    rename_i hn
    obtain ⟨rfl, k1, k2⟩ := key hrs
    exact ⟨_, ix, nest, wi, rfl, hd, Or.inl ⟨rfl, k1, hn⟩, hf, k2.1, by rw [k2.2.1, k1], k2.2.2⟩
  · rename_i ix
    split at hrs
    case isFalse => cases hrs
    rename_i hl
    subst hl
    split at hrs
    · rename_i q hf
      obtain ⟨mid, nest, wi⟩ := q
      obtain ⟨rfl, k1, k2⟩ := key hrs
      exact ⟨_, ix, nest, wi, rfl, hd, Or.inr (Or.inl ⟨rfl, k1⟩), hf, k2.1, by rw [k2.2.1, k1], k2.2.2⟩
    · split at hrs
      · unfold rjdk at hrs
        (repeat' split at hrs) <;> cases hrs
      · cases hrs
  · rename_i ix
    split at hrs
    case isFalse => cases hrs
    rename_i hl
    subst hl
    split at hrs
    · rename_i q hf
      obtain ⟨mid, nest, wi⟩ := q
      obtain ⟨rfl, k1, k2⟩ := key hrs
      exact ⟨_, ix, nest, wi, rfl, hd, Or.inr (Or.inr ⟨rfl, k1⟩), hf, k2.1, by rw [k2.2.1, k1], k2.2.2⟩
    · split at hrs
      · split at hrs <;> cases hrs
      · cases hrs
  · cases hrs
theorem rc_ret {m pc len op a : Nat} {b : Int} {tb : List (Int × Nat)} (h : rc m pc = some (len, op, a, b, tb)) : 40 ≤ op → op ≤ 42 → ∃ raw : Instr, decode (m_cd m) pc = .ok (raw, 1) ∧ (op = 40 → retOk m raw none) ∧ (op = 41 → ∀ x : Int, (a = 1 ∨ x = 0 ∨ x = 1) → retOk m raw (some (vI x))) ∧ (op = 42 → ∀ x : Int, retOk m raw (some (vL x))) := by
  intro ho1 ho2
  unfold rc at h
  split at h
  case h_2 => cases h
  rename_i i len' hd
  split at h
  case h_2 => cases h
  rename_i r hrs
  cases h
  unfold rs at hrs
  split at hrs
  · (repeat' split at hrs) <;> first | (cases hrs; done) | (cases hrs; omega)
  · (repeat' split at hrs) <;> first | (cases hrs; done) | (cases hrs; omega)
  · (repeat' split at hrs) <;> first | (cases hrs; done) | (cases hrs; omega)
  · (repeat' split at hrs) <;> first | (cases hrs; done) | (cases hrs; omega)
  · (repeat' split at hrs) <;> first | (cases hrs; done) | (cases hrs; omega)
  · (repeat' split at hrs) <;> first | (cases hrs; done) | (cases hrs; omega)
  · (repeat' split at hrs) <;> first | (cases hrs; done) | (cases hrs; omega)
  · (repeat' split at hrs) <;> first | (cases hrs; done) | (cases hrs; omega)
  · (repeat' split at hrs) <;> first | (cases hrs; done) | (cases hrs; omega)
  · (repeat' split at hrs) <;> first | (cases hrs; done) | (cases hrs; omega)
  · (repeat' split at hrs) <;> first | (cases hrs; done) | (cases hrs; omega)
  · (repeat' split at hrs) <;> first | (cases hrs; done) | (cases hrs; omega)
  · (repeat' split at hrs) <;> first | (cases hrs; done) | (cases hrs; omega)
  · (repeat' split at hrs) <;> first | (cases hrs; done) | (cases hrs; omega)
  · (repeat' split at hrs) <;> first | (cases hrs; done) | (cases hrs; omega)
  · split at hrs
    · split at hrs
      · unfold rget at hrs
        (repeat' split at hrs) <;> cases hrs <;> omega
      · cases hrs
    · cases hrs
  · split at hrs
    · split at hrs
      · unfold rput at hrs
        (repeat' split at hrs) <;> cases hrs <;> omega
      · cases hrs
    · cases hrs
  · (repeat' split at hrs) <;> first | (cases hrs; done) | (cases hrs; omega)
  · (repeat' split at hrs) <;> first | (cases hrs; done) | (cases hrs; omega)
  · (repeat' split at hrs) <;> first | (cases hrs; done) | (cases hrs; omega)
  · (repeat' split at hrs) <;> first | (cases hrs; done) | (cases hrs; omega)
  · (repeat' split at hrs) <;> first | (cases hrs; done) | (cases hrs; omega)
  · (repeat' split at hrs) <;> first | (cases hrs; done) | (cases hrs; omega)
  · (repeat' split at hrs) <;> first | (cases hrs; done) | (cases hrs; omega)
  · (repeat' split at hrs) <;> first | (cases hrs; done) | (cases hrs; omega)
  · (repeat' split at hrs) <;> first | (cases hrs; done) | (cases hrs; omega)
  · (repeat' split at hrs) <;> first | (cases hrs; done) | (cases hrs; omega)
  · (repeat' split at hrs) <;> first | (cases hrs; done) | (cases hrs; omega)
  · (repeat' split at hrs) <;> first | (cases hrs; done) | (cases hrs; omega)
  · (repeat' split at hrs) <;> first | (cases hrs; done) | (cases hrs; omega)
  · (repeat' split at hrs) <;> first | (cases hrs; done) | (cases hrs; omega)
  · (repeat' split at hrs) <;> first | (cases hrs; done) | (cases hrs; omega)
  · (repeat' split at hrs) <;> first | (cases hrs; done) | (cases hrs; omega)
  · (repeat' split at hrs) <;> first | (cases hrs; done) | (cases hrs; omega)
  · (repeat' split at hrs) <;> first | (cases hrs; done) | (cases hrs; omega)
  · (repeat' split at hrs) <;> first | (cases hrs; done) | (cases hrs; omega)
  · (repeat' split at hrs) <;> first | (cases hrs; done) | (cases hrs; omega)
  · (repeat' split at hrs) <;> first | (cases hrs; done) | (cases hrs; omega)
  · (repeat' split at hrs) <;> first | (cases hrs; done) | (cases hrs; omega)
  · (repeat' split at hrs) <;> first | (cases hrs; done) | (cases hrs; omega)
  · (repeat' split at hrs) <;> first | (cases hrs; done) | (cases hrs; omega)
  · (repeat' split at hrs) <;> first | (cases hrs; done) | (cases hrs; omega)
  · (repeat' split at hrs) <;> first | (cases hrs; done) | (cases hrs; omega)
  · (repeat' split at hrs) <;> first | (cases hrs; done) | (cases hrs; omega)
  · (repeat' split at hrs) <;> first | (cases hrs; done) | (cases hrs; omega)
  · (repeat' split at hrs) <;> first | (cases hrs; done) | (cases hrs; omega)
  · (repeat' split at hrs) <;> first | (cases hrs; done) | (cases hrs; omega)
  · (repeat' split at hrs) <;> first | (cases hrs; done) | (cases hrs; omega)
  · (repeat' split at hrs) <;> first | (cases hrs; done) | (cases hrs; omega)
  · (repeat' split at hrs) <;> first | (cases hrs; done) | (cases hrs; omega)
  · split at hrs
    case isFalse => cases hrs
    rename_i hl
    obtain ⟨rfl, hk⟩ := hl
    cases hrs
    refine ⟨_, hd, fun z => by omega, fun _ x hx => ⟨rfl, ?_⟩, fun z => by omega⟩
    rcases hk with hk | hk
    · exact Or.inl hk
    · exact Or.inr ⟨hk, hx.resolve_left (by omega)⟩
  · split at hrs
    case isFalse => cases hrs
    rename_i hl
    obtain ⟨rfl, hk⟩ := hl
    cases hrs
    exact ⟨_, hd, fun z => by omega, fun z => by omega, fun _ x => ⟨rfl, hk⟩⟩
  · split at hrs
    case isFalse => cases hrs
    rename_i hl
    obtain ⟨rfl, hk⟩ := hl
    cases hrs
    exact ⟨_, hd, fun _ => ⟨rfl, hk⟩, fun z => by omega, fun z => by omega⟩
  · split at hrs
    · split at hrs
      · split at hrs
        · unfold rcall at hrs
          split at hrs <;> cases hrs
          omega
        · cases hrs
      · cases hrs
    · cases hrs
  · split at hrs
    · split at hrs
      · unfold rcall at hrs
        split at hrs <;> cases hrs
        omega
      · split at hrs
        · unfold rjdk at hrs
          (repeat' split at hrs) <;> first | (cases hrs; done) | (cases hrs; omega)
        · cases hrs
    · cases hrs
  · split at hrs
    · split at hrs
      · unfold rcall at hrs
        split at hrs <;> cases hrs
        omega
      · split at hrs
        · split at hrs <;> first | (cases hrs; done) | (cases hrs; omega)
        · cases hrs
    · cases hrs
  · cases hrs
theorem sim : ∀ f, SIM f := by
  intro f
  induction f with
  | zero =>
    intro m pc ls st h v h' e
    cases e
  | succ f ih =>
    intro m pc ls st h v h' e hl hst hI X ad cells slots hX hm hr hc hs hF
    subst hm
    unfold arun at e
    split at e
    · cases e
    rename_i len op a b tb hrc
    split at e
    · rename_i hop
      split at e
      · cases e
      rename_i pc' ls' st' h1 hp
      obtain ⟨a1, a2, a3, a4, a5, -⟩ := pstep_ok hp hl hst hI
      obtain ⟨-, -, b3, b4⟩ := arun_ok _ _ _ _ _ _ _ _ e a1 a2 a3
      refine am_step hX hr hrc hop hp hst (by omega) (by omega) (fun ad' cells' slots' hag hc' hs' => ?_)
      refine ih (xm X) pc' ls' st' h1 v h' e a1 a2 a3 X ad' cells' slots' hX rfl hr (by omega) (by omega) (fun ad2 c2 s2 pc2 raw ls2 hag2 hc2 hs2 hd2 hr2 => ?_)
      exact hF ad2 c2 s2 pc2 raw ls2 (fun o ho => (hag2 o (by omega)).trans (hag o (by omega))) (by omega) (by omega) hd2 hr2
    · rename_i hop
      split at e
      · rename_i h40
        subst h40
        split at e
        · cases e
          obtain ⟨raw, hd, hret⟩ : ∃ raw, decode (m_cd (xm X)) pc = .ok (raw, 1) ∧ retOk (xm X) raw none := by
            obtain ⟨raw, h1, h2⟩ := rc_ret hrc (by omega) (by omega)
            exact ⟨raw, h1, h2.1 rfl⟩
          exact hF ad cells slots pc raw ls (fun _ _ => rfl) rfl rfl hd hret
        · cases e
      · split at e
        · rename_i h41
          subst h41
          split at e
          · split at e
            · rename_i hx
              cases e
              rename_i x
              obtain ⟨raw, hd, hret⟩ : ∃ raw, decode (m_cd (xm X)) pc = .ok (raw, 1) ∧ retOk (xm X) raw (some (vI x)) := by
                obtain ⟨raw, h1, h2⟩ := rc_ret hrc (by omega) (by omega)
                exact ⟨raw, h1, h2.2.1 rfl x hx⟩
              exact hF ad cells slots pc raw ls (fun _ _ => rfl) rfl rfl hd hret
            · cases e
          · cases e
        · split at e
          · rename_i h42
            subst h42
            split at e
            · cases e
              rename_i x
              obtain ⟨raw, hd, hret⟩ : ∃ raw, decode (m_cd (xm X)) pc = .ok (raw, 1) ∧ retOk (xm X) raw (some (vL x)) := by
                obtain ⟨raw, h1, h2⟩ := rc_ret hrc (by omega) (by omega)
                exact ⟨raw, h1, h2.2.2 rfl x⟩
              exact hF ad cells slots pc raw ls (fun _ _ => rfl) rfl rfl hd hret
            · cases e
          · split at e
            · rename_i h43
              subst h43
              split at e
              · rename_i hcond
                obtain ⟨g1, g2, g3, g4⟩ := hcond
                split at e
                · cases e
                rename_i v1 h1 hcall
                split at e
                · rename_i hrefs
                  obtain ⟨raw, ix, nest, wi, rfl, hd, hraw, hf, q1, q2, q3, q4, q5, q6⟩ := rc_call hrc
                  have hlen : (st.take b.toNat).length = b.toNat := by rw [List.length_take]; omega
                  have has := okL_rev (okL_take (n := b.toNat) hst)
                  obtain ⟨a1, a2, a4, a5⟩ := arun_ok _ _ _ _ _ _ _ _ hcall (okL_entry has) okL_nil hI
                  have hst2 := okL_app.mpr ⟨a1, okL_drop (n := b.toNat) hst⟩
                  obtain ⟨-, -, b3, b4⟩ := arun_ok _ _ _ _ _ _ _ _ e hl hst2 a2
                  have hwr : wcat (st.take b.toNat).reverse = (st.take b.toNat).reverse.length := by
                    rw [List.length_reverse, hlen]
                    unfold wcat
                    rw [List.map_reverse, List.sum_reverse]
                    exact g2
                  have key := am_call ih (X := X) (ad := ad) (cells := cells) (slots := slots) (pc := pc) (as := (st.take b.toNat).reverse) (rest := st.drop b.toNat) hX hd hraw hf (mtb_nz hf) q1 q2 q3 q4 q5 (by rw [List.length_reverse, hlen, q6]; simp) hwr g3 g4 has hI hcall hrefs (by omega) (by omega) (fun ad' cells' slots' hag hc' hs' => ?_)
                  · rw [List.reverse_reverse, List.take_append_drop] at key
                    exact key
                  · refine ih (xm X) _ ls _ h1 v h' e hl hst2 a2 X ad' cells' slots' hX rfl hr (by omega) (by omega) (fun ad2 c2 s2 pc2 raw ls2 hag2 hc2 hs2 hd2 hr2 => ?_)
                    exact hF ad2 c2 s2 pc2 raw ls2 (fun o ho => (hag2 o (by omega)).trans (hag o (by omega))) (by omega) (by omega) hd2 hr2
                · cases e
              · cases e
            · cases e
end
section
/-! THE CLAIM OUT OF ONE WALK OF THE LAW'S BODY. Your part is whole_start (and what it stands on); all else here is the same for every law, but numbers. -/
def R_law : String := "RoundSlackLaw"
def lw_P (b : Addr) (xs : List Int32) (args : Array Value) (s : State) : Prop := args = #[.ref b] ∧ s.IntsAt b xs ∧ xs.length ≤ 3072 ∧ (Jvm.Cond.and given_1 narrow_1).before args s = true
def lw_Q (_ : Array Value) (s : State) (o : Outcome) (t : State) : Prop := o = .returned (some (.int 1)) ∧ Framed s o t [] 600000 7302250
def lw_Z (below : List Frame) (a : Array Value) (s : State) : State → Prop := fun t => ∃ o, t.status = .running ∧ Ended t below o ∧ lw_Q a s o t
/-- the law's own end, with 1 on the stack, nothing written that was there before, its room as the claim has it -/
theorem lw_ret {p : Program} {l : Launch} {e : Env} {s : State} {m : MethodId} {below : List Frame} {meth : Method} {c : Code} {b : Nat} (hx : p.tables.exec = Jvm.exec) (hb : c.code = code) (hr : meth.sig.returnType = ret) (hlocks : meth.locks = false) {pc : Nat} {H : Heap} {ls : Array Slot} (hdg : decode code pc = .ok (.ireturn, 1)) : W p l e room_1 s m #[Value.ref b] below meth c H [] 600000 7302250 (lw_Z below #[Value.ref b] s) (F0 m pc ls [.int 1]) := by
  intro T hT X
  obtain ⟨fs, hret, hrun, hended, hW, hframe⟩ := X.leave (v := some (.int 1)) (hlocks := hlocks) (fun h => by rw [hr] at h; cases h)
  have hmeth' : T.vm.method? m = some meth := X.method'
  refine ⟨T.setFrames fs, ?_, .returned (some (.int 1)), hrun, hended, rfl, ⟨_, rfl⟩, hW, hframe⟩
  jvm_step X.here [X.here.top, hx, hb, hdg, hmeth', hr, ret, narrow_b1]
  (try refine ⟨rfl, ?_⟩); (try refine ⟨rfl, ?_⟩)
  first | (intro acts; rw [hret _ acts rfl rfl rfl]) | rw [hret _ _ rfl rfl rfl]
  exact Steps.refl _
/-- what holds at the law's entry: the machine, the code, the tables' words (any of lw_tbl by 'hts w (by decide +kernel)'), the script of L ints xs at the cell b, what the Statement gives of the start (any of its parts by flat_of_before) -/
def lw_At (p : Program) (s : State) (m : MethodId) (meth : Method) (c : Code) (b L : Nat) (xs : Nat → Int32) : Prop :=
  p.tables.exec = Jvm.exec ∧ c.code = code ∧ meth.sig.returnType = ret ∧ c.maxLocals = 4 ∧ s.vm.findClass R_law = some m.cls ∧ (∀ w ∈ lw_tbl, w.before #[Value.ref b] s = true) ∧ va_X b L xs s s.heap ∧ b < s.heap.size ∧ meth.locks = false ∧ (Jvm.Cond.and given_1 narrow_1).before #[Value.ref b] s = true
def scrI (L : Nat) (xs : Nat → Int32) : Nat → Nat → Int := fun o k => if o = 1000 then (xs k).toInt else if o = 1001 ∧ k = 0 then (L : Int) else 0
/-- what is left of the claim: the abstract run of the law, over every script, ends with 1 -/
def AbsLaw : Prop := ∀ (L : Nat) (xs : Nat → Int32), L ≤ 3072 → ∃ (f : Nat) (h' : AH), arun f 0 0 [vR 1000, vU, vU, vU] [] (scrI L xs, []) = some (some (vI 1), h') ∧ sl h'.2 ≤ 7302250
theorem lw_gt_in {w : Jvm.Cond} (h : w ∈ lw_gt) : w ∈ lw_tbl := (List.mem_filter.mp h).1
theorem lw_at {i : Nat} {w : Jvm.Cond} (h : lw_tbl[i]? = some w) : w ∈ lw_tbl := List.mem_of_getElem? h
theorem arr_known {s : State} {args : Array Value} {ty : FieldType} (h : (Jvm.Cond.arrayClass ty).before args s = true) : ∃ cA : ClassId, s.vm.findClass ("[" ++ ty.toString) = some cA ∧ ArrOfT s cA ty := by
  obtain ⟨c, k, comp, h1, h2, h3⟩ := Jvm.Cond.arrayClass_spec (show (Jvm.Cond.arrayClass ty).holds args s none s [] = true from h)
  exact ⟨c, h1, fun n z => ⟨fun q hq => (by cases hq), k, h2, comp, h3⟩⟩
theorem start_of (HA : AbsLaw) {p : Program} {e : Env} {s : State} {m : MethodId} {below : List Frame} {meth : Method} {c : Code} (l : Launch) {b L : Nat} {xs : Nat → Int32} (hL : L ≤ 3072) (C0 : lw_At p s m meth c b L xs) : W p l e room_1 s m #[Value.ref b] below meth c s.heap [] 0 0 (lw_Z below #[Value.ref b] s) (entryFrame m ([Value.ref b] : List Value).toArray 4) := by
  obtain ⟨hx, hb, hr, hml, hown, hts, hX, hbl, hlocks, hgv⟩ := C0
  obtain ⟨f, h', hrun, hsl⟩ := HA L xs hL
  have kn : ∀ ci, ci < 13 → ∃ (cC : ClassId) (iS : Nat → Nat), ∀ C T N, vwCl[ci]? = some (C, T, N) → u_Kn s C T N cC iS := by
    intro ci hci
    obtain ⟨C, T, N, hcl⟩ := cls_at hci
    obtain ⟨c1, c2, c3, c4, c5, c6, c7, c8⟩ := clsF hcl
    have hw2 := List.all_eq_true.mp w_cls ci (List.mem_range.mpr hci)
    simp only [Bool.and_eq_true] at hw2
    have hi : (Jvm.Cond.instantiable C N).before #[Value.ref b] s = true := by rw [c4, c5]; exact hts _ (lw_gt_in (okw_in hw2.1))
    obtain ⟨cC, iS, hk⟩ := u_known (C := C) (T := T) (N := N) hts (fun w hw => lw_gt_in (c1 w hw)) hi
    refine ⟨cC, iS, fun C' T' N' h' => ?_⟩
    rw [hcl] at h'
    cases h'
    exact hk
  obtain ⟨dC, dI, hKc⟩ : ∃ (dC : Nat → ClassId) (dI : Nat → Nat → Nat), ∀ (k : Nat) (q : vw_C), vwCl[k]? = some q → u_Kn s q.1 q.2.1 q.2.2 (dC k) (dI k) := by
    refine ⟨fun k => if h : k < 13 then (kn k h).choose else (kn 0 (by decide)).choose, fun k => if h : k < 13 then (kn k h).choose_spec.choose else fun _ => 0, fun k q hq => ?_⟩
    have hk : k < 13 := (List.getElem?_eq_some_iff.mp hq).1
    simp only [dif_pos hk]
    obtain ⟨C, T, N⟩ := q
    exact (kn k hk).choose_spec.choose_spec C T N hq
  obtain ⟨a0, f0, g0⟩ := arr_known (hts _ (lw_gt_in w_arrI))
  obtain ⟨a1, f1, g1⟩ := arr_known (hts _ (lw_gt_in w_arrB))
  have hAO : (Jvm.Cond.arrayOver (.object "RoundSlack$Rounds")).before #[Value.ref b] s = true := hts _ (lw_at (i := 242) (by decide +kernel))
  have hAA : (Jvm.Cond.arrayOver (.array .int)).before #[Value.ref b] s = true := hts _ (lw_at (i := 123) (by decide +kernel))
  obtain ⟨comp3, a3, k3, h31, -, h33, h34, h35⟩ := Jvm.Cond.arrayOver_spec (show (Jvm.Cond.arrayOver (.object "RoundSlack$Rounds")).holds #[Value.ref b] s none s [] = true from hAO)
  obtain ⟨comp2, a2, k2, h21, h23, h24, h25⟩ := Jvm.Cond.arrayOver_specA (show (Jvm.Cond.arrayOver (.array .int)).holds #[Value.ref b] s none s [] = true from hAA)
  have hK : va_K (dC, dI) vwCl (tysF (fun k => match k with | 0 => a0 | 1 => a1 | 2 => a2 | _ => a3)) s := by
    refine ⟨hKc, fun k q hq => ?_⟩
    match k, hq with
    | 0, hq => cases hq; exact ⟨g0, f0⟩
    | 1, hq => cases hq; exact ⟨g1, f1⟩
    | 2, hq => cases hq; exact ⟨fun n z => ⟨fun q hq => (by cases hq), k2, h23, comp2, h24⟩, h25⟩
    | 3, hq => cases hq; exact ⟨fun n z => ⟨fun q hq => (by cases hq), k3, h33, comp3, h34⟩, ⟨k3, comp3, h33, h34, h31, h35⟩⟩
    | k + 4, hq => simp [tysF] at hq
  have hnw : nwP s := by
    refine ⟨fun w hw => ?_, va_AO.of hAO, hAA⟩
    obtain ⟨q, hq, rfl⟩ := List.mem_map.mp hw
    obtain ⟨hq1, hq2⟩ := List.mem_filter.mp hq
    have h9 := List.all_eq_true.mp mtb_ok _ hq1
    rw [if_neg (by simpa using hq2)] at h9
    exact va_Nw.of rfl (hts _ (lw_at (of_decide_eq_true h9)))
  have hA : ∀ q : Nat, s.heap.size ≤ q → (fun q : Nat => s.heap.size ≤ q) q := fun _ h => h
  have hl := lv_entry ([.ref b]) (n := 4) (Nat.le_of_ble_eq_true rfl)
  rw [lg_entry_eq]
  generalize (lg_sl ([.ref b]) ++ List.replicate (4 - (lg_sl ([.ref b])).length) Slot.unset).toArray = L0 at hl ⊢
  have hl : lv_has L0 4 [(0, .ref b)] := hl
  have hLR : LR (fun o => if o = 1000 then b else 0) 4 [vR 1000, vU, vU, vU] L0 := by
    refine ⟨rfl, _, hl, fun q hq => ?_, fun i v hv hn => ?_⟩
    · rw [List.mem_singleton.mp hq]; rfl
    · match i, hv with
      | 0, hv => cases hv; exact List.mem_singleton.mpr rfl
      | 1, hv => cases hv; exact absurd rfl (hn 0)
      | 2, hv => cases hv; exact absurd rfl (hn 0)
      | 3, hv => cases hv; exact absurd rfl (hn 0)
      | i + 4, hv => simp at hv
  have hI : okI (scrI L xs) := by
    intro o k
    unfold scrI
    split
    · exact i32_in _
    · split
      · exact ⟨by omega, by omega⟩
      · exact in0
  have hCX : CX (p, l, e, room_1, s, m, #[Value.ref b], below, meth, c, lw_Z below #[Value.ref b] s, (dC, dI), (fun k => match k with | 0 => a0 | 1 => a1 | 2 => a2 | _ => a3), (fun q : Nat => s.heap.size ≤ q), 0) :=
    ⟨hx, hb, hml, hown, fun w hw => hts w (lw_gt_in hw), fun z => absurd z (by decide), hK, hA, hnw, by decide, by decide⟩
  have hSR : SR (dC, dI) (fun k => match k with | 0 => a0 | 1 => a1 | 2 => a2 | _ => a3) (fun q : Nat => s.heap.size ≤ q) s 0 (fun o => if o = 1000 then b else 0) (scrI L xs, []) s.heap [] := by
    refine ⟨fun k q h => by simp [wd] at h, ⟨fun i j p q h => by simp [wd] at h, fun k q h => by simp [wd] at h⟩, va_S.rf, by simp, fun _ => ⟨L, xs, hX, hbl, Nat.not_le.mpr hbl, hL, rfl, fun k _ => ?_⟩⟩
    exact Int32.ofInt_toInt _
  have hlen := (arun_ps _ _ _ _ _ _ _ _ hrun (by simp)).1
  refine sim f 0 0 [vR 1000, vU, vU, vU] [] (scrI L xs, []) (some (vI 1)) h' hrun ?_ okL_nil hI _ _ 0 0 hCX rfl (by decide) (by show 0 + h'.2.length ≤ 600000 + 0; omega) (by show 0 + sl h'.2 ≤ 7302250 + 0; omega) ?_ L0 s.heap [] hLR hSR
  · intro v hv
    simp only [List.mem_cons, List.not_mem_nil, or_false] at hv
    rcases hv with rfl | rfl | rfl | rfl
    · trivial
    · exact ⟨by decide, by decide⟩
    · exact ⟨by decide, by decide⟩
    · exact ⟨by decide, by decide⟩
  · intro ad' cells' slots' pc' raw ls' hag hc hs hd hret
    intro L9 H9 locs9 hL9 hS9
    obtain ⟨hP9, hD9, hSS9, hlen9, -⟩ := hS9
    obtain ⟨rfl, -⟩ := (show raw = .ireturn ∧ _ from hret)
    have hc2 : cells' + 0 = 0 + h'.2.length := hc
    have hs2 : slots' + 0 = 0 + sl h'.2 := hs
    refine va_forget (fun q hq => hSS9.2.2 q hq) ?_
    refine W.widen (k := 600000) (n := 7302250) (by omega) (by omega) ?_
    exact lw_ret hx hb hr hlocks hd
end
section
/-! level 2: rules over the abstract run, objects fixed -/
abbrev IM : Type := Nat → Nat → Int
def AS (R : Nat → Nat → List AV → List AV → AH → Option (Option AV × AH)) (m pc : Nat) (ls st : List AV) (h : AH) : Option (Option AV × AH) := match rc m pc with
    | none => none
    | some (len, op, a, b, tb) =>
      if op < 40 then (match pstep op a b tb (pc + len) ls st h with
        | none => none
        | some (pc', ls', st', h') => R m pc' ls' st' h')
      else if op = 40 then (match st with | [] => some (none, h) | _ => none)
      else if op = 41 then (match st with | [.inl x] => (if a = 1 ∨ x = 0 ∨ x = 1 then some (some (vI x), h) else none) | _ => none)
      else if op = 42 then (match st with | [.inr (.inl x)] => some (some (vL x), h) | _ => none)
      else if op = 43 then
        (if b.toNat ≤ st.length ∧ wcat (st.take b.toNat) = b.toNat ∧ wcat (st.drop b.toNat) ≤ 8 ∧ recvOk (tk tb) a (st.take b.toNat).reverse h = true then
          (match R a 0 (entryL a (st.take b.toNat).reverse) [] h with
          | none => none
          | some (v, h') => (if h'.2.length = h.2.length ∨ (okRefs h.2.length ls = true ∧ okRefs h.2.length (st.drop b.toNat) = true) then R m (pc + len) ls (v.toList ++ st.drop b.toNat) h' else none))
        else none)
      else none
theorem arun_succ (f m pc : Nat) (ls st : List AV) (h : AH) : arun (f + 1) m pc ls st h = AS (arun f) m pc ls st h := rfl
theorem AS_mono {R R' : Nat → Nat → List AV → List AV → AH → Option (Option AV × AH)} (hR : ∀ m pc ls st h r, R m pc ls st h = some r → R' m pc ls st h = some r) {m pc : Nat} {ls st : List AV} {h : AH} {r : Option AV × AH} (e : AS R m pc ls st h = some r) : AS R' m pc ls st h = some r := by
  unfold AS at e ⊢
  split at e
  · cases e
  rename_i len op a b tb hrc
  split at e
  · rename_i ho
    simp only [if_pos ho]
    split at e
    · cases e
    · exact hR _ _ _ _ _ _ e
  · rename_i ho
    simp only [if_neg ho]
    split at e
    · rename_i h0; simp only [if_pos h0]; exact e
    · rename_i h0
      simp only [if_neg h0]
      split at e
      · rename_i h1; simp only [if_pos h1]; exact e
      · rename_i h1
        simp only [if_neg h1]
        split at e
        · rename_i h2; simp only [if_pos h2]; exact e
        · rename_i h2
          simp only [if_neg h2]
          split at e
          · rename_i h3
            simp only [if_pos h3]
            split at e
            · rename_i h4
              simp only [if_pos h4]
              split at e
              · cases e
              · rename_i v h' hc
                rw [hR _ _ _ _ _ _ hc]
                split at e
                · rename_i h5
                  simp only [if_pos h5]
                  exact hR _ _ _ _ _ _ e
                · cases e
            · cases e
          · cases e
theorem arun_up1 : ∀ (f m pc : Nat) (ls st : List AV) (h : AH) (r : Option AV × AH), arun f m pc ls st h = some r → arun (f + 1) m pc ls st h = some r := by
  intro f
  induction f with
  | zero => intro m pc ls st h r e; cases e
  | succ f ih =>
    intro m pc ls st h r e
    rw [arun_succ] at e ⊢
    exact AS_mono ih e
theorem arun_up {f g m pc : Nat} {ls st : List AV} {h : AH} {r : Option AV × AH} (hfg : f ≤ g) (e : arun f m pc ls st h = some r) : arun g m pc ls st h = some r := by
  obtain ⟨k, rfl⟩ := Nat.le.dest hfg
  induction k with
  | zero => exact e
  | succ k ih => exact arun_up1 _ _ _ _ _ _ _ (ih (by omega))
def GO (S : List AO) (m pc : Nat) (ls st : List AV) (I : IM) (K : Option AV → IM → Prop) : Prop := ∃ (f : Nat) (v : Option AV) (I' : IM), arun f m pc ls st (I, S) = some (v, (I', S)) ∧ K v I'
def CALL (S : List AO) (mid : Nat) (as : List AV) (I : IM) (K : Option AV → IM → Prop) : Prop := GO S mid 0 (entryL mid as) [] I K
theorem GO.imp {S : List AO} {m pc : Nat} {ls st : List AV} {I : IM} {K K' : Option AV → IM → Prop} (h : GO S m pc ls st I K) (hK : ∀ v I', K v I' → K' v I') : GO S m pc ls st I K' := by
  obtain ⟨f, v, I', e, k⟩ := h
  exact ⟨f, v, I', e, hK v I' k⟩
section RULES
variable {S : List AO} {m pc len a : Nat} {b : Int} {tb : List (Int × Nat)} {ls st : List AV} {I : IM} {K : Option AV → IM → Prop}
theorem G_step {op pc' : Nat} {ls' st' : List AV} {I' : IM} (hr : rc m pc = some (len, op, a, b, tb)) (ho : op < 40) (hp : pstep op a b tb (pc + len) ls st (I, S) = some (pc', ls', st', (I', S))) (k : GO S m pc' ls' st' I' K) : GO S m pc ls st I K := by
  obtain ⟨f, v, I2, e, k⟩ := k
  refine ⟨f + 1, v, I2, ?_, k⟩
  rw [arun_succ]
  unfold AS
  rw [hr]
  simp only [if_pos ho]
  rw [hp]
  exact e
theorem G_const (hr : rc m pc = some (len, 0, a, b, tb)) (hb : inR b) (k : GO S m (pc + len) ls (vI b :: st) I K) : GO S m pc ls st I K := G_step hr (by decide) (if_pos hb) k
theorem G_lconst (hr : rc m pc = some (len, 1, a, b, tb)) (hb : inL b) (k : GO S m (pc + len) ls (vL b :: st) I K) : GO S m pc ls st I K := G_step hr (by decide) (if_pos hb) k
theorem G_loadI {x : Int} (hr : rc m pc = some (len, 2, a, b, tb)) (hl : ls[a]? = some (vI x)) (k : GO S m (pc + len) ls (vI x :: st) I K) : GO S m pc ls st I K := G_step hr (by decide) (by show p2 a b tb _ ls st (I, S) = _; unfold p2; rw [hl]) k
theorem G_loadR {x : Nat} (hr : rc m pc = some (len, 3, a, b, tb)) (hl : ls[a]? = some (vR x)) (k : GO S m (pc + len) ls (vR x :: st) I K) : GO S m pc ls st I K := G_step hr (by decide) (by show p3 a b tb _ ls st (I, S) = _; unfold p3; rw [hl]) k
theorem G_storeI {x : Int} (hr : rc m pc = some (len, 4, a, b, tb)) (hl : a < ls.length) (k : GO S m (pc + len) (ls.set a (vI x)) st I K) : GO S m pc ls (vI x :: st) I K := G_step hr (by decide) (if_pos hl) k
theorem G_storeR {x : Nat} (hr : rc m pc = some (len, 5, a, b, tb)) (hl : a < ls.length) (k : GO S m (pc + len) (ls.set a (vR x)) st I K) : GO S m pc ls (vR x :: st) I K := G_step hr (by decide) (if_pos hl) k
theorem G_iinc {x : Int} (hr : rc m pc = some (len, 6, a, b, tb)) (hl : ls[a]? = some (vI x)) (hx : inR (x + b)) (k : GO S m (pc + len) (ls.set a (vI (x + b))) st I K) : GO S m pc ls st I K := G_step hr (by decide) (by show p6 a b tb _ ls st (I, S) = _; unfold p6; rw [hl]; exact if_pos hx) k
theorem G_getI {o sz : Nat} {rf : List Nat} (hr : rc m pc = some (len, 7, a, b, tb)) (hq : S[o]? = some (a, sz, rf)) (hz : b.toNat < sz) (k : GO S m (pc + len) ls (vI (I o b.toNat) :: st) I K) : GO S m pc ls (vR o :: st) I K := G_step hr (by decide) (by show p7 a b tb _ ls (vR o :: st) (I, S) = _; unfold p7; simp only [hq]; exact if_pos ⟨trivial, hz⟩) k
theorem G_getR {o sz q : Nat} {rf : List Nat} (hr : rc m pc = some (len, 8, a, b, tb)) (hq : S[o]? = some (a, sz, rf)) (hz : b.toNat < sz) (hf : rf[b.toNat]? = some q) (hq3 : q < 1000) (k : GO S m (pc + len) ls (vR q :: st) I K) : GO S m pc ls (vR o :: st) I K := G_step hr (by decide) (by show p8 a b tb _ ls (vR o :: st) (I, S) = _; unfold p8; simp only [hq, hf]; exact if_pos ⟨trivial, hz, hq3⟩) k
theorem G_putI {o sz : Nat} {rf : List Nat} {x : Int} (hr : rc m pc = some (len, 9, a, b, tb)) (hq : S[o]? = some (a, sz, rf)) (hz : b.toNat < sz) (ht : tb = [] ∨ x = 0 ∨ x = 1) (k : GO S m (pc + len) ls st (iup I o b.toNat x) K) : GO S m pc ls (vI x :: vR o :: st) I K := G_step hr (by decide) (by show p9 a b tb _ ls (vI x :: vR o :: st) (I, S) = _; unfold p9; simp only [hq]; exact if_pos ⟨trivial, hz, ht⟩) k
theorem G_ald {o sz : Nat} {rf : List Nat} {i : Int} (hr : rc m pc = some (len, 11, a, b, tb)) (hq : S[o]? = some (a, sz, rf)) (h0 : 0 ≤ i) (h1 : i < sz) (k : GO S m (pc + len) ls (vI (I o i.toNat) :: st) I K) : GO S m pc ls (vI i :: vR o :: st) I K := G_step hr (by decide) (by show p11 a b tb _ ls (vI i :: vR o :: st) (I, S) = _; unfold p11; simp only [hq]; exact if_pos ⟨trivial, h0, h1⟩) k
theorem G_aldR {o sz kd q : Nat} {rf : List Nat} {i : Int} (hr : rc m pc = some (len, 12, a, b, tb)) (hq : S[o]? = some (kd, sz, rf)) (hk : kd = 102 ∨ kd = 103) (h0 : 0 ≤ i) (h1 : i < sz) (hf : rf[i.toNat]? = some q) (hq3 : q < 1000) (k : GO S m (pc + len) ls (vR q :: st) I K) : GO S m pc ls (vI i :: vR o :: st) I K := G_step hr (by decide) (by show p12 a b tb _ ls (vI i :: vR o :: st) (I, S) = _; unfold p12; simp only [hq, hf]; exact if_pos ⟨hk, h0, h1, hq3⟩) k
theorem G_ast {o sz : Nat} {rf : List Nat} {i x : Int} (hr : rc m pc = some (len, 13, a, b, tb)) (hq : S[o]? = some (a, sz, rf)) (h0 : 0 ≤ i) (h1 : i < sz) (hb : a = 100 ∨ (-128 ≤ x ∧ x ≤ 127)) (k : GO S m (pc + len) ls st (iup I o i.toNat x) K) : GO S m pc ls (vI x :: vI i :: vR o :: st) I K := G_step hr (by decide) (by show p13 a b tb _ ls (vI x :: vI i :: vR o :: st) (I, S) = _; unfold p13; simp only [hq]; exact if_pos ⟨trivial, h0, h1, hb⟩) k
theorem G_alen {o sz kd : Nat} {rf : List Nat} (hr : rc m pc = some (len, 15, a, b, tb)) (hq : S[o]? = some (kd, sz, rf)) (h1 : 100 ≤ kd) (h2 : kd ≤ 103) (h3 : sz ≤ 100000) (k : GO S m (pc + len) ls (vI sz :: st) I K) : GO S m pc ls (vR o :: st) I K := G_step hr (by decide) (by show p15 a b tb _ ls (vR o :: st) (I, S) = _; unfold p15; simp only [hq]; exact if_pos ⟨h1, h2, h3⟩) k
theorem G_bop {x y z : Int} (hr : rc m pc = some (len, 16, a, b, tb)) (hz : bop a x y = some z) (k : GO S m (pc + len) ls (vI z :: st) I K) : GO S m pc ls (vI y :: vI x :: st) I K := G_step hr (by decide) (by show p16 a b tb _ ls (vI y :: vI x :: st) (I, S) = _; unfold p16; simp only [hz]) k
theorem G_i2b {x : Int} (hr : rc m pc = some (len, 17, a, b, tb)) (h1 : -128 ≤ x ∧ x ≤ 127) (k : GO S m (pc + len) ls (vI x :: st) I K) : GO S m pc ls (vI x :: st) I K := G_step hr (by decide) (if_pos h1) k
theorem G_i2l {x : Int} (hr : rc m pc = some (len, 18, a, b, tb)) (k : GO S m (pc + len) ls (vL x :: st) I K) : GO S m pc ls (vI x :: st) I K := G_step hr (by decide) rfl k
theorem G_lcmp {x y : Int} (hr : rc m pc = some (len, 19, a, b, tb)) (k : GO S m (pc + len) ls (vI (if y < x then 1 else if x = y then 0 else -1) :: st) I K) : GO S m pc ls (vL y :: vL x :: st) I K := G_step hr (by decide) rfl k
theorem G_if {x : Int} (hr : rc m pc = some (len, 20, a, b, tb)) (k : GO S m (if cop a x 0 then b.toNat else pc + len) ls st I K) : GO S m pc ls (vI x :: st) I K := G_step hr (by decide) rfl k
theorem G_icmp {x y : Int} (hr : rc m pc = some (len, 21, a, b, tb)) (k : GO S m (if cop a x y then b.toNat else pc + len) ls st I K) : GO S m pc ls (vI y :: vI x :: st) I K := G_step hr (by decide) rfl k
theorem G_goto (hr : rc m pc = some (len, 22, a, b, tb)) (k : GO S m b.toNat ls st I K) : GO S m pc ls st I K := G_step hr (by decide) rfl k
theorem G_switch {x : Int} (hr : rc m pc = some (len, 23, a, b, tb)) (k : GO S m (tlook tb x b.toNat) ls st I K) : GO S m pc ls (vI x :: st) I K := G_step hr (by decide) rfl k
theorem G_dupI {x : Int} (hr : rc m pc = some (len, 24, a, b, tb)) (k : GO S m (pc + len) ls (vI x :: vI x :: st) I K) : GO S m pc ls (vI x :: st) I K := G_step hr (by decide) rfl k
theorem G_dupR {x : Nat} (hr : rc m pc = some (len, 24, a, b, tb)) (k : GO S m (pc + len) ls (vR x :: vR x :: st) I K) : GO S m pc ls (vR x :: st) I K := G_step hr (by decide) rfl k
theorem G_dup2 {y : Int} {x : Nat} (hr : rc m pc = some (len, 25, a, b, tb)) (k : GO S m (pc + len) ls (vI y :: vR x :: vI y :: vR x :: st) I K) : GO S m pc ls (vI y :: vR x :: st) I K := G_step hr (by decide) rfl k
theorem G_pop {x : Int} (hr : rc m pc = some (len, 26, a, b, tb)) (k : GO S m (pc + len) ls st I K) : GO S m pc ls (vI x :: st) I K := G_step hr (by decide) rfl k
theorem G_abs {x : Int} (hr : rc m pc = some (len, 31, a, b, tb)) (hx : inR (-x)) (hw : wcat st ≤ 8) (k : GO S m (pc + len) ls (vI (if 0 ≤ x then x else -x) :: st) I K) : GO S m pc ls (vI x :: st) I K := G_step hr (by decide) (if_pos ⟨hx, hw⟩) k
theorem G_max {x y : Int} (hr : rc m pc = some (len, 32, a, b, tb)) (hw : wcat st ≤ 8) (k : GO S m (pc + len) ls (vI (if x < y then y else x) :: st) I K) : GO S m pc ls (vI y :: vI x :: st) I K := G_step hr (by decide) (if_pos hw) k
theorem G_min {x y : Int} (hr : rc m pc = some (len, 33, a, b, tb)) (hw : wcat st ≤ 8) (k : GO S m (pc + len) ls (vI (if y < x then y else x) :: st) I K) : GO S m pc ls (vI y :: vI x :: st) I K := G_step hr (by decide) (if_pos hw) k
theorem G_copy {c d zc zd : Nat} {rc0 rd : List Nat} {sp dp n : Int} (hr : rc m pc = some (len, 34, a, b, tb)) (hc : S[c]? = some (100, zc, rc0)) (hd : S[d]? = some (100, zd, rd)) (h1 : 0 ≤ sp) (h2 : 0 ≤ dp) (h3 : 0 ≤ n) (h4 : sp + n ≤ zc) (h5 : dp + n ≤ zd) (hw : wcat st ≤ 8) (k : GO S m (pc + len) ls st (icp I c sp.toNat d dp.toNat n.toNat) K) : GO S m pc ls (vI n :: vI dp :: vR d :: vI sp :: vR c :: st) I K := G_step hr (by decide) (by show p34 a b tb _ ls (vI n :: vI dp :: vR d :: vI sp :: vR c :: st) (I, S) = _; unfold p34; simp only [hc, hd]; exact if_pos ⟨trivial, trivial, h1, h2, h3, h4, h5, hw⟩) k
theorem G_sld {i : Int} (hr : rc m pc = some (len, 36, a, b, tb)) (h0 : 0 ≤ i) (h1 : i < I 1001 0) (k : GO S m (pc + len) ls (vI (I 1000 i.toNat) :: st) I K) : GO S m pc ls (vI i :: vR 1000 :: st) I K := G_step hr (by decide) (if_pos ⟨rfl, h0, h1⟩) k
theorem G_slen (hr : rc m pc = some (len, 37, a, b, tb)) (k : GO S m (pc + len) ls (vI (I 1001 0) :: st) I K) : GO S m pc ls (vR 1000 :: st) I K := G_step hr (by decide) (by show p37 a b tb _ ls (vR 1000 :: st) (I, S) = _; unfold p37; exact if_pos rfl) k
theorem G_ret0 (hr : rc m pc = some (len, 40, a, b, tb)) (k : K none I) : GO S m pc ls [] I K := ⟨1, none, I, by rw [arun_succ]; unfold AS; rw [hr]; rfl, k⟩
theorem G_retI {x : Int} (hr : rc m pc = some (len, 41, a, b, tb)) (hx : a = 1 ∨ x = 0 ∨ x = 1) (k : K (some (vI x)) I) : GO S m pc ls [vI x] I K := ⟨1, some (vI x), I, by rw [arun_succ]; unfold AS; rw [hr]; exact if_pos hx, k⟩
theorem G_retL {x : Int} (hr : rc m pc = some (len, 42, a, b, tb)) (k : K (some (vL x)) I) : GO S m pc ls [vL x] I K := ⟨1, some (vL x), I, by rw [arun_succ]; unfold AS; rw [hr]; rfl, k⟩
theorem G_call {as rest : List AV} (hr : rc m pc = some (len, 43, a, b, tb)) (hst : as.reverse ++ rest = st) (hn : b.toNat = as.length) (hw : wcat as.reverse = as.length) (hw8 : wcat rest ≤ 8) (hrec : recvOk (tk tb) a as (I, S) = true) (k : CALL S a as I (fun v I' => GO S m (pc + len) ls (v.toList ++ rest) I' K)) : GO S m pc ls st I K := by
  obtain ⟨f, v, I1, e1, g, v2, I2, e2, k⟩ := k
  refine ⟨max f g + 1, v2, I2, ?_, k⟩
  rw [arun_succ]
  unfold AS
  rw [hr]
  have ht : st.take b.toNat = as.reverse := by rw [← hst, hn, ← List.length_reverse, List.take_left']; rfl
  have hd : st.drop b.toNat = rest := by rw [← hst, hn, ← List.length_reverse, List.drop_left']; rfl
  have hl : b.toNat ≤ st.length := by rw [← hst, List.length_append, List.length_reverse]; omega
  simp only [show ¬ (43 : Nat) < 40 by decide, show ¬ (43 : Nat) = 40 by decide, show ¬ (43 : Nat) = 41 by decide, show ¬ (43 : Nat) = 42 by decide, if_false, if_true, ht, hd, List.reverse_reverse]
  rw [if_pos ⟨hl, by rw [hw]; exact hn.symm, hw8, hrec⟩, arun_up (Nat.le_max_left f g) e1]
  simp only [true_or, if_true]
  exact arun_up (Nat.le_max_right f g) e2
theorem g_recv {o k kd sz mid : Nat} {rf : List Nat} {as : List AV} (hq : S[o]? = some (kd, sz, rf)) (hk : m_own mid = kd) : recvOk k mid (vR o :: as) (I, S) = true := by
  unfold recvOk
  simp only [hq, hk]
  simp
end RULES
end
section
/-! the objects that the two constructors make, by number (laid by program) -/
def S0_0 : List AO := [(11, 19, [1, 24, 29, 36, 59, 64, 3000, 71, 78, 192, 193, 194, 195, 204, 208, 210, 212, 231, 236]), (0, 10, [3000, 2, 3, 4, 5, 6, 7, 8, 9, 10]), (100, 13, []), (100, 13, []), (100, 13, []), (100, 13, []), (100, 13, []), (100, 13, []), (100, 13, []), (100, 13, []), (102, 13, [11, 12, 13, 14, 15, 16, 17, 18, 19, 20, 21, 22, 23]), (100, 13, []), (100, 13, []), (100, 13, []), (100, 13, []), (100, 13, []), (100, 13, []), (100, 13, []), (100, 13, []), (100, 13, []), (100, 13, []), (100, 13, []), (100, 13, []), (100, 13, []), (3, 4, [25, 26, 27, 28]), (100, 4, []), (100, 4, []), (100, 4, []), (100, 3, []), (8, 2, [30, 31]), (100, 4, []), (102, 4, [32, 33, 34, 35]), (100, 12, []), (100, 12, []), (100, 12, []), (100, 12, []), (0, 10, [3000, 37, 38, 39, 40, 41, 42, 43, 44, 45]), (100, 13, []), (100, 13, []), (100, 13, []), (100, 13, []), (100, 13, []), (100, 13, []), (100, 13, []), (100, 13, []), (102, 13, [46, 47, 48, 49, 50, 51, 52, 53, 54, 55, 56, 57, 58]), (100, 13, []), (100, 13, []), (100, 13, []), (100, 13, []), (100, 13, []), (100, 13, []), (100, 13, []), (100, 13, []), (100, 13, []), (100, 13, []), (100, 13, []), (100, 13, []), (100, 13, []), (3, 4, [60, 61, 62, 63]), (100, 4, []), (100, 4, []), (100, 4, [])]
def S0_1 : List AO := [(100, 3, []), (8, 2, [65, 66]), (100, 4, []), (102, 4, [67, 68, 69, 70]), (100, 12, []), (100, 12, []), (100, 12, []), (100, 12, []), (8, 2, [72, 73]), (100, 4, []), (102, 4, [74, 75, 76, 77]), (100, 12, []), (100, 12, []), (100, 12, []), (100, 12, []), (9, 3, [79, 3000, 3000]), (103, 16, [80, 87, 94, 101, 108, 115, 122, 129, 136, 143, 150, 157, 164, 171, 178, 185]), (8, 2, [81, 82]), (100, 4, []), (102, 4, [83, 84, 85, 86]), (100, 12, []), (100, 12, []), (100, 12, []), (100, 12, []), (8, 2, [88, 89]), (100, 4, []), (102, 4, [90, 91, 92, 93]), (100, 12, []), (100, 12, []), (100, 12, []), (100, 12, []), (8, 2, [95, 96]), (100, 4, []), (102, 4, [97, 98, 99, 100]), (100, 12, []), (100, 12, []), (100, 12, []), (100, 12, []), (8, 2, [102, 103]), (100, 4, []), (102, 4, [104, 105, 106, 107]), (100, 12, []), (100, 12, []), (100, 12, []), (100, 12, []), (8, 2, [109, 110]), (100, 4, []), (102, 4, [111, 112, 113, 114]), (100, 12, []), (100, 12, []), (100, 12, []), (100, 12, []), (8, 2, [116, 117]), (100, 4, []), (102, 4, [118, 119, 120, 121]), (100, 12, []), (100, 12, []), (100, 12, []), (100, 12, []), (8, 2, [123, 124]), (100, 4, []), (102, 4, [125, 126, 127, 128]), (100, 12, [])]
def S0_2 : List AO := [(100, 12, []), (100, 12, []), (100, 12, []), (8, 2, [130, 131]), (100, 4, []), (102, 4, [132, 133, 134, 135]), (100, 12, []), (100, 12, []), (100, 12, []), (100, 12, []), (8, 2, [137, 138]), (100, 4, []), (102, 4, [139, 140, 141, 142]), (100, 12, []), (100, 12, []), (100, 12, []), (100, 12, []), (8, 2, [144, 145]), (100, 4, []), (102, 4, [146, 147, 148, 149]), (100, 12, []), (100, 12, []), (100, 12, []), (100, 12, []), (8, 2, [151, 152]), (100, 4, []), (102, 4, [153, 154, 155, 156]), (100, 12, []), (100, 12, []), (100, 12, []), (100, 12, []), (8, 2, [158, 159]), (100, 4, []), (102, 4, [160, 161, 162, 163]), (100, 12, []), (100, 12, []), (100, 12, []), (100, 12, []), (8, 2, [165, 166]), (100, 4, []), (102, 4, [167, 168, 169, 170]), (100, 12, []), (100, 12, []), (100, 12, []), (100, 12, []), (8, 2, [172, 173]), (100, 4, []), (102, 4, [174, 175, 176, 177]), (100, 12, []), (100, 12, []), (100, 12, []), (100, 12, []), (8, 2, [179, 180]), (100, 4, []), (102, 4, [181, 182, 183, 184]), (100, 12, []), (100, 12, []), (100, 12, []), (100, 12, []), (8, 2, [186, 187]), (100, 4, []), (102, 4, [188, 189, 190, 191]), (100, 12, [])]
def S0_3 : List AO := [(100, 12, []), (100, 12, []), (100, 12, []), (6, 10, [1, 3000, 3000, 3000, 3000, 3000, 3000, 3000, 3000, 3000]), (4, 3, [1, 24, 192]), (1, 6, [1, 24, 3000, 3000, 3000, 3000]), (5, 12, [29, 193, 196, 197, 3000, 3000, 3000, 3000, 3000, 3000, 3000, 3000]), (100, 4, []), (8, 2, [198, 199]), (100, 4, []), (102, 4, [200, 201, 202, 203]), (100, 12, []), (100, 12, []), (100, 12, []), (100, 12, []), (2, 9, [1, 29, 193, 205, 206, 207, 3000, 3000, 3000]), (100, 4, []), (100, 4, []), (100, 4, []), (10, 2, [209, 3000]), (101, 160, []), (10, 2, [211, 3000]), (101, 64, []), (7, 4, [208, 3000, 3000, 213]), (102, 17, [214, 215, 216, 217, 218, 219, 220, 221, 222, 223, 224, 225, 226, 227, 228, 229, 230]), (100, 7, []), (100, 7, []), (100, 7, []), (100, 7, []), (100, 7, []), (100, 7, []), (100, 7, []), (100, 7, []), (100, 7, []), (100, 7, []), (100, 7, []), (100, 7, []), (100, 7, []), (100, 7, []), (100, 7, []), (100, 7, []), (100, 7, []), (102, 4, [232, 233, 234, 235]), (100, 40, []), (100, 40, []), (100, 40, []), (100, 40, []), (100, 4, []), (12, 35, [238, 239, 3000, 240, 3000, 241, 242, 243, 3000, 3000, 3000, 3000, 3000, 244, 245, 246, 3000, 3000, 3000, 3000, 247, 248, 3000, 3000, 3000, 3000, 3000, 3000, 3000, 249, 3000, 3000, 3000, 250, 251]), (100, 166, []), (100, 166, []), (100, 832, []), (100, 52, []), (100, 52, []), (100, 14, []), (100, 160, []), (100, 140, []), (100, 160, []), (100, 52, []), (100, 12, []), (100, 4, []), (100, 4, []), (100, 160, [])]
def S0 : List AO := S0_0 ++ (S0_1 ++ (S0_2 ++ (S0_3)))
theorem s0_0 : S0[0]? = some (11, 19, [1, 24, 29, 36, 59, 64, 3000, 71, 78, 192, 193, 194, 195, 204, 208, 210, 212, 231, 236]) := rfl
theorem s0_1 : S0[1]? = some (0, 10, [3000, 2, 3, 4, 5, 6, 7, 8, 9, 10]) := rfl
theorem s0_2 : S0[2]? = some (100, 13, []) := rfl
theorem s0_3 : S0[3]? = some (100, 13, []) := rfl
theorem s0_4 : S0[4]? = some (100, 13, []) := rfl
theorem s0_5 : S0[5]? = some (100, 13, []) := rfl
theorem s0_6 : S0[6]? = some (100, 13, []) := rfl
theorem s0_7 : S0[7]? = some (100, 13, []) := rfl
theorem s0_8 : S0[8]? = some (100, 13, []) := rfl
theorem s0_9 : S0[9]? = some (100, 13, []) := rfl
theorem s0_10 : S0[10]? = some (102, 13, [11, 12, 13, 14, 15, 16, 17, 18, 19, 20, 21, 22, 23]) := rfl
theorem s0_11 : S0[11]? = some (100, 13, []) := rfl
theorem s0_12 : S0[12]? = some (100, 13, []) := rfl
theorem s0_13 : S0[13]? = some (100, 13, []) := rfl
theorem s0_14 : S0[14]? = some (100, 13, []) := rfl
theorem s0_15 : S0[15]? = some (100, 13, []) := rfl
theorem s0_16 : S0[16]? = some (100, 13, []) := rfl
theorem s0_17 : S0[17]? = some (100, 13, []) := rfl
theorem s0_18 : S0[18]? = some (100, 13, []) := rfl
theorem s0_19 : S0[19]? = some (100, 13, []) := rfl
theorem s0_20 : S0[20]? = some (100, 13, []) := rfl
theorem s0_21 : S0[21]? = some (100, 13, []) := rfl
theorem s0_22 : S0[22]? = some (100, 13, []) := rfl
theorem s0_23 : S0[23]? = some (100, 13, []) := rfl
theorem s0_24 : S0[24]? = some (3, 4, [25, 26, 27, 28]) := rfl
theorem s0_25 : S0[25]? = some (100, 4, []) := rfl
theorem s0_26 : S0[26]? = some (100, 4, []) := rfl
theorem s0_27 : S0[27]? = some (100, 4, []) := rfl
theorem s0_28 : S0[28]? = some (100, 3, []) := rfl
theorem s0_36 : S0[36]? = some (0, 10, [3000, 37, 38, 39, 40, 41, 42, 43, 44, 45]) := rfl
theorem s0_37 : S0[37]? = some (100, 13, []) := rfl
theorem s0_59 : S0[59]? = some (3, 4, [60, 61, 62, 63]) := rfl
theorem s0_60 : S0[60]? = some (100, 4, []) := rfl
theorem s0_61 : S0[61]? = some (100, 4, []) := rfl
theorem s0_62 : S0[62]? = some (100, 4, []) := rfl
theorem s0_63 : S0[63]? = some (100, 3, []) := rfl
theorem s0_64 : S0[64]? = some (8, 2, [65, 66]) := rfl
theorem s0_65 : S0[65]? = some (100, 4, []) := rfl
theorem s0_66 : S0[66]? = some (102, 4, [67, 68, 69, 70]) := rfl
theorem s0_67 : S0[67]? = some (100, 12, []) := rfl
theorem s0_68 : S0[68]? = some (100, 12, []) := rfl
theorem s0_69 : S0[69]? = some (100, 12, []) := rfl
theorem s0_70 : S0[70]? = some (100, 12, []) := rfl
theorem s0_71 : S0[71]? = some (8, 2, [72, 73]) := rfl
theorem s0_72 : S0[72]? = some (100, 4, []) := rfl
theorem s0_73 : S0[73]? = some (102, 4, [74, 75, 76, 77]) := rfl
theorem s0_74 : S0[74]? = some (100, 12, []) := rfl
theorem s0_75 : S0[75]? = some (100, 12, []) := rfl
theorem s0_76 : S0[76]? = some (100, 12, []) := rfl
theorem s0_77 : S0[77]? = some (100, 12, []) := rfl
theorem s0_78 : S0[78]? = some (9, 3, [79, 3000, 3000]) := rfl
theorem s0_79 : S0[79]? = some (103, 16, [80, 87, 94, 101, 108, 115, 122, 129, 136, 143, 150, 157, 164, 171, 178, 185]) := rfl
set_option maxRecDepth 10000 in
theorem s0_192 : S0[192]? = some (6, 10, [1, 3000, 3000, 3000, 3000, 3000, 3000, 3000, 3000, 3000]) := rfl
set_option maxRecDepth 10000 in
theorem s0_193 : S0[193]? = some (4, 3, [1, 24, 192]) := rfl
set_option maxRecDepth 10000 in
theorem s0_194 : S0[194]? = some (1, 6, [1, 24, 3000, 3000, 3000, 3000]) := rfl
set_option maxRecDepth 10000 in
theorem s0_195 : S0[195]? = some (5, 12, [29, 193, 196, 197, 3000, 3000, 3000, 3000, 3000, 3000, 3000, 3000]) := rfl
set_option maxRecDepth 10000 in
theorem s0_196 : S0[196]? = some (100, 4, []) := rfl
set_option maxRecDepth 10000 in
theorem s0_197 : S0[197]? = some (8, 2, [198, 199]) := rfl
set_option maxRecDepth 10000 in
theorem s0_198 : S0[198]? = some (100, 4, []) := rfl
set_option maxRecDepth 10000 in
theorem s0_199 : S0[199]? = some (102, 4, [200, 201, 202, 203]) := rfl
set_option maxRecDepth 10000 in
theorem s0_200 : S0[200]? = some (100, 12, []) := rfl
set_option maxRecDepth 10000 in
theorem s0_201 : S0[201]? = some (100, 12, []) := rfl
set_option maxRecDepth 10000 in
theorem s0_202 : S0[202]? = some (100, 12, []) := rfl
set_option maxRecDepth 10000 in
theorem s0_203 : S0[203]? = some (100, 12, []) := rfl
set_option maxRecDepth 10000 in
theorem s0_204 : S0[204]? = some (2, 9, [1, 29, 193, 205, 206, 207, 3000, 3000, 3000]) := rfl
set_option maxRecDepth 10000 in
theorem s0_205 : S0[205]? = some (100, 4, []) := rfl
set_option maxRecDepth 10000 in
theorem s0_206 : S0[206]? = some (100, 4, []) := rfl
set_option maxRecDepth 10000 in
theorem s0_207 : S0[207]? = some (100, 4, []) := rfl
set_option maxRecDepth 10000 in
theorem s0_208 : S0[208]? = some (10, 2, [209, 3000]) := rfl
set_option maxRecDepth 10000 in
theorem s0_209 : S0[209]? = some (101, 160, []) := rfl
set_option maxRecDepth 10000 in
theorem s0_210 : S0[210]? = some (10, 2, [211, 3000]) := rfl
set_option maxRecDepth 10000 in
theorem s0_211 : S0[211]? = some (101, 64, []) := rfl
set_option maxRecDepth 10000 in
theorem s0_212 : S0[212]? = some (7, 4, [208, 3000, 3000, 213]) := rfl
set_option maxRecDepth 10000 in
theorem s0_213 : S0[213]? = some (102, 17, [214, 215, 216, 217, 218, 219, 220, 221, 222, 223, 224, 225, 226, 227, 228, 229, 230]) := rfl
set_option maxRecDepth 10000 in
theorem s0_214 : S0[214]? = some (100, 7, []) := rfl
set_option maxRecDepth 10000 in
theorem s0_215 : S0[215]? = some (100, 7, []) := rfl
set_option maxRecDepth 10000 in
theorem s0_216 : S0[216]? = some (100, 7, []) := rfl
set_option maxRecDepth 10000 in
theorem s0_217 : S0[217]? = some (100, 7, []) := rfl
set_option maxRecDepth 10000 in
theorem s0_218 : S0[218]? = some (100, 7, []) := rfl
set_option maxRecDepth 10000 in
theorem s0_219 : S0[219]? = some (100, 7, []) := rfl
set_option maxRecDepth 10000 in
theorem s0_220 : S0[220]? = some (100, 7, []) := rfl
set_option maxRecDepth 10000 in
theorem s0_221 : S0[221]? = some (100, 7, []) := rfl
set_option maxRecDepth 10000 in
theorem s0_222 : S0[222]? = some (100, 7, []) := rfl
set_option maxRecDepth 10000 in
theorem s0_223 : S0[223]? = some (100, 7, []) := rfl
set_option maxRecDepth 10000 in
theorem s0_224 : S0[224]? = some (100, 7, []) := rfl
set_option maxRecDepth 10000 in
theorem s0_225 : S0[225]? = some (100, 7, []) := rfl
set_option maxRecDepth 10000 in
theorem s0_226 : S0[226]? = some (100, 7, []) := rfl
set_option maxRecDepth 10000 in
theorem s0_227 : S0[227]? = some (100, 7, []) := rfl
set_option maxRecDepth 10000 in
theorem s0_228 : S0[228]? = some (100, 7, []) := rfl
set_option maxRecDepth 10000 in
theorem s0_229 : S0[229]? = some (100, 7, []) := rfl
set_option maxRecDepth 10000 in
theorem s0_230 : S0[230]? = some (100, 7, []) := rfl
set_option maxRecDepth 10000 in
theorem s0_231 : S0[231]? = some (102, 4, [232, 233, 234, 235]) := rfl
set_option maxRecDepth 10000 in
theorem s0_232 : S0[232]? = some (100, 40, []) := rfl
set_option maxRecDepth 10000 in
theorem s0_233 : S0[233]? = some (100, 40, []) := rfl
set_option maxRecDepth 10000 in
theorem s0_234 : S0[234]? = some (100, 40, []) := rfl
set_option maxRecDepth 10000 in
theorem s0_235 : S0[235]? = some (100, 40, []) := rfl
set_option maxRecDepth 10000 in
theorem s0_236 : S0[236]? = some (100, 4, []) := rfl
set_option maxRecDepth 10000 in
theorem s0_237 : S0[237]? = some (12, 35, [238, 239, 3000, 240, 3000, 241, 242, 243, 3000, 3000, 3000, 3000, 3000, 244, 245, 246, 3000, 3000, 3000, 3000, 247, 248, 3000, 3000, 3000, 3000, 3000, 3000, 3000, 249, 3000, 3000, 3000, 250, 251]) := rfl
set_option maxRecDepth 10000 in
theorem s0_238 : S0[238]? = some (100, 166, []) := rfl
set_option maxRecDepth 10000 in
theorem s0_239 : S0[239]? = some (100, 166, []) := rfl
set_option maxRecDepth 10000 in
theorem s0_240 : S0[240]? = some (100, 832, []) := rfl
set_option maxRecDepth 10000 in
theorem s0_241 : S0[241]? = some (100, 52, []) := rfl
set_option maxRecDepth 10000 in
theorem s0_242 : S0[242]? = some (100, 52, []) := rfl
set_option maxRecDepth 10000 in
theorem s0_243 : S0[243]? = some (100, 14, []) := rfl
set_option maxRecDepth 10000 in
theorem s0_244 : S0[244]? = some (100, 160, []) := rfl
set_option maxRecDepth 10000 in
theorem s0_245 : S0[245]? = some (100, 140, []) := rfl
set_option maxRecDepth 10000 in
theorem s0_246 : S0[246]? = some (100, 160, []) := rfl
set_option maxRecDepth 10000 in
theorem s0_247 : S0[247]? = some (100, 52, []) := rfl
set_option maxRecDepth 10000 in
theorem s0_248 : S0[248]? = some (100, 12, []) := rfl
set_option maxRecDepth 10000 in
theorem s0_249 : S0[249]? = some (100, 4, []) := rfl
set_option maxRecDepth 10000 in
theorem s0_250 : S0[250]? = some (100, 4, []) := rfl
set_option maxRecDepth 10000 in
theorem s0_251 : S0[251]? = some (100, 160, []) := rfl
def rdIds : List Nat := [29, 64, 71, 80, 87, 94, 101, 108, 115, 122, 129, 136, 143, 150, 157, 164, 171, 178, 185, 197]
def isRd (r : Nat) : Prop := r ∈ rdIds
theorem rd_all : rdIds.all (fun r => decide (S0[r]? = some (8, 2, [r + 1, r + 2]) ∧ S0[r + 1]? = some (100, 4, []) ∧ S0[r + 2]? = some (102, 4, [r + 3, r + 4, r + 5, r + 6]) ∧ S0[r + 3]? = some (100, 12, []) ∧ S0[r + 4]? = some (100, 12, []) ∧ S0[r + 5]? = some (100, 12, []) ∧ S0[r + 6]? = some (100, 12, []) ∧ r + 6 < 1000)) = true := by decide +kernel
theorem rd_of {r : Nat} (h : isRd r) : S0[r]? = some (8, 2, [r + 1, r + 2]) ∧ S0[r + 1]? = some (100, 4, []) ∧ S0[r + 2]? = some (102, 4, [r + 3, r + 4, r + 5, r + 6]) ∧ S0[r + 3]? = some (100, 12, []) ∧ S0[r + 4]? = some (100, 12, []) ∧ S0[r + 5]? = some (100, 12, []) ∧ S0[r + 6]? = some (100, 12, []) ∧ r + 6 < 1000 := of_decide_eq_true (List.all_eq_true.mp rd_all r h)
theorem rd_0 {r : Nat} (h : isRd r) : S0[r]? = some (8, 2, [r + 1, r + 2]) := (rd_of h).1
theorem rd_1 {r : Nat} (h : isRd r) : S0[r + 1]? = some (100, 4, []) := (rd_of h).2.1
theorem rd_2 {r : Nat} (h : isRd r) : S0[r + 2]? = some (102, 4, [r + 3, r + 4, r + 5, r + 6]) := (rd_of h).2.2.1
theorem rd_lt {r : Nat} (h : isRd r) : r + 6 < 1000 := (rd_of h).2.2.2.2.2.2.2
theorem rd_3 {r i : Nat} (h : isRd r) (hi : i < 4) : S0[r + 3 + i]? = some (100, 12, []) := by
  obtain ⟨-, -, -, h3, h4, h5, h6, -⟩ := rd_of h
  rcases (show i = 0 ∨ i = 1 ∨ i = 2 ∨ i = 3 by omega) with rfl | rfl | rfl | rfl
  · exact h3
  · exact h4
  · exact h5
  · exact h6
theorem rd_row {r i : Nat} (hi : i < 4) : [r + 3, r + 4, r + 5, r + 6][i]? = some (r + 3 + i) := by
  rcases (show i = 0 ∨ i = 1 ∨ i = 2 ∨ i = 3 by omega) with rfl | rfl | rfl | rfl <;> rfl
def isBk (r : Nat) : Prop := r = 1 ∨ r = 36
theorem bk_1 {r : Nat} (h : isBk r) : S0[r + 1]? = some (100, 13, []) := by rcases h with rfl | rfl <;> rfl
theorem bk_2 {r : Nat} (h : isBk r) : S0[r + 2]? = some (100, 13, []) := by rcases h with rfl | rfl <;> rfl
theorem bk_3 {r : Nat} (h : isBk r) : S0[r + 3]? = some (100, 13, []) := by rcases h with rfl | rfl <;> rfl
theorem bk_4 {r : Nat} (h : isBk r) : S0[r + 4]? = some (100, 13, []) := by rcases h with rfl | rfl <;> rfl
theorem bk_5 {r : Nat} (h : isBk r) : S0[r + 5]? = some (100, 13, []) := by rcases h with rfl | rfl <;> rfl
theorem bk_6 {r : Nat} (h : isBk r) : S0[r + 6]? = some (100, 13, []) := by rcases h with rfl | rfl <;> rfl
theorem bk_7 {r : Nat} (h : isBk r) : S0[r + 7]? = some (100, 13, []) := by rcases h with rfl | rfl <;> rfl
theorem bk_8 {r : Nat} (h : isBk r) : S0[r + 8]? = some (100, 13, []) := by rcases h with rfl | rfl <;> rfl
theorem bk_0 {r : Nat} (h : isBk r) : S0[r]? = some (0, 10, [3000, r + 1, r + 2, r + 3, r + 4, r + 5, r + 6, r + 7, r + 8, r + 9]) := by rcases h with rfl | rfl <;> rfl
theorem bk_9 {r : Nat} (h : isBk r) : S0[r + 9]? = some (102, 13, (List.range 13).map (fun i => r + 10 + i)) := by rcases h with rfl | rfl <;> rfl
theorem bk_lt {r : Nat} (h : isBk r) : r + 22 < 1000 := by rcases h with rfl | rfl <;> decide
theorem bk_10 {r i : Nat} (h : isBk r) (hi : i < 13) : S0[r + 10 + i]? = some (100, 13, []) := by
  have h1 : ∀ i, i < 13 → S0[1 + 10 + i]? = some (100, 13, []) := by decide +kernel
  have h2 : ∀ i, i < 13 → S0[36 + 10 + i]? = some (100, 13, []) := by decide +kernel
  rcases h with rfl | rfl
  · exact h1 i hi
  · exact h2 i hi
theorem rg_row {b n i : Nat} (hi : i < n) : ((List.range n).map (fun i => b + i))[i]? = some (b + i) := by
  rw [List.getElem?_map, List.getElem?_range hi]; rfl
def isFl (r : Nat) : Prop := r = 24 ∨ r = 59
theorem fl_0 {r : Nat} (h : isFl r) : S0[r]? = some (3, 4, [r + 1, r + 2, r + 3, r + 4]) := by rcases h with rfl | rfl <;> rfl
theorem fl_1 {r : Nat} (h : isFl r) : S0[r + 1]? = some (100, 4, []) := by rcases h with rfl | rfl <;> rfl
theorem fl_2 {r : Nat} (h : isFl r) : S0[r + 2]? = some (100, 4, []) := by rcases h with rfl | rfl <;> rfl
theorem fl_3 {r : Nat} (h : isFl r) : S0[r + 3]? = some (100, 4, []) := by rcases h with rfl | rfl <;> rfl
theorem fl_4 {r : Nat} (h : isFl r) : S0[r + 4]? = some (100, 3, []) := by rcases h with rfl | rfl <;> rfl
theorem fl_lt {r : Nat} (h : isFl r) : r + 4 < 1000 := by rcases h with rfl | rfl <;> decide
theorem q231 {i : Nat} (hi : i < 4) : S0[232 + i]? = some (100, 40, []) := by
  have h1 : ∀ i, i < 4 → S0[232 + i]? = some (100, 40, []) := by decide +kernel
  exact h1 i hi
theorem q213 {i : Nat} (hi : i < 17) : S0[214 + i]? = some (100, 7, []) := by
  have h1 : ∀ i, i < 17 → S0[214 + i]? = some (100, 7, []) := by decide +kernel
  exact h1 i hi
theorem q79 {i : Nat} (hi : i < 16) : isRd (80 + 7 * i) := by
  have h1 : ∀ i, i < 16 → 80 + 7 * i ∈ rdIds := by decide +kernel
  exact h1 i hi
theorem rw231 {i : Nat} (hi : i < 4) : [232, 233, 234, 235][i]? = some (232 + i) := by
  rcases (show i = 0 ∨ i = 1 ∨ i = 2 ∨ i = 3 by omega) with rfl | rfl | rfl | rfl <;> rfl
theorem rw213 {i : Nat} (hi : i < 17) : [214, 215, 216, 217, 218, 219, 220, 221, 222, 223, 224, 225, 226, 227, 228, 229, 230][i]? = some (214 + i) := by
  have h1 : ∀ i, i < 17 → [214, 215, 216, 217, 218, 219, 220, 221, 222, 223, 224, 225, 226, 227, 228, 229, 230][i]? = some (214 + i) := by decide +kernel
  exact h1 i hi
theorem rw79 {i : Nat} (hi : i < 16) : [80, 87, 94, 101, 108, 115, 122, 129, 136, 143, 150, 157, 164, 171, 178, 185][i]? = some (80 + 7 * i) := by
  have h1 : ∀ i, i < 16 → [80, 87, 94, 101, 108, 115, 122, 129, 136, 143, 150, 157, 164, 171, 178, 185][i]? = some (80 + 7 * i) := by decide +kernel
  exact h1 i hi
end
