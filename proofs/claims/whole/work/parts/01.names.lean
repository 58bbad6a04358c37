-- ===== PART A: goes FIRST, ahead of the names: the tables' words, and 'selects' of the private methods out of them =====
/-- a private method of a class that the tables say can be made, by its rows of tables_1 -/
def lw_okq (q : MethodName × Nat) : Prop := (q.1.cls ≠ "java/lang/invoke/MethodHandle" ∧ q.1.cls ≠ "java/lang/invoke/VarHandle") ∧ Cond.instantiable q.1.cls q.2 ∈ tables_1 ∧ Cond.privateMethod q.1 ∈ tables_1 ∧ Cond.instanceMethod q.1 ∈ tables_1
theorem lw_p0 : lw_okq (⟨"NeverBelieved$Scroll", "nextToken", "()V"⟩, 10) := ⟨⟨by decide +kernel, by decide +kernel⟩, List.mem_of_getElem? (i := 76) (by decide +kernel), List.mem_of_getElem? (i := 325) (by decide +kernel), List.mem_of_getElem? (i := 326) (by decide +kernel)⟩
theorem lw_p1 : lw_okq (⟨"NeverBelieved$Scroll", "readClause", "([I)Z"⟩, 10) := ⟨⟨by decide +kernel, by decide +kernel⟩, List.mem_of_getElem? (i := 76) (by decide +kernel), List.mem_of_getElem? (i := 332) (by decide +kernel), List.mem_of_getElem? (i := 333) (by decide +kernel)⟩
theorem lw_p2 : lw_okq (⟨"NeverBelieved$Scroll", "wordOfToken", "()I"⟩, 10) := ⟨⟨by decide +kernel, by decide +kernel⟩, List.mem_of_getElem? (i := 76) (by decide +kernel), List.mem_of_getElem? (i := 336) (by decide +kernel), List.mem_of_getElem? (i := 337) (by decide +kernel)⟩
theorem lw_p3 : lw_okq (⟨"NeverBelieved$Scroll", "isToken", "(Ljava/lang/String;)Z"⟩, 10) := ⟨⟨by decide +kernel, by decide +kernel⟩, List.mem_of_getElem? (i := 76) (by decide +kernel), List.mem_of_getElem? (i := 352) (by decide +kernel), List.mem_of_getElem? (i := 353) (by decide +kernel)⟩
theorem lw_p4 : lw_okq (⟨"NeverBelieved$Scroll", "hasRoomFor", "(I)Z"⟩, 10) := ⟨⟨by decide +kernel, by decide +kernel⟩, List.mem_of_getElem? (i := 76) (by decide +kernel), List.mem_of_getElem? (i := 404) (by decide +kernel), List.mem_of_getElem? (i := 405) (by decide +kernel)⟩
theorem lw_p5 : lw_okq (⟨"NeverBelieved$Scroll", "numberOfToken", "()I"⟩, 10) := ⟨⟨by decide +kernel, by decide +kernel⟩, List.mem_of_getElem? (i := 76) (by decide +kernel), List.mem_of_getElem? (i := 418) (by decide +kernel), List.mem_of_getElem? (i := 419) (by decide +kernel)⟩
theorem lw_p6 : lw_okq (⟨"NeverBelieved$Scroll", "mostOf", "(C)I"⟩, 10) := ⟨⟨by decide +kernel, by decide +kernel⟩, List.mem_of_getElem? (i := 76) (by decide +kernel), List.mem_of_getElem? (i := 422) (by decide +kernel), List.mem_of_getElem? (i := 423) (by decide +kernel)⟩
theorem lw_p7 : lw_okq (⟨"NeverBelieved$Scroll", "countIn", "(I)V"⟩, 10) := ⟨⟨by decide +kernel, by decide +kernel⟩, List.mem_of_getElem? (i := 76) (by decide +kernel), List.mem_of_getElem? (i := 426) (by decide +kernel), List.mem_of_getElem? (i := 427) (by decide +kernel)⟩
theorem lw_p8 : lw_okq (⟨"NeverBelieved$City", "clear", "()V"⟩, 8) := ⟨⟨by decide +kernel, by decide +kernel⟩, List.mem_of_getElem? (i := 27) (by decide +kernel), List.mem_of_getElem? (i := 439) (by decide +kernel), List.mem_of_getElem? (i := 440) (by decide +kernel)⟩
theorem lw_p9 : lw_okq (⟨"NeverBelieved$City", "addCause", "([I)V"⟩, 8) := ⟨⟨by decide +kernel, by decide +kernel⟩, List.mem_of_getElem? (i := 27) (by decide +kernel), List.mem_of_getElem? (i := 443) (by decide +kernel), List.mem_of_getElem? (i := 444) (by decide +kernel)⟩
theorem lw_p10 : lw_okq (⟨"NeverBelieved$City", "addFact", "(III)V"⟩, 8) := ⟨⟨by decide +kernel, by decide +kernel⟩, List.mem_of_getElem? (i := 27) (by decide +kernel), List.mem_of_getElem? (i := 451) (by decide +kernel), List.mem_of_getElem? (i := 452) (by decide +kernel)⟩
theorem lw_p11 : lw_okq (⟨"NeverBelieved$City", "addOne", "(I[I)V"⟩, 8) := ⟨⟨by decide +kernel, by decide +kernel⟩, List.mem_of_getElem? (i := 27) (by decide +kernel), List.mem_of_getElem? (i := 455) (by decide +kernel), List.mem_of_getElem? (i := 456) (by decide +kernel)⟩
theorem lw_p12 : lw_okq (⟨"NeverBelieved", "refusalOf", "(IIIII)I"⟩, 6) := ⟨⟨by decide +kernel, by decide +kernel⟩, List.mem_of_getElem? (i := 19) (by decide +kernel), List.mem_of_getElem? (i := 521) (by decide +kernel), List.mem_of_getElem? (i := 522) (by decide +kernel)⟩
theorem lw_p13 : lw_okq (⟨"NeverBelieved$Sentence", "oneAtLeast", "(III)I"⟩, 5) := ⟨⟨by decide +kernel, by decide +kernel⟩, List.mem_of_getElem? (i := 188) (by decide +kernel), List.mem_of_getElem? (i := 573) (by decide +kernel), List.mem_of_getElem? (i := 574) (by decide +kernel)⟩
theorem lw_p14 : lw_okq (⟨"NeverBelieved$Seer", "startCounting", "()V"⟩, 9) := ⟨⟨by decide +kernel, by decide +kernel⟩, List.mem_of_getElem? (i := 247) (by decide +kernel), List.mem_of_getElem? (i := 700) (by decide +kernel), List.mem_of_getElem? (i := 701) (by decide +kernel)⟩
theorem lw_p15 : lw_okq (⟨"NeverBelieved$Seer", "countIn", "(I)V"⟩, 9) := ⟨⟨by decide +kernel, by decide +kernel⟩, List.mem_of_getElem? (i := 247) (by decide +kernel), List.mem_of_getElem? (i := 709) (by decide +kernel), List.mem_of_getElem? (i := 710) (by decide +kernel)⟩
def lw_privs_1 : List (MethodName × Nat) := [(⟨"NeverBelieved$Scroll", "nextToken", "()V"⟩, 10), (⟨"NeverBelieved$Scroll", "readClause", "([I)Z"⟩, 10), (⟨"NeverBelieved$Scroll", "wordOfToken", "()I"⟩, 10), (⟨"NeverBelieved$Scroll", "isToken", "(Ljava/lang/String;)Z"⟩, 10), (⟨"NeverBelieved$Scroll", "hasRoomFor", "(I)Z"⟩, 10), (⟨"NeverBelieved$Scroll", "numberOfToken", "()I"⟩, 10), (⟨"NeverBelieved$Scroll", "mostOf", "(C)I"⟩, 10), (⟨"NeverBelieved$Scroll", "countIn", "(I)V"⟩, 10), (⟨"NeverBelieved$City", "clear", "()V"⟩, 8), (⟨"NeverBelieved$City", "addCause", "([I)V"⟩, 8), (⟨"NeverBelieved$City", "addFact", "(III)V"⟩, 8), (⟨"NeverBelieved$City", "addOne", "(I[I)V"⟩, 8), (⟨"NeverBelieved", "refusalOf", "(IIIII)I"⟩, 6), (⟨"NeverBelieved$Sentence", "oneAtLeast", "(III)I"⟩, 5), (⟨"NeverBelieved$Seer", "startCounting", "()V"⟩, 9), (⟨"NeverBelieved$Seer", "countIn", "(I)V"⟩, 9)]
theorem lw_r1 : ∀ q ∈ lw_privs_1, lw_okq q := List.forall_mem_cons.mpr ⟨lw_p0, List.forall_mem_cons.mpr ⟨lw_p1, List.forall_mem_cons.mpr ⟨lw_p2, List.forall_mem_cons.mpr ⟨lw_p3, List.forall_mem_cons.mpr ⟨lw_p4, List.forall_mem_cons.mpr ⟨lw_p5, List.forall_mem_cons.mpr ⟨lw_p6, List.forall_mem_cons.mpr ⟨lw_p7, List.forall_mem_cons.mpr ⟨lw_p8, List.forall_mem_cons.mpr ⟨lw_p9, List.forall_mem_cons.mpr ⟨lw_p10, List.forall_mem_cons.mpr ⟨lw_p11, List.forall_mem_cons.mpr ⟨lw_p12, List.forall_mem_cons.mpr ⟨lw_p13, List.forall_mem_cons.mpr ⟨lw_p14, List.forall_mem_cons.mpr ⟨lw_p15, fun _ h => absurd h List.not_mem_nil⟩⟩⟩⟩⟩⟩⟩⟩⟩⟩⟩⟩⟩⟩⟩⟩
theorem lw_p16 : lw_okq (⟨"NeverBelieved$Bets", "worstOf", "(IJ)I"⟩, 5) := ⟨⟨by decide +kernel, by decide +kernel⟩, List.mem_of_getElem? (i := 157) (by decide +kernel), List.mem_of_getElem? (i := 768) (by decide +kernel), List.mem_of_getElem? (i := 769) (by decide +kernel)⟩
theorem lw_p17 : lw_okq (⟨"NeverBelieved$Bets", "winOf", "(II)I"⟩, 5) := ⟨⟨by decide +kernel, by decide +kernel⟩, List.mem_of_getElem? (i := 157) (by decide +kernel), List.mem_of_getElem? (i := 772) (by decide +kernel), List.mem_of_getElem? (i := 773) (by decide +kernel)⟩
theorem lw_p18 : lw_okq (⟨"NeverBelieved$Seer", "sumOfPlan", "(IZ)I"⟩, 9) := ⟨⟨by decide +kernel, by decide +kernel⟩, List.mem_of_getElem? (i := 247) (by decide +kernel), List.mem_of_getElem? (i := 785) (by decide +kernel), List.mem_of_getElem? (i := 786) (by decide +kernel)⟩
theorem lw_p19 : lw_okq (⟨"NeverBelievedModel", "begin", "()V"⟩, 39) := ⟨⟨by decide +kernel, by decide +kernel⟩, List.mem_of_getElem? (i := 824) (by decide +kernel), List.mem_of_getElem? (i := 830) (by decide +kernel), List.mem_of_getElem? (i := 831) (by decide +kernel)⟩
theorem lw_p20 : lw_okq (⟨"NeverBelievedModel", "isRead", "()Z"⟩, 39) := ⟨⟨by decide +kernel, by decide +kernel⟩, List.mem_of_getElem? (i := 824) (by decide +kernel), List.mem_of_getElem? (i := 968) (by decide +kernel), List.mem_of_getElem? (i := 969) (by decide +kernel)⟩
theorem lw_p21 : lw_okq (⟨"NeverBelievedModel", "isLine", "(I)Z"⟩, 39) := ⟨⟨by decide +kernel, by decide +kernel⟩, List.mem_of_getElem? (i := 824) (by decide +kernel), List.mem_of_getElem? (i := 972) (by decide +kernel), List.mem_of_getElem? (i := 973) (by decide +kernel)⟩
theorem lw_p22 : lw_okq (⟨"NeverBelievedModel", "nextToken", "()V"⟩, 39) := ⟨⟨by decide +kernel, by decide +kernel⟩, List.mem_of_getElem? (i := 824) (by decide +kernel), List.mem_of_getElem? (i := 976) (by decide +kernel), List.mem_of_getElem? (i := 977) (by decide +kernel)⟩
theorem lw_p23 : lw_okq (⟨"NeverBelievedModel", "sortOf", "()I"⟩, 39) := ⟨⟨by decide +kernel, by decide +kernel⟩, List.mem_of_getElem? (i := 824) (by decide +kernel), List.mem_of_getElem? (i := 986) (by decide +kernel), List.mem_of_getElem? (i := 987) (by decide +kernel)⟩
theorem lw_p24 : lw_okq (⟨"NeverBelievedModel", "fails", "()Z"⟩, 39) := ⟨⟨by decide +kernel, by decide +kernel⟩, List.mem_of_getElem? (i := 824) (by decide +kernel), List.mem_of_getElem? (i := 999) (by decide +kernel), List.mem_of_getElem? (i := 1000) (by decide +kernel)⟩
theorem lw_p25 : lw_okq (⟨"NeverBelievedModel", "isNumber", "(II)Z"⟩, 39) := ⟨⟨by decide +kernel, by decide +kernel⟩, List.mem_of_getElem? (i := 824) (by decide +kernel), List.mem_of_getElem? (i := 1003) (by decide +kernel), List.mem_of_getElem? (i := 1004) (by decide +kernel)⟩
theorem lw_p26 : lw_okq (⟨"NeverBelievedModel", "isDeed", "(I)Z"⟩, 39) := ⟨⟨by decide +kernel, by decide +kernel⟩, List.mem_of_getElem? (i := 824) (by decide +kernel), List.mem_of_getElem? (i := 1007) (by decide +kernel), List.mem_of_getElem? (i := 1008) (by decide +kernel)⟩
theorem lw_p27 : lw_okq (⟨"NeverBelievedModel", "doLine", "(I)V"⟩, 39) := ⟨⟨by decide +kernel, by decide +kernel⟩, List.mem_of_getElem? (i := 824) (by decide +kernel), List.mem_of_getElem? (i := 1015) (by decide +kernel), List.mem_of_getElem? (i := 1016) (by decide +kernel)⟩
theorem lw_p28 : lw_okq (⟨"NeverBelievedModel", "isFact", "(I)Z"⟩, 39) := ⟨⟨by decide +kernel, by decide +kernel⟩, List.mem_of_getElem? (i := 824) (by decide +kernel), List.mem_of_getElem? (i := 1023) (by decide +kernel), List.mem_of_getElem? (i := 1024) (by decide +kernel)⟩
theorem lw_p29 : lw_okq (⟨"NeverBelievedModel", "isOne", "(I)Z"⟩, 39) := ⟨⟨by decide +kernel, by decide +kernel⟩, List.mem_of_getElem? (i := 824) (by decide +kernel), List.mem_of_getElem? (i := 1031) (by decide +kernel), List.mem_of_getElem? (i := 1032) (by decide +kernel)⟩
theorem lw_p30 : lw_okq (⟨"NeverBelievedModel", "kindOf", "(I)I"⟩, 39) := ⟨⟨by decide +kernel, by decide +kernel⟩, List.mem_of_getElem? (i := 824) (by decide +kernel), List.mem_of_getElem? (i := 1047) (by decide +kernel), List.mem_of_getElem? (i := 1048) (by decide +kernel)⟩
theorem lw_p31 : lw_okq (⟨"NeverBelievedModel", "trusts", "(I)Z"⟩, 39) := ⟨⟨by decide +kernel, by decide +kernel⟩, List.mem_of_getElem? (i := 824) (by decide +kernel), List.mem_of_getElem? (i := 1051) (by decide +kernel), List.mem_of_getElem? (i := 1052) (by decide +kernel)⟩
def lw_privs_2 : List (MethodName × Nat) := [(⟨"NeverBelieved$Bets", "worstOf", "(IJ)I"⟩, 5), (⟨"NeverBelieved$Bets", "winOf", "(II)I"⟩, 5), (⟨"NeverBelieved$Seer", "sumOfPlan", "(IZ)I"⟩, 9), (⟨"NeverBelievedModel", "begin", "()V"⟩, 39), (⟨"NeverBelievedModel", "isRead", "()Z"⟩, 39), (⟨"NeverBelievedModel", "isLine", "(I)Z"⟩, 39), (⟨"NeverBelievedModel", "nextToken", "()V"⟩, 39), (⟨"NeverBelievedModel", "sortOf", "()I"⟩, 39), (⟨"NeverBelievedModel", "fails", "()Z"⟩, 39), (⟨"NeverBelievedModel", "isNumber", "(II)Z"⟩, 39), (⟨"NeverBelievedModel", "isDeed", "(I)Z"⟩, 39), (⟨"NeverBelievedModel", "doLine", "(I)V"⟩, 39), (⟨"NeverBelievedModel", "isFact", "(I)Z"⟩, 39), (⟨"NeverBelievedModel", "isOne", "(I)Z"⟩, 39), (⟨"NeverBelievedModel", "kindOf", "(I)I"⟩, 39), (⟨"NeverBelievedModel", "trusts", "(I)Z"⟩, 39)]
theorem lw_r2 : ∀ q ∈ lw_privs_2, lw_okq q := List.forall_mem_cons.mpr ⟨lw_p16, List.forall_mem_cons.mpr ⟨lw_p17, List.forall_mem_cons.mpr ⟨lw_p18, List.forall_mem_cons.mpr ⟨lw_p19, List.forall_mem_cons.mpr ⟨lw_p20, List.forall_mem_cons.mpr ⟨lw_p21, List.forall_mem_cons.mpr ⟨lw_p22, List.forall_mem_cons.mpr ⟨lw_p23, List.forall_mem_cons.mpr ⟨lw_p24, List.forall_mem_cons.mpr ⟨lw_p25, List.forall_mem_cons.mpr ⟨lw_p26, List.forall_mem_cons.mpr ⟨lw_p27, List.forall_mem_cons.mpr ⟨lw_p28, List.forall_mem_cons.mpr ⟨lw_p29, List.forall_mem_cons.mpr ⟨lw_p30, List.forall_mem_cons.mpr ⟨lw_p31, fun _ h => absurd h List.not_mem_nil⟩⟩⟩⟩⟩⟩⟩⟩⟩⟩⟩⟩⟩⟩⟩⟩
theorem lw_p32 : lw_okq (⟨"NeverBelievedModel", "barred", "(IIIII)I"⟩, 39) := ⟨⟨by decide +kernel, by decide +kernel⟩, List.mem_of_getElem? (i := 824) (by decide +kernel), List.mem_of_getElem? (i := 1063) (by decide +kernel), List.mem_of_getElem? (i := 1064) (by decide +kernel)⟩
theorem lw_p33 : lw_okq (⟨"NeverBelievedModel", "layTold", "(IIIII)V"⟩, 39) := ⟨⟨by decide +kernel, by decide +kernel⟩, List.mem_of_getElem? (i := 824) (by decide +kernel), List.mem_of_getElem? (i := 1067) (by decide +kernel), List.mem_of_getElem? (i := 1068) (by decide +kernel)⟩
theorem lw_p34 : lw_okq (⟨"NeverBelievedModel", "lay", "(IIIII)V"⟩, 39) := ⟨⟨by decide +kernel, by decide +kernel⟩, List.mem_of_getElem? (i := 824) (by decide +kernel), List.mem_of_getElem? (i := 1071) (by decide +kernel), List.mem_of_getElem? (i := 1072) (by decide +kernel)⟩
theorem lw_p35 : lw_okq (⟨"NeverBelievedModel", "everybody", "()I"⟩, 39) := ⟨⟨by decide +kernel, by decide +kernel⟩, List.mem_of_getElem? (i := 824) (by decide +kernel), List.mem_of_getElem? (i := 1075) (by decide +kernel), List.mem_of_getElem? (i := 1076) (by decide +kernel)⟩
theorem lw_p36 : lw_okq (⟨"NeverBelievedModel", "isSo", "([II)Z"⟩, 39) := ⟨⟨by decide +kernel, by decide +kernel⟩, List.mem_of_getElem? (i := 824) (by decide +kernel), List.mem_of_getElem? (i := 1079) (by decide +kernel), List.mem_of_getElem? (i := 1080) (by decide +kernel)⟩
theorem lw_p37 : lw_okq (⟨"NeverBelievedModel", "hearAll", "([II)V"⟩, 39) := ⟨⟨by decide +kernel, by decide +kernel⟩, List.mem_of_getElem? (i := 824) (by decide +kernel), List.mem_of_getElem? (i := 1086) (by decide +kernel), List.mem_of_getElem? (i := 1087) (by decide +kernel)⟩
theorem lw_p38 : lw_okq (⟨"NeverBelievedModel", "hears", "([IIZ)V"⟩, 39) := ⟨⟨by decide +kernel, by decide +kernel⟩, List.mem_of_getElem? (i := 824) (by decide +kernel), List.mem_of_getElem? (i := 1093) (by decide +kernel), List.mem_of_getElem? (i := 1094) (by decide +kernel)⟩
theorem lw_p39 : lw_okq (⟨"NeverBelievedModel", "pass", "([I)V"⟩, 39) := ⟨⟨by decide +kernel, by decide +kernel⟩, List.mem_of_getElem? (i := 824) (by decide +kernel), List.mem_of_getElem? (i := 1097) (by decide +kernel), List.mem_of_getElem? (i := 1098) (by decide +kernel)⟩
theorem lw_p40 : lw_okq (⟨"NeverBelievedModel", "note", "()V"⟩, 39) := ⟨⟨by decide +kernel, by decide +kernel⟩, List.mem_of_getElem? (i := 824) (by decide +kernel), List.mem_of_getElem? (i := 1108) (by decide +kernel), List.mem_of_getElem? (i := 1109) (by decide +kernel)⟩
theorem lw_p41 : lw_okq (⟨"NeverBelievedModel", "changed", "([I[I)I"⟩, 39) := ⟨⟨by decide +kernel, by decide +kernel⟩, List.mem_of_getElem? (i := 824) (by decide +kernel), List.mem_of_getElem? (i := 1112) (by decide +kernel), List.mem_of_getElem? (i := 1113) (by decide +kernel)⟩
theorem lw_p42 : lw_okq (⟨"NeverBelievedModel", "sumOf", "(I)I"⟩, 39) := ⟨⟨by decide +kernel, by decide +kernel⟩, List.mem_of_getElem? (i := 824) (by decide +kernel), List.mem_of_getElem? (i := 1120) (by decide +kernel), List.mem_of_getElem? (i := 1121) (by decide +kernel)⟩
theorem lw_p43 : lw_okq (⟨"NeverBelievedModel", "layBest", "([I)V"⟩, 39) := ⟨⟨by decide +kernel, by decide +kernel⟩, List.mem_of_getElem? (i := 824) (by decide +kernel), List.mem_of_getElem? (i := 1144) (by decide +kernel), List.mem_of_getElem? (i := 1145) (by decide +kernel)⟩
theorem lw_p44 : lw_okq (⟨"NeverBelievedModel", "isSentence", "(I)Z"⟩, 39) := ⟨⟨by decide +kernel, by decide +kernel⟩, List.mem_of_getElem? (i := 824) (by decide +kernel), List.mem_of_getElem? (i := 1149) (by decide +kernel), List.mem_of_getElem? (i := 1150) (by decide +kernel)⟩
theorem lw_p45 : lw_okq (⟨"NeverBelievedModel", "askOf", "(III)I"⟩, 39) := ⟨⟨by decide +kernel, by decide +kernel⟩, List.mem_of_getElem? (i := 824) (by decide +kernel), List.mem_of_getElem? (i := 1160) (by decide +kernel), List.mem_of_getElem? (i := 1161) (by decide +kernel)⟩
theorem lw_p46 : lw_okq (⟨"NeverBelievedModel", "sumBy", "(IIIII)I"⟩, 39) := ⟨⟨by decide +kernel, by decide +kernel⟩, List.mem_of_getElem? (i := 824) (by decide +kernel), List.mem_of_getElem? (i := 1172) (by decide +kernel), List.mem_of_getElem? (i := 1173) (by decide +kernel)⟩
theorem lw_p47 : lw_okq (⟨"NeverBelievedModel", "layCanBe", "()V"⟩, 39) := ⟨⟨by decide +kernel, by decide +kernel⟩, List.mem_of_getElem? (i := 824) (by decide +kernel), List.mem_of_getElem? (i := 1188) (by decide +kernel), List.mem_of_getElem? (i := 1189) (by decide +kernel)⟩
def lw_privs_3 : List (MethodName × Nat) := [(⟨"NeverBelievedModel", "barred", "(IIIII)I"⟩, 39), (⟨"NeverBelievedModel", "layTold", "(IIIII)V"⟩, 39), (⟨"NeverBelievedModel", "lay", "(IIIII)V"⟩, 39), (⟨"NeverBelievedModel", "everybody", "()I"⟩, 39), (⟨"NeverBelievedModel", "isSo", "([II)Z"⟩, 39), (⟨"NeverBelievedModel", "hearAll", "([II)V"⟩, 39), (⟨"NeverBelievedModel", "hears", "([IIZ)V"⟩, 39), (⟨"NeverBelievedModel", "pass", "([I)V"⟩, 39), (⟨"NeverBelievedModel", "note", "()V"⟩, 39), (⟨"NeverBelievedModel", "changed", "([I[I)I"⟩, 39), (⟨"NeverBelievedModel", "sumOf", "(I)I"⟩, 39), (⟨"NeverBelievedModel", "layBest", "([I)V"⟩, 39), (⟨"NeverBelievedModel", "isSentence", "(I)Z"⟩, 39), (⟨"NeverBelievedModel", "askOf", "(III)I"⟩, 39), (⟨"NeverBelievedModel", "sumBy", "(IIIII)I"⟩, 39), (⟨"NeverBelievedModel", "layCanBe", "()V"⟩, 39)]
theorem lw_r3 : ∀ q ∈ lw_privs_3, lw_okq q := List.forall_mem_cons.mpr ⟨lw_p32, List.forall_mem_cons.mpr ⟨lw_p33, List.forall_mem_cons.mpr ⟨lw_p34, List.forall_mem_cons.mpr ⟨lw_p35, List.forall_mem_cons.mpr ⟨lw_p36, List.forall_mem_cons.mpr ⟨lw_p37, List.forall_mem_cons.mpr ⟨lw_p38, List.forall_mem_cons.mpr ⟨lw_p39, List.forall_mem_cons.mpr ⟨lw_p40, List.forall_mem_cons.mpr ⟨lw_p41, List.forall_mem_cons.mpr ⟨lw_p42, List.forall_mem_cons.mpr ⟨lw_p43, List.forall_mem_cons.mpr ⟨lw_p44, List.forall_mem_cons.mpr ⟨lw_p45, List.forall_mem_cons.mpr ⟨lw_p46, List.forall_mem_cons.mpr ⟨lw_p47, fun _ h => absurd h List.not_mem_nil⟩⟩⟩⟩⟩⟩⟩⟩⟩⟩⟩⟩⟩⟩⟩⟩
theorem lw_p48 : lw_okq (⟨"NeverBelievedModel", "worthOf", "([II)I"⟩, 39) := ⟨⟨by decide +kernel, by decide +kernel⟩, List.mem_of_getElem? (i := 824) (by decide +kernel), List.mem_of_getElem? (i := 1197) (by decide +kernel), List.mem_of_getElem? (i := 1198) (by decide +kernel)⟩
theorem lw_p49 : lw_okq (⟨"NeverBelievedModel", "mostNext", "([I)I"⟩, 39) := ⟨⟨by decide +kernel, by decide +kernel⟩, List.mem_of_getElem? (i := 824) (by decide +kernel), List.mem_of_getElem? (i := 1201) (by decide +kernel), List.mem_of_getElem? (i := 1202) (by decide +kernel)⟩
theorem lw_p50 : lw_okq (⟨"NeverBelievedModel", "isSaved", "(II)Z"⟩, 39) := ⟨⟨by decide +kernel, by decide +kernel⟩, List.mem_of_getElem? (i := 824) (by decide +kernel), List.mem_of_getElem? (i := 1216) (by decide +kernel), List.mem_of_getElem? (i := 1217) (by decide +kernel)⟩
def lw_privs_4 : List (MethodName × Nat) := [(⟨"NeverBelievedModel", "worthOf", "([II)I"⟩, 39), (⟨"NeverBelievedModel", "mostNext", "([I)I"⟩, 39), (⟨"NeverBelievedModel", "isSaved", "(II)Z"⟩, 39)]
theorem lw_r4 : ∀ q ∈ lw_privs_4, lw_okq q := List.forall_mem_cons.mpr ⟨lw_p48, List.forall_mem_cons.mpr ⟨lw_p49, List.forall_mem_cons.mpr ⟨lw_p50, fun _ h => absurd h List.not_mem_nil⟩⟩⟩
def lw_privs : List (MethodName × Nat) := lw_privs_1 ++ (lw_privs_2 ++ (lw_privs_3 ++ (lw_privs_4)))
def lw_tbl : List Cond := k2_sels lw_privs ++ tables_1
theorem lw_privs_ok : ∀ q ∈ lw_privs, lw_okq q := by
  show ∀ q ∈ lw_privs_1 ++ (lw_privs_2 ++ (lw_privs_3 ++ (lw_privs_4))), lw_okq q
  exact List.forall_mem_append.mpr ⟨lw_r1, List.forall_mem_append.mpr ⟨lw_r2, List.forall_mem_append.mpr ⟨lw_r3, lw_r4⟩⟩⟩

def RX0 : String := "NeverBelieved$Bets"
def TX0 : u_T := fun k => match k with
  | 0 => ("NeverBelieved$Bets", "many", "I", false)
  | 1 => ("NeverBelieved$Bets", "facts", "[I", true)
  | 2 => ("NeverBelieved$Bets", "prices", "[I", true)
  | 3 => ("NeverBelieved$Bets", "chosen", "I", false)
  | _ => ("NeverBelieved$Bets", "won", "I", false)
def tyX0 : Nat → FieldType := fun k => match k with
  | 0 => .int
  | 1 => .array .int
  | 2 => .array .int
  | 3 => .int
  | _ => .int
theorem nmX0 : ∀ a, a < 5 → ∀ b, b < 5 → a ≠ b → (TX0 a).2.1 ≠ (TX0 b).2.1 := by decide +kernel
theorem tyX0_ok : ∀ k, k < 5 → parseFieldDescriptor (TX0 k).2.2.1 = some (tyX0 k) := by decide +kernel
def RX1 : String := "NeverBelieved$City"
def TX1 : u_T := fun k => match k with
  | 0 => ("NeverBelieved$City", "manyFacts", "I", false)
  | 1 => ("NeverBelieved$City", "manyPeople", "I", false)
  | 2 => ("NeverBelieved$City", "manyCauses", "I", false)
  | 3 => ("NeverBelieved$City", "told", "I", false)
  | 4 => ("NeverBelieved$City", "interpreters", "I", false)
  | 5 => ("NeverBelieved$City", "facts", "[[I", true)
  | 6 => ("NeverBelieved$City", "people", "[[I", true)
  | _ => ("NeverBelieved$City", "causes", "[[I", true)
def tyX1 : Nat → FieldType := fun k => match k with
  | 0 => .int
  | 1 => .int
  | 2 => .int
  | 3 => .int
  | 4 => .int
  | 5 => .array (.array .int)
  | 6 => .array (.array .int)
  | _ => .array (.array .int)
theorem nmX1 : ∀ a, a < 8 → ∀ b, b < 8 → a ≠ b → (TX1 a).2.1 ≠ (TX1 b).2.1 := by decide +kernel
theorem tyX1_ok : ∀ k, k < 8 → parseFieldDescriptor (TX1 k).2.2.1 = some (tyX1 k) := by decide +kernel
def RX2 : String := "NeverBelieved$Days"
def TX2 : u_T := fun k => match k with
  | 0 => ("NeverBelieved$Days", "truth", "I", false)
  | 1 => ("NeverBelieved$Days", "day", "I", false)
  | 2 => ("NeverBelieved$Days", "undoable", "I", false)
  | 3 => ("NeverBelieved$Days", "minds", "J", false)
  | 4 => ("NeverBelieved$Days", "kept", "I", false)
  | 5 => ("NeverBelieved$Days", "newest", "I", false)
  | 6 => ("NeverBelieved$Days", "truths", "[I", true)
  | 7 => ("NeverBelieved$Days", "allMinds", "[J", true)
  | _ => ("NeverBelieved$Days", "dates", "[I", true)
def tyX2 : Nat → FieldType := fun k => match k with
  | 0 => .int
  | 1 => .int
  | 2 => .int
  | 3 => .long
  | 4 => .int
  | 5 => .int
  | 6 => .array .int
  | 7 => .array .long
  | _ => .array .int
theorem nmX2 : ∀ a, a < 9 → ∀ b, b < 9 → a ≠ b → (TX2 a).2.1 ≠ (TX2 b).2.1 := by decide +kernel
theorem tyX2_ok : ∀ k, k < 9 → parseFieldDescriptor (TX2 k).2.2.1 = some (tyX2 k) := by decide +kernel
def RX3 : String := "NeverBelieved$Foresight"
def TX3 : u_T := fun k => match k with
  | 0 => ("NeverBelieved$Foresight", "city", "LNeverBelieved$City;", true)
  | 1 => ("NeverBelieved$Foresight", "sentence", "LNeverBelieved$Sentence;", true)
  | 2 => ("NeverBelieved$Foresight", "truth", "I", false)
  | 3 => ("NeverBelieved$Foresight", "minds", "J", false)
  | 4 => ("NeverBelieved$Foresight", "truths", "[I", true)
  | 5 => ("NeverBelieved$Foresight", "sums", "[I", true)
  | 6 => ("NeverBelieved$Foresight", "toldMinds", "[I", true)
  | 7 => ("NeverBelieved$Foresight", "heardMinds", "[I", true)
  | 8 => ("NeverBelieved$Foresight", "toldDoers", "I", false)
  | 9 => ("NeverBelieved$Foresight", "heardDoers", "I", false)
  | _ => ("NeverBelieved$Foresight", "idleDoers", "I", false)
def tyX3 : Nat → FieldType := fun k => match k with
  | 0 => .object "NeverBelieved$City"
  | 1 => .object "NeverBelieved$Sentence"
  | 2 => .int
  | 3 => .long
  | 4 => .array .int
  | 5 => .array .int
  | 6 => .array .int
  | 7 => .array .int
  | 8 => .int
  | 9 => .int
  | _ => .int
theorem nmX3 : ∀ a, a < 11 → ∀ b, b < 11 → a ≠ b → (TX3 a).2.1 ≠ (TX3 b).2.1 := by decide +kernel
theorem tyX3_ok : ∀ k, k < 11 → parseFieldDescriptor (TX3 k).2.2.1 = some (tyX3 k) := by decide +kernel
def RX4 : String := "NeverBelieved$Minds"
def RX5 : String := "NeverBelieved$Scroll"
def TX5 : u_T := fun k => match k with
  | 0 => ("NeverBelieved$Scroll", "letters", "[I", true)
  | 1 => ("NeverBelieved$Scroll", "length", "I", false)
  | 2 => ("NeverBelieved$Scroll", "read", "[[I", true)
  | 3 => ("NeverBelieved$Scroll", "clauses", "I", false)
  | 4 => ("NeverBelieved$Scroll", "start", "I", false)
  | 5 => ("NeverBelieved$Scroll", "behind", "I", false)
  | 6 => ("NeverBelieved$Scroll", "sort", "I", false)
  | 7 => ("NeverBelieved$Scroll", "facts", "I", false)
  | 8 => ("NeverBelieved$Scroll", "people", "I", false)
  | _ => ("NeverBelieved$Scroll", "causes", "I", false)
def tyX5 : Nat → FieldType := fun k => match k with
  | 0 => .array .int
  | 1 => .int
  | 2 => .array (.array .int)
  | 3 => .int
  | 4 => .int
  | 5 => .int
  | 6 => .int
  | 7 => .int
  | 8 => .int
  | _ => .int
theorem nmX5 : ∀ a, a < 10 → ∀ b, b < 10 → a ≠ b → (TX5 a).2.1 ≠ (TX5 b).2.1 := by decide +kernel
theorem tyX5_ok : ∀ k, k < 10 → parseFieldDescriptor (TX5 k).2.2.1 = some (tyX5 k) := by decide +kernel
def RX6 : String := "NeverBelieved$Seer"
def TX6 : u_T := fun k => match k with
  | 0 => ("NeverBelieved$Seer", "city", "LNeverBelieved$City;", true)
  | 1 => ("NeverBelieved$Seer", "today", "LNeverBelieved$Foresight;", true)
  | 2 => ("NeverBelieved$Seer", "tomorrow", "LNeverBelieved$Foresight;", true)
  | 3 => ("NeverBelieved$Seer", "sum", "I", false)
  | 4 => ("NeverBelieved$Seer", "number", "I", false)
  | 5 => ("NeverBelieved$Seer", "to", "I", false)
  | 6 => ("NeverBelieved$Seer", "many", "I", false)
  | 7 => ("NeverBelieved$Seer", "first", "I", false)
  | _ => ("NeverBelieved$Seer", "stanceSums", "[I", true)
def tyX6 : Nat → FieldType := fun k => match k with
  | 0 => .object "NeverBelieved$City"
  | 1 => .object "NeverBelieved$Foresight"
  | 2 => .object "NeverBelieved$Foresight"
  | 3 => .int
  | 4 => .int
  | 5 => .int
  | 6 => .int
  | 7 => .int
  | _ => .array .int
theorem nmX6 : ∀ a, a < 9 → ∀ b, b < 9 → a ≠ b → (TX6 a).2.1 ≠ (TX6 b).2.1 := by decide +kernel
theorem tyX6_ok : ∀ k, k < 9 → parseFieldDescriptor (TX6 k).2.2.1 = some (tyX6 k) := by decide +kernel
def RX7 : String := "NeverBelieved$Sentence"
def TX7 : u_T := fun k => match k with
  | 0 => ("NeverBelieved$Sentence", "kind", "I", false)
  | 1 => ("NeverBelieved$Sentence", "f", "I", false)
  | 2 => ("NeverBelieved$Sentence", "b", "I", false)
  | 3 => ("NeverBelieved$Sentence", "g", "I", false)
  | _ => ("NeverBelieved$Sentence", "c", "I", false)
def tyX7 : Nat → FieldType := fun k => match k with
  | 0 => .int
  | 1 => .int
  | 2 => .int
  | 3 => .int
  | _ => .int
theorem nmX7 : ∀ a, a < 5 → ∀ b, b < 5 → a ≠ b → (TX7 a).2.1 ≠ (TX7 b).2.1 := by decide +kernel
theorem tyX7_ok : ∀ k, k < 5 → parseFieldDescriptor (TX7 k).2.2.1 = some (tyX7 k) := by decide +kernel
def RX8 : String := "NeverBelieved"
def TX8 : u_T := fun k => match k with
  | 0 => ("NeverBelieved", "place", "LNeverBelieved$City;", true)
  | 1 => ("NeverBelieved", "scroll", "LNeverBelieved$Scroll;", true)
  | 2 => ("NeverBelieved", "days", "LNeverBelieved$Days;", true)
  | 3 => ("NeverBelieved", "bets", "LNeverBelieved$Bets;", true)
  | 4 => ("NeverBelieved", "today", "LNeverBelieved$Foresight;", true)
  | _ => ("NeverBelieved", "seer", "LNeverBelieved$Seer;", true)
def tyX8 : Nat → FieldType := fun k => match k with
  | 0 => .object "NeverBelieved$City"
  | 1 => .object "NeverBelieved$Scroll"
  | 2 => .object "NeverBelieved$Days"
  | 3 => .object "NeverBelieved$Bets"
  | 4 => .object "NeverBelieved$Foresight"
  | _ => .object "NeverBelieved$Seer"
theorem nmX8 : ∀ a, a < 6 → ∀ b, b < 6 → a ≠ b → (TX8 a).2.1 ≠ (TX8 b).2.1 := by decide +kernel
theorem tyX8_ok : ∀ k, k < 6 → parseFieldDescriptor (TX8 k).2.2.1 = some (tyX8 k) := by decide +kernel
def RX9 : String := "NeverBelievedModel"
def TX9 : u_T := fun k => match k with
  | 0 => ("NeverBelievedModel", "facts", "I", false)
  | 1 => ("NeverBelievedModel", "fact", "[I", true)
  | 2 => ("NeverBelievedModel", "people", "I", false)
  | 3 => ("NeverBelievedModel", "person", "[I", true)
  | 4 => ("NeverBelievedModel", "causes", "I", false)
  | 5 => ("NeverBelievedModel", "cause", "[I", true)
  | 6 => ("NeverBelievedModel", "letters", "I", false)
  | 7 => ("NeverBelievedModel", "text", "[I", true)
  | 8 => ("NeverBelievedModel", "position", "I", false)
  | 9 => ("NeverBelievedModel", "tokenAt", "I", false)
  | 10 => ("NeverBelievedModel", "token", "J", false)
  | 11 => ("NeverBelievedModel", "digits", "I", false)
  | 12 => ("NeverBelievedModel", "number", "I", false)
  | 13 => ("NeverBelievedModel", "faultAt", "I", false)
  | 14 => ("NeverBelievedModel", "readMany", "I", false)
  | 15 => ("NeverBelievedModel", "readFacts", "I", false)
  | 16 => ("NeverBelievedModel", "readPeople", "I", false)
  | 17 => ("NeverBelievedModel", "readCauses", "I", false)
  | 18 => ("NeverBelievedModel", "read", "[I", true)
  | 19 => ("NeverBelievedModel", "now", "[I", true)
  | 20 => ("NeverBelievedModel", "tried", "[I", true)
  | 21 => ("NeverBelievedModel", "later", "[I", true)
  | 22 => ("NeverBelievedModel", "besieged", "[I", true)
  | 23 => ("NeverBelievedModel", "image", "[I", true)
  | 24 => ("NeverBelievedModel", "isKept", "[Z", true)
  | 25 => ("NeverBelievedModel", "backOf", "[I", true)
  | 26 => ("NeverBelievedModel", "backs", "I", false)
  | 27 => ("NeverBelievedModel", "bets", "[I", true)
  | 28 => ("NeverBelievedModel", "betMany", "I", false)
  | 29 => ("NeverBelievedModel", "kind", "I", false)
  | 30 => ("NeverBelievedModel", "first", "I", false)
  | 31 => ("NeverBelievedModel", "firstIs", "I", false)
  | 32 => ("NeverBelievedModel", "second", "I", false)
  | 33 => ("NeverBelievedModel", "secondIs", "I", false)
  | 34 => ("NeverBelievedModel", "bestSum", "I", false)
  | 35 => ("NeverBelievedModel", "bestNumber", "I", false)
  | 36 => ("NeverBelievedModel", "bestSet", "I", false)
  | 37 => ("NeverBelievedModel", "canBe", "[Z", true)
  | _ => ("NeverBelievedModel", "second1", "[I", true)
def tyX9 : Nat → FieldType := fun k => match k with
  | 0 => .int
  | 1 => .array .int
  | 2 => .int
  | 3 => .array .int
  | 4 => .int
  | 5 => .array .int
  | 6 => .int
  | 7 => .array .int
  | 8 => .int
  | 9 => .int
  | 10 => .long
  | 11 => .int
  | 12 => .int
  | 13 => .int
  | 14 => .int
  | 15 => .int
  | 16 => .int
  | 17 => .int
  | 18 => .array .int
  | 19 => .array .int
  | 20 => .array .int
  | 21 => .array .int
  | 22 => .array .int
  | 23 => .array .int
  | 24 => .array .boolean
  | 25 => .array .int
  | 26 => .int
  | 27 => .array .int
  | 28 => .int
  | 29 => .int
  | 30 => .int
  | 31 => .int
  | 32 => .int
  | 33 => .int
  | 34 => .int
  | 35 => .int
  | 36 => .int
  | 37 => .array .boolean
  | _ => .array .int
theorem nmX9 : ∀ a, a < 39 → ∀ b, b < 39 → a ≠ b → (TX9 a).2.1 ≠ (TX9 b).2.1 := by decide +kernel
theorem tyX9_ok : ∀ k, k < 39 → parseFieldDescriptor (TX9 k).2.2.1 = some (tyX9 k) := by decide +kernel
abbrev vwCl : List vw_C := [(RX0, TX0, 5), (RX1, TX1, 8), (RX2, TX2, 9), (RX3, TX3, 11), (RX5, TX5, 10), (RX6, TX6, 9), (RX7, TX7, 5), (RX8, TX8, 6), (RX9, TX9, 39)]
/-- the words that stay true while the machine runs -/
def mTb : List Cond := lw_tbl.filter goodWord
theorem mTb_in : ∀ w ∈ mTb, w ∈ lw_tbl := fun _ h => (List.mem_filter.mp h).1
theorem mTb_good : ∀ w ∈ mTb, goodWord w = true := fun _ h => (List.mem_filter.mp h).2
theorem mTm {w : Cond} (i : Nat) (h : tables_1[i]? = some w) (hg : goodWord w = true) : w ∈ mTb := List.mem_filter.mpr ⟨List.mem_append_right _ (List.mem_of_getElem? h), hg⟩
theorem mTs {w : Cond} (i : Nat) (h : (k2_sels lw_privs)[i]? = some w) (hg : goodWord w = true) : w ∈ mTb := List.mem_filter.mpr ⟨List.mem_append_left _ (List.mem_of_getElem? h), hg⟩
theorem mTall {ws : List Cond} (ps : List Nat) (h : ps.map (fun i => tables_1[i]?) = ws.map some) (hg : ws.all goodWord = true) : ∀ w ∈ ws, w ∈ mTb := by
  intro w hw
  have h1 := List.all_eq_true.mp hg w hw
  have h2 : some w ∈ ps.map (fun i => tables_1[i]?) := by rw [h]; exact List.mem_map_of_mem hw
  obtain ⟨i, -, hi⟩ := List.mem_map.mp h2
  exact mTm i hi h1

set_option maxRecDepth 100000 in
theorem uX0 : ∀ w ∈ u_ws RX0 TX0 5, w ∈ mTb := mTall [170, 172, 174, 176, 178] (by decide +kernel) (by decide +kernel)
set_option maxRecDepth 100000 in
theorem uX1 : ∀ w ∈ u_ws RX1 TX1 8, w ∈ mTb := mTall [57, 59, 61, 63, 65, 67, 69, 71] (by decide +kernel) (by decide +kernel)
set_option maxRecDepth 100000 in
theorem uX2 : ∀ w ∈ u_ws RX2 TX2 9, w ∈ mTb := mTall [136, 138, 140, 142, 144, 146, 148, 150, 152] (by decide +kernel) (by decide +kernel)
set_option maxRecDepth 100000 in
theorem uX3 : ∀ w ∈ u_ws RX3 TX3 11, w ∈ mTb := mTall [223, 225, 227, 229, 231, 233, 235, 237, 239, 241, 243] (by decide +kernel) (by decide +kernel)
set_option maxRecDepth 100000 in
theorem uX5 : ∀ w ∈ u_ws RX5 TX5 10, w ∈ mTb := mTall [95, 97, 99, 101, 103, 105, 107, 109, 111, 113] (by decide +kernel) (by decide +kernel)
set_option maxRecDepth 100000 in
theorem uX6 : ∀ w ∈ u_ws RX6 TX6 9, w ∈ mTb := mTall [266, 268, 270, 272, 274, 276, 278, 280, 282] (by decide +kernel) (by decide +kernel)
set_option maxRecDepth 100000 in
theorem uX7 : ∀ w ∈ u_ws RX7 TX7 5, w ∈ mTb := mTall [199, 201, 203, 205, 207] (by decide +kernel) (by decide +kernel)
set_option maxRecDepth 100000 in
theorem uX8 : ∀ w ∈ u_ws RX8 TX8 6, w ∈ mTb := mTall [291, 293, 295, 297, 299, 301] (by decide +kernel) (by decide +kernel)
set_option maxRecDepth 100000 in
theorem uX9 : ∀ w ∈ u_ws RX9 TX9 39, w ∈ mTb := mTall [872, 874, 876, 878, 880, 882, 884, 886, 888, 890, 892, 894, 896, 898, 900, 902, 904, 906, 908, 910, 912, 914, 916, 918, 920, 922, 924, 926, 928, 930, 932, 934, 936, 938, 940, 942, 944, 946, 948] (by decide +kernel) (by decide +kernel)
