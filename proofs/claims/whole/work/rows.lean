section
-- ===== PART A: goes FIRST, ahead of the names: the tables' words, and 'selects' of the private methods out of them =====
/-- a private method of a class that the tables say can be made, by its rows of tables_1 -/
def lw_okq (q : MethodName × Nat) : Prop := (q.1.cls ≠ "java/lang/invoke/MethodHandle" ∧ q.1.cls ≠ "java/lang/invoke/VarHandle") ∧ Cond.instantiable q.1.cls q.2 ∈ tables_1 ∧ Cond.privateMethod q.1 ∈ tables_1 ∧ Cond.instanceMethod q.1 ∈ tables_1
theorem lw_p0 : lw_okq (⟨"NeverBelieved$Scroll", "nextToken", "()V"⟩, 10) := ⟨⟨by decide +kernel, by decide +kernel⟩, List.mem_of_getElem? (i := 76) (by decide +kernel), List.mem_of_getElem? (i := 325) (by decide +kernel), List.mem_of_getElem? (i := 326) (by decide +kernel)⟩
theorem lw_p1 : lw_okq (⟨"NeverBelieved$Scroll", "readClause", "([I)Z"⟩, 10) := ⟨⟨by decide +kernel, by decide +kernel⟩, List.mem_of_getElem? (i := 76) (by decide +kernel), List.mem_of_getElem? (i := 332) (by decide +kernel), List.mem_of_getElem? (i := 333) (by decide +kernel)⟩
theorem lw_p2 : lw_okq (⟨"NeverBelieved$Scroll", "wordOfToken", "()I"⟩, 10) := ⟨⟨by decide +kernel, by decide +kernel⟩, List.mem_of_getElem? (i := 76) (by decide +kernel), List.mem_of_getElem? (i := 336) (by decide +kernel), List.mem_of_getElem? (i := 337) (by decide +kernel)⟩
theorem lw_p3 : lw_okq (⟨"NeverBelieved$Scroll", "isToken", "(Ljava/lang/String;)Z"⟩, 10) := ⟨⟨by decide +kernel, by decide +kernel⟩, List.mem_of_getElem? (i := 76) (by decide +kernel), List.mem_of_getElem? (i := 352) (by decide +kernel), List.mem_of_getElem? (i := 353) (by decide +kernel)⟩
theorem lw_p4 : lw_okq (⟨"NeverBelieved$Scroll", "hasRoomFor", "(I)Z"⟩, 10) := ⟨⟨by decide +kernel, by decide +kernel⟩, List.mem_of_getElem? (i := 76) (by decide +kernel), List.mem_of_getElem? (i := 404) (by decide +kernel), List.mem_of_getElem? (i := 405) (by decide +kernel)⟩
theorem lw_p5 : lw_okq (⟨"NeverBelieved$Scroll", "numberOfToken", "()I"⟩, 10) := ⟨⟨by decide +kernel, by decide +kernel⟩, List.mem_of_getElem? (i := 76) (by decide +kernel), List.mem_of_getElem? (i := 418) (by decide +kernel), List.mem_of_getElem? (i := 419) (by decide +kernel)⟩
theorem lw_p6 : lw_okq (⟨"NeverBelieved$Scroll", "mostOf", "(C)I"⟩, 10) := ⟨⟨by decide +kernel, by decide +kernel⟩, List.mem_of_getElem? (i := 76) (by decide +kernel), List.mem_of_getElem? (i := 422) (by decide +kernel), List.mem_of_getElem? (i := 423) (by decide +kernel)⟩
theorem lw_p7 : lw_okq (⟨"NeverBelieved$Scroll", "countIn", "(I)V"⟩, 10) := ⟨⟨by decide +kernel, by decide +kernel⟩, List.mem_of_getElem? (i := 76) (by decide +kernel), List.mem_of_getElem? (i := 426) (by decide +kernel), List.mem_of_getElem? (i := 427) (by decide +kernel)⟩
theorem lw_p8 : lw_okq (⟨"NeverBelieved$City", "clear", "()V"⟩, 8) := ⟨⟨by decide +kernel, by decide +kernel⟩, List.mem_of_getElem? (i := 27) (by decide +kernel), List.mem_of_getElem? (i := 439) (by decide +kernel), List.mem_of_getElem? (i := 440) (by decide +kernel)⟩
theorem lw_p9 : lw_okq (⟨"NeverBelieved$City", "addCause", "([I)V"⟩, 8) := ⟨⟨by decide +kernel, by decide +kernel⟩, List.mem_of_getElem? (i := 27) (by decide +kernel), List.mem_of_getElem? (i := 443) (by decide +kernel), List.mem_of_getElem? (i := 444) (by decide +kernel)⟩
theorem lw_p10 : lw_okq (⟨"NeverBelieved$City", "addFact", "(III)V"⟩, 8) := ⟨⟨by decide +kernel, by decide +kernel⟩, List.mem_of_getElem? (i := 27) (by decide +kernel), List.mem_of_getElem? (i := 451) (by decide +kernel), List.mem_of_getElem? (i := 452) (by decide +kernel)⟩
theorem lw_p11 : lw_okq (⟨"NeverBelieved$City", "addOne", "(I[I)V"⟩, 8) := ⟨⟨by decide +kernel, by decide +kernel⟩, List.mem_of_getElem? (i := 27) (by decide +kernel), List.mem_of_getElem? (i := 455) (by decide +kernel), List.mem_of_getElem? (i := 456) (by decide +kernel)⟩
theorem lw_p12 : lw_okq (⟨"NeverBelieved", "refusalOf", "(IIIII)I"⟩, 6) := ⟨⟨by decide +kernel, by decide +kernel⟩, List.mem_of_getElem? (i := 19) (by decide +kernel), List.mem_of_getElem? (i := 521) (by decide +kernel), List.mem_of_getElem? (i := 522) (by decide +kernel)⟩
theorem lw_p13 : lw_okq (⟨"NeverBelieved$Sentence", "oneAtLeast", "(III)I"⟩, 5) := ⟨⟨by decide +kernel, by decide +kernel⟩, List.mem_of_getElem? (i := 188) (by decide +kernel), List.mem_of_getElem? (i := 573) (by decide +kernel), List.mem_of_getElem? (i := 574) (by decide +kernel)⟩
theorem lw_p14 : lw_okq (⟨"NeverBelieved$Seer", "startCounting", "()V"⟩, 9) := ⟨⟨by decide +kernel, by decide +kernel⟩, List.mem_of_getElem? (i := 247) (by decide +kernel), List.mem_of_getElem? (i := 700) (by decide +kernel), List.mem_of_getElem? (i := 701) (by decide +kernel)⟩
theorem lw_p15 : lw_okq (⟨"NeverBelieved$Seer", "countIn", "(I)V"⟩, 9) := ⟨⟨by decide +kernel, by decide +kernel⟩, List.mem_of_getElem? (i := 247) (by decide +kernel), List.mem_of_getElem? (i := 709) (by decide +kernel), List.mem_of_getElem? (i := 710) (by decide +kernel)⟩
def lw_privs_1 : List (MethodName × Nat) := [(⟨"NeverBelieved$Scroll", "nextToken", "()V"⟩, 10), (⟨"NeverBelieved$Scroll", "readClause", "([I)Z"⟩, 10), (⟨"NeverBelieved$Scroll", "wordOfToken", "()I"⟩, 10), (⟨"NeverBelieved$Scroll", "isToken", "(Ljava/lang/String;)Z"⟩, 10), (⟨"NeverBelieved$Scroll", "hasRoomFor", "(I)Z"⟩, 10), (⟨"NeverBelieved$Scroll", "numberOfToken", "()I"⟩, 10), (⟨"NeverBelieved$Scroll", "mostOf", "(C)I"⟩, 10), (⟨"NeverBelieved$Scroll", "countIn", "(I)V"⟩, 10), (⟨"NeverBelieved$City", "clear", "()V"⟩, 8), (⟨"NeverBelieved$City", "addCause", "([I)V"⟩, 8), (⟨"NeverBelieved$City", "addFact", "(III)V"⟩, 8), (⟨"NeverBelieved$City", "addOne", "(I[I)V"⟩, 8), (⟨"NeverBelieved", "refusalOf", "(IIIII)I"⟩, 6), (⟨"NeverBelieved$Sentence", "oneAtLeast", "(III)I"⟩, 5), (⟨"NeverBelieved$Seer", "startCounting", "()V"⟩, 9), (⟨"NeverBelieved$Seer", "countIn", "(I)V"⟩, 9)]
theorem lw_r1 : ∀ q ∈ lw_privs_1, lw_okq q := List.forall_mem_cons.mpr ⟨lw_p0, List.forall_mem_cons.mpr ⟨lw_p1, List.forall_mem_cons.mpr ⟨lw_p2, List.forall_mem_cons.mpr ⟨lw_p3, List.forall_mem_cons.mpr ⟨lw_p4, List.forall_mem_cons.mpr ⟨lw_p5, List.forall_mem_cons.mpr ⟨lw_p6, List.forall_mem_cons.mpr ⟨lw_p7, List.forall_mem_cons.mpr ⟨lw_p8, List.forall_mem_cons.mpr ⟨lw_p9, List.forall_mem_cons.mpr ⟨lw_p10, List.forall_mem_cons.mpr ⟨lw_p11, List.forall_mem_cons.mpr ⟨lw_p12, List.forall_mem_cons.mpr ⟨lw_p13, List.forall_mem_cons.mpr ⟨lw_p14, List.forall_mem_cons.mpr ⟨lw_p15, fun _ h => absurd h List.not_mem_nil⟩⟩⟩⟩⟩⟩⟩⟩⟩⟩⟩⟩⟩⟩⟩⟩
theorem lw_p16 : lw_okq (⟨"NeverBelieved$Bets", "worstOf", "(IJ)I"⟩, 5) := ⟨⟨by decide +kernel, by decide +kernel⟩, List.mem_of_getElem? (i := 157) (by decide +kernel), List.mem_of_getElem? (i := 768) (by decide +kernel), List.mem_of_getElem? (i := 769) (by decide +kernel)⟩
theorem lw_p17 : lw_okq (⟨"NeverBelieved$Bets", "winOf", "(II)I"⟩, 5) := ⟨⟨by decide +kernel, by decide +kernel⟩, List.mem_of_getElem? (i := 157) (by decide +kernel), List.mem_of_getElem? (i := 772) (by decide +kernel), List.mem_of_getElem? (i := 773) (by decide +kernel)⟩
theorem lw_p18 : lw_okq (⟨"NeverBelieved$Seer", "sumOfPlan", "(IZ)I"⟩, 9) := ⟨⟨by decide +kernel, by decide +kernel⟩, List.mem_of_getElem? (i := 247) (by decide +kernel), List.mem_of_getElem? (i := 785) (by decide +kernel), List.mem_of_getElem? (i := 786) (by decide +kernel)⟩
theorem lw_p19 : lw_okq (⟨"NeverBelieved$Seer", "mostTomorrow", "(IJ)I"⟩, 9) := ⟨⟨by decide +kernel, by decide +kernel⟩, List.mem_of_getElem? (i := 247) (by decide +kernel), List.mem_of_getElem? (i := 790) (by decide +kernel), List.mem_of_getElem? (i := 791) (by decide +kernel)⟩
theorem lw_p20 : lw_okq (⟨"NeverBelievedModel", "begin", "()V"⟩, 39) := ⟨⟨by decide +kernel, by decide +kernel⟩, List.mem_of_getElem? (i := 828) (by decide +kernel), List.mem_of_getElem? (i := 834) (by decide +kernel), List.mem_of_getElem? (i := 835) (by decide +kernel)⟩
theorem lw_p21 : lw_okq (⟨"NeverBelievedModel", "isRead", "()Z"⟩, 39) := ⟨⟨by decide +kernel, by decide +kernel⟩, List.mem_of_getElem? (i := 828) (by decide +kernel), List.mem_of_getElem? (i := 972) (by decide +kernel), List.mem_of_getElem? (i := 973) (by decide +kernel)⟩
theorem lw_p22 : lw_okq (⟨"NeverBelievedModel", "isLine", "(I)Z"⟩, 39) := ⟨⟨by decide +kernel, by decide +kernel⟩, List.mem_of_getElem? (i := 828) (by decide +kernel), List.mem_of_getElem? (i := 976) (by decide +kernel), List.mem_of_getElem? (i := 977) (by decide +kernel)⟩
theorem lw_p23 : lw_okq (⟨"NeverBelievedModel", "nextToken", "()V"⟩, 39) := ⟨⟨by decide +kernel, by decide +kernel⟩, List.mem_of_getElem? (i := 828) (by decide +kernel), List.mem_of_getElem? (i := 980) (by decide +kernel), List.mem_of_getElem? (i := 981) (by decide +kernel)⟩
theorem lw_p24 : lw_okq (⟨"NeverBelievedModel", "sortOf", "()I"⟩, 39) := ⟨⟨by decide +kernel, by decide +kernel⟩, List.mem_of_getElem? (i := 828) (by decide +kernel), List.mem_of_getElem? (i := 990) (by decide +kernel), List.mem_of_getElem? (i := 991) (by decide +kernel)⟩
theorem lw_p25 : lw_okq (⟨"NeverBelievedModel", "fails", "()Z"⟩, 39) := ⟨⟨by decide +kernel, by decide +kernel⟩, List.mem_of_getElem? (i := 828) (by decide +kernel), List.mem_of_getElem? (i := 1003) (by decide +kernel), List.mem_of_getElem? (i := 1004) (by decide +kernel)⟩
theorem lw_p26 : lw_okq (⟨"NeverBelievedModel", "isNumber", "(II)Z"⟩, 39) := ⟨⟨by decide +kernel, by decide +kernel⟩, List.mem_of_getElem? (i := 828) (by decide +kernel), List.mem_of_getElem? (i := 1007) (by decide +kernel), List.mem_of_getElem? (i := 1008) (by decide +kernel)⟩
theorem lw_p27 : lw_okq (⟨"NeverBelievedModel", "isDeed", "(I)Z"⟩, 39) := ⟨⟨by decide +kernel, by decide +kernel⟩, List.mem_of_getElem? (i := 828) (by decide +kernel), List.mem_of_getElem? (i := 1011) (by decide +kernel), List.mem_of_getElem? (i := 1012) (by decide +kernel)⟩
theorem lw_p28 : lw_okq (⟨"NeverBelievedModel", "doLine", "(I)V"⟩, 39) := ⟨⟨by decide +kernel, by decide +kernel⟩, List.mem_of_getElem? (i := 828) (by decide +kernel), List.mem_of_getElem? (i := 1019) (by decide +kernel), List.mem_of_getElem? (i := 1020) (by decide +kernel)⟩
theorem lw_p29 : lw_okq (⟨"NeverBelievedModel", "isFact", "(I)Z"⟩, 39) := ⟨⟨by decide +kernel, by decide +kernel⟩, List.mem_of_getElem? (i := 828) (by decide +kernel), List.mem_of_getElem? (i := 1027) (by decide +kernel), List.mem_of_getElem? (i := 1028) (by decide +kernel)⟩
theorem lw_p30 : lw_okq (⟨"NeverBelievedModel", "isOne", "(I)Z"⟩, 39) := ⟨⟨by decide +kernel, by decide +kernel⟩, List.mem_of_getElem? (i := 828) (by decide +kernel), List.mem_of_getElem? (i := 1035) (by decide +kernel), List.mem_of_getElem? (i := 1036) (by decide +kernel)⟩
theorem lw_p31 : lw_okq (⟨"NeverBelievedModel", "kindOf", "(I)I"⟩, 39) := ⟨⟨by decide +kernel, by decide +kernel⟩, List.mem_of_getElem? (i := 828) (by decide +kernel), List.mem_of_getElem? (i := 1051) (by decide +kernel), List.mem_of_getElem? (i := 1052) (by decide +kernel)⟩
def lw_privs_2 : List (MethodName × Nat) := [(⟨"NeverBelieved$Bets", "worstOf", "(IJ)I"⟩, 5), (⟨"NeverBelieved$Bets", "winOf", "(II)I"⟩, 5), (⟨"NeverBelieved$Seer", "sumOfPlan", "(IZ)I"⟩, 9), (⟨"NeverBelieved$Seer", "mostTomorrow", "(IJ)I"⟩, 9), (⟨"NeverBelievedModel", "begin", "()V"⟩, 39), (⟨"NeverBelievedModel", "isRead", "()Z"⟩, 39), (⟨"NeverBelievedModel", "isLine", "(I)Z"⟩, 39), (⟨"NeverBelievedModel", "nextToken", "()V"⟩, 39), (⟨"NeverBelievedModel", "sortOf", "()I"⟩, 39), (⟨"NeverBelievedModel", "fails", "()Z"⟩, 39), (⟨"NeverBelievedModel", "isNumber", "(II)Z"⟩, 39), (⟨"NeverBelievedModel", "isDeed", "(I)Z"⟩, 39), (⟨"NeverBelievedModel", "doLine", "(I)V"⟩, 39), (⟨"NeverBelievedModel", "isFact", "(I)Z"⟩, 39), (⟨"NeverBelievedModel", "isOne", "(I)Z"⟩, 39), (⟨"NeverBelievedModel", "kindOf", "(I)I"⟩, 39)]
theorem lw_r2 : ∀ q ∈ lw_privs_2, lw_okq q := List.forall_mem_cons.mpr ⟨lw_p16, List.forall_mem_cons.mpr ⟨lw_p17, List.forall_mem_cons.mpr ⟨lw_p18, List.forall_mem_cons.mpr ⟨lw_p19, List.forall_mem_cons.mpr ⟨lw_p20, List.forall_mem_cons.mpr ⟨lw_p21, List.forall_mem_cons.mpr ⟨lw_p22, List.forall_mem_cons.mpr ⟨lw_p23, List.forall_mem_cons.mpr ⟨lw_p24, List.forall_mem_cons.mpr ⟨lw_p25, List.forall_mem_cons.mpr ⟨lw_p26, List.forall_mem_cons.mpr ⟨lw_p27, List.forall_mem_cons.mpr ⟨lw_p28, List.forall_mem_cons.mpr ⟨lw_p29, List.forall_mem_cons.mpr ⟨lw_p30, List.forall_mem_cons.mpr ⟨lw_p31, fun _ h => absurd h List.not_mem_nil⟩⟩⟩⟩⟩⟩⟩⟩⟩⟩⟩⟩⟩⟩⟩⟩
theorem lw_p32 : lw_okq (⟨"NeverBelievedModel", "trusts", "(I)Z"⟩, 39) := ⟨⟨by decide +kernel, by decide +kernel⟩, List.mem_of_getElem? (i := 828) (by decide +kernel), List.mem_of_getElem? (i := 1055) (by decide +kernel), List.mem_of_getElem? (i := 1056) (by decide +kernel)⟩
theorem lw_p33 : lw_okq (⟨"NeverBelievedModel", "barred", "(IIIII)I"⟩, 39) := ⟨⟨by decide +kernel, by decide +kernel⟩, List.mem_of_getElem? (i := 828) (by decide +kernel), List.mem_of_getElem? (i := 1067) (by decide +kernel), List.mem_of_getElem? (i := 1068) (by decide +kernel)⟩
theorem lw_p34 : lw_okq (⟨"NeverBelievedModel", "layTold", "(IIIII)V"⟩, 39) := ⟨⟨by decide +kernel, by decide +kernel⟩, List.mem_of_getElem? (i := 828) (by decide +kernel), List.mem_of_getElem? (i := 1071) (by decide +kernel), List.mem_of_getElem? (i := 1072) (by decide +kernel)⟩
theorem lw_p35 : lw_okq (⟨"NeverBelievedModel", "lay", "(IIIII)V"⟩, 39) := ⟨⟨by decide +kernel, by decide +kernel⟩, List.mem_of_getElem? (i := 828) (by decide +kernel), List.mem_of_getElem? (i := 1075) (by decide +kernel), List.mem_of_getElem? (i := 1076) (by decide +kernel)⟩
theorem lw_p36 : lw_okq (⟨"NeverBelievedModel", "everybody", "()I"⟩, 39) := ⟨⟨by decide +kernel, by decide +kernel⟩, List.mem_of_getElem? (i := 828) (by decide +kernel), List.mem_of_getElem? (i := 1079) (by decide +kernel), List.mem_of_getElem? (i := 1080) (by decide +kernel)⟩
theorem lw_p37 : lw_okq (⟨"NeverBelievedModel", "isSo", "([II)Z"⟩, 39) := ⟨⟨by decide +kernel, by decide +kernel⟩, List.mem_of_getElem? (i := 828) (by decide +kernel), List.mem_of_getElem? (i := 1083) (by decide +kernel), List.mem_of_getElem? (i := 1084) (by decide +kernel)⟩
theorem lw_p38 : lw_okq (⟨"NeverBelievedModel", "hearAll", "([II)V"⟩, 39) := ⟨⟨by decide +kernel, by decide +kernel⟩, List.mem_of_getElem? (i := 828) (by decide +kernel), List.mem_of_getElem? (i := 1090) (by decide +kernel), List.mem_of_getElem? (i := 1091) (by decide +kernel)⟩
theorem lw_p39 : lw_okq (⟨"NeverBelievedModel", "hears", "([IIZ)V"⟩, 39) := ⟨⟨by decide +kernel, by decide +kernel⟩, List.mem_of_getElem? (i := 828) (by decide +kernel), List.mem_of_getElem? (i := 1097) (by decide +kernel), List.mem_of_getElem? (i := 1098) (by decide +kernel)⟩
theorem lw_p40 : lw_okq (⟨"NeverBelievedModel", "pass", "([I)V"⟩, 39) := ⟨⟨by decide +kernel, by decide +kernel⟩, List.mem_of_getElem? (i := 828) (by decide +kernel), List.mem_of_getElem? (i := 1101) (by decide +kernel), List.mem_of_getElem? (i := 1102) (by decide +kernel)⟩
theorem lw_p41 : lw_okq (⟨"NeverBelievedModel", "note", "()V"⟩, 39) := ⟨⟨by decide +kernel, by decide +kernel⟩, List.mem_of_getElem? (i := 828) (by decide +kernel), List.mem_of_getElem? (i := 1112) (by decide +kernel), List.mem_of_getElem? (i := 1113) (by decide +kernel)⟩
theorem lw_p42 : lw_okq (⟨"NeverBelievedModel", "changed", "([I[I)I"⟩, 39) := ⟨⟨by decide +kernel, by decide +kernel⟩, List.mem_of_getElem? (i := 828) (by decide +kernel), List.mem_of_getElem? (i := 1116) (by decide +kernel), List.mem_of_getElem? (i := 1117) (by decide +kernel)⟩
theorem lw_p43 : lw_okq (⟨"NeverBelievedModel", "sumOf", "(I)I"⟩, 39) := ⟨⟨by decide +kernel, by decide +kernel⟩, List.mem_of_getElem? (i := 828) (by decide +kernel), List.mem_of_getElem? (i := 1124) (by decide +kernel), List.mem_of_getElem? (i := 1125) (by decide +kernel)⟩
theorem lw_p44 : lw_okq (⟨"NeverBelievedModel", "layBest", "([I)V"⟩, 39) := ⟨⟨by decide +kernel, by decide +kernel⟩, List.mem_of_getElem? (i := 828) (by decide +kernel), List.mem_of_getElem? (i := 1148) (by decide +kernel), List.mem_of_getElem? (i := 1149) (by decide +kernel)⟩
theorem lw_p45 : lw_okq (⟨"NeverBelievedModel", "isSentence", "(I)Z"⟩, 39) := ⟨⟨by decide +kernel, by decide +kernel⟩, List.mem_of_getElem? (i := 828) (by decide +kernel), List.mem_of_getElem? (i := 1153) (by decide +kernel), List.mem_of_getElem? (i := 1154) (by decide +kernel)⟩
theorem lw_p46 : lw_okq (⟨"NeverBelievedModel", "askOf", "(III)I"⟩, 39) := ⟨⟨by decide +kernel, by decide +kernel⟩, List.mem_of_getElem? (i := 828) (by decide +kernel), List.mem_of_getElem? (i := 1164) (by decide +kernel), List.mem_of_getElem? (i := 1165) (by decide +kernel)⟩
theorem lw_p47 : lw_okq (⟨"NeverBelievedModel", "sumBy", "(IIIII)I"⟩, 39) := ⟨⟨by decide +kernel, by decide +kernel⟩, List.mem_of_getElem? (i := 828) (by decide +kernel), List.mem_of_getElem? (i := 1176) (by decide +kernel), List.mem_of_getElem? (i := 1177) (by decide +kernel)⟩
def lw_privs_3 : List (MethodName × Nat) := [(⟨"NeverBelievedModel", "trusts", "(I)Z"⟩, 39), (⟨"NeverBelievedModel", "barred", "(IIIII)I"⟩, 39), (⟨"NeverBelievedModel", "layTold", "(IIIII)V"⟩, 39), (⟨"NeverBelievedModel", "lay", "(IIIII)V"⟩, 39), (⟨"NeverBelievedModel", "everybody", "()I"⟩, 39), (⟨"NeverBelievedModel", "isSo", "([II)Z"⟩, 39), (⟨"NeverBelievedModel", "hearAll", "([II)V"⟩, 39), (⟨"NeverBelievedModel", "hears", "([IIZ)V"⟩, 39), (⟨"NeverBelievedModel", "pass", "([I)V"⟩, 39), (⟨"NeverBelievedModel", "note", "()V"⟩, 39), (⟨"NeverBelievedModel", "changed", "([I[I)I"⟩, 39), (⟨"NeverBelievedModel", "sumOf", "(I)I"⟩, 39), (⟨"NeverBelievedModel", "layBest", "([I)V"⟩, 39), (⟨"NeverBelievedModel", "isSentence", "(I)Z"⟩, 39), (⟨"NeverBelievedModel", "askOf", "(III)I"⟩, 39), (⟨"NeverBelievedModel", "sumBy", "(IIIII)I"⟩, 39)]
theorem lw_r3 : ∀ q ∈ lw_privs_3, lw_okq q := List.forall_mem_cons.mpr ⟨lw_p32, List.forall_mem_cons.mpr ⟨lw_p33, List.forall_mem_cons.mpr ⟨lw_p34, List.forall_mem_cons.mpr ⟨lw_p35, List.forall_mem_cons.mpr ⟨lw_p36, List.forall_mem_cons.mpr ⟨lw_p37, List.forall_mem_cons.mpr ⟨lw_p38, List.forall_mem_cons.mpr ⟨lw_p39, List.forall_mem_cons.mpr ⟨lw_p40, List.forall_mem_cons.mpr ⟨lw_p41, List.forall_mem_cons.mpr ⟨lw_p42, List.forall_mem_cons.mpr ⟨lw_p43, List.forall_mem_cons.mpr ⟨lw_p44, List.forall_mem_cons.mpr ⟨lw_p45, List.forall_mem_cons.mpr ⟨lw_p46, List.forall_mem_cons.mpr ⟨lw_p47, fun _ h => absurd h List.not_mem_nil⟩⟩⟩⟩⟩⟩⟩⟩⟩⟩⟩⟩⟩⟩⟩⟩
theorem lw_p48 : lw_okq (⟨"NeverBelievedModel", "layCanBe", "()V"⟩, 39) := ⟨⟨by decide +kernel, by decide +kernel⟩, List.mem_of_getElem? (i := 828) (by decide +kernel), List.mem_of_getElem? (i := 1192) (by decide +kernel), List.mem_of_getElem? (i := 1193) (by decide +kernel)⟩
theorem lw_p49 : lw_okq (⟨"NeverBelievedModel", "worthOf", "([II)I"⟩, 39) := ⟨⟨by decide +kernel, by decide +kernel⟩, List.mem_of_getElem? (i := 828) (by decide +kernel), List.mem_of_getElem? (i := 1201) (by decide +kernel), List.mem_of_getElem? (i := 1202) (by decide +kernel)⟩
theorem lw_p50 : lw_okq (⟨"NeverBelievedModel", "mostNext", "([I)I"⟩, 39) := ⟨⟨by decide +kernel, by decide +kernel⟩, List.mem_of_getElem? (i := 828) (by decide +kernel), List.mem_of_getElem? (i := 1205) (by decide +kernel), List.mem_of_getElem? (i := 1206) (by decide +kernel)⟩
theorem lw_p51 : lw_okq (⟨"NeverBelievedModel", "isSaved", "(II)Z"⟩, 39) := ⟨⟨by decide +kernel, by decide +kernel⟩, List.mem_of_getElem? (i := 828) (by decide +kernel), List.mem_of_getElem? (i := 1220) (by decide +kernel), List.mem_of_getElem? (i := 1221) (by decide +kernel)⟩
def lw_privs_4 : List (MethodName × Nat) := [(⟨"NeverBelievedModel", "layCanBe", "()V"⟩, 39), (⟨"NeverBelievedModel", "worthOf", "([II)I"⟩, 39), (⟨"NeverBelievedModel", "mostNext", "([I)I"⟩, 39), (⟨"NeverBelievedModel", "isSaved", "(II)Z"⟩, 39)]
theorem lw_r4 : ∀ q ∈ lw_privs_4, lw_okq q := List.forall_mem_cons.mpr ⟨lw_p48, List.forall_mem_cons.mpr ⟨lw_p49, List.forall_mem_cons.mpr ⟨lw_p50, List.forall_mem_cons.mpr ⟨lw_p51, fun _ h => absurd h List.not_mem_nil⟩⟩⟩⟩
def lw_privs : List (MethodName × Nat) := lw_privs_1 ++ (lw_privs_2 ++ (lw_privs_3 ++ (lw_privs_4)))
def lw_tbl : List Cond := k2_sels lw_privs ++ tables_1
theorem lw_privs_ok : ∀ q ∈ lw_privs, lw_okq q := by
  show ∀ q ∈ lw_privs_1 ++ (lw_privs_2 ++ (lw_privs_3 ++ (lw_privs_4))), lw_okq q
  exact List.forall_mem_append.mpr ⟨lw_r1, List.forall_mem_append.mpr ⟨lw_r2, List.forall_mem_append.mpr ⟨lw_r3, lw_r4⟩⟩⟩

def RX0 : String := "NeverBelieved$Bets"
def TX0 : u_T := fun k => match k with
  | 0 => ("NeverBelieved$Bets", "many", "I", false)
  | 1 => ("NeverBelieved$Bets", "facts", "[I", true)
  | 2 => ("NeverBelieved$Bets", "prices", "[I", true)
  | 3 => ("NeverBelieved$Bets", "chosen", "I", false)
  | _ => ("NeverBelieved$Bets", "won", "I", false)
def tyX0 : Nat → FieldType := fun k => match k with
  | 0 => .int
  | 1 => .array .int
  | 2 => .array .int
  | 3 => .int
  | _ => .int
theorem nmX0 : ∀ a, a < 5 → ∀ b, b < 5 → a ≠ b → (TX0 a).2.1 ≠ (TX0 b).2.1 := by decide +kernel
theorem tyX0_ok : ∀ k, k < 5 → parseFieldDescriptor (TX0 k).2.2.1 = some (tyX0 k) := by decide +kernel
def RX1 : String := "NeverBelieved$City"
def TX1 : u_T := fun k => match k with
  | 0 => ("NeverBelieved$City", "manyFacts", "I", false)
  | 1 => ("NeverBelieved$City", "manyPeople", "I", false)
  | 2 => ("NeverBelieved$City", "manyCauses", "I", false)
  | 3 => ("NeverBelieved$City", "told", "I", false)
  | 4 => ("NeverBelieved$City", "interpreters", "I", false)
  | 5 => ("NeverBelieved$City", "facts", "[[I", true)
  | 6 => ("NeverBelieved$City", "people", "[[I", true)
  | _ => ("NeverBelieved$City", "causes", "[[I", true)
def tyX1 : Nat → FieldType := fun k => match k with
  | 0 => .int
  | 1 => .int
  | 2 => .int
  | 3 => .int
  | 4 => .int
  | 5 => .array (.array .int)
  | 6 => .array (.array .int)
  | _ => .array (.array .int)
theorem nmX1 : ∀ a, a < 8 → ∀ b, b < 8 → a ≠ b → (TX1 a).2.1 ≠ (TX1 b).2.1 := by decide +kernel
theorem tyX1_ok : ∀ k, k < 8 → parseFieldDescriptor (TX1 k).2.2.1 = some (tyX1 k) := by decide +kernel
def RX2 : String := "NeverBelieved$Days"
def TX2 : u_T := fun k => match k with
  | 0 => ("NeverBelieved$Days", "truth", "I", false)
  | 1 => ("NeverBelieved$Days", "day", "I", false)
  | 2 => ("NeverBelieved$Days", "undoable", "I", false)
  | 3 => ("NeverBelieved$Days", "minds", "J", false)
  | 4 => ("NeverBelieved$Days", "kept", "I", false)
  | 5 => ("NeverBelieved$Days", "newest", "I", false)
  | 6 => ("NeverBelieved$Days", "truths", "[I", true)
  | 7 => ("NeverBelieved$Days", "allMinds", "[J", true)
  | _ => ("NeverBelieved$Days", "dates", "[I", true)
def tyX2 : Nat → FieldType := fun k => match k with
  | 0 => .int
  | 1 => .int
  | 2 => .int
  | 3 => .long
  | 4 => .int
  | 5 => .int
  | 6 => .array .int
  | 7 => .array .long
  | _ => .array .int
theorem nmX2 : ∀ a, a < 9 → ∀ b, b < 9 → a ≠ b → (TX2 a).2.1 ≠ (TX2 b).2.1 := by decide +kernel
theorem tyX2_ok : ∀ k, k < 9 → parseFieldDescriptor (TX2 k).2.2.1 = some (tyX2 k) := by decide +kernel
def RX3 : String := "NeverBelieved$Foresight"
def TX3 : u_T := fun k => match k with
  | 0 => ("NeverBelieved$Foresight", "city", "LNeverBelieved$City;", true)
  | 1 => ("NeverBelieved$Foresight", "sentence", "LNeverBelieved$Sentence;", true)
  | 2 => ("NeverBelieved$Foresight", "truth", "I", false)
  | 3 => ("NeverBelieved$Foresight", "minds", "J", false)
  | 4 => ("NeverBelieved$Foresight", "truths", "[I", true)
  | 5 => ("NeverBelieved$Foresight", "sums", "[I", true)
  | 6 => ("NeverBelieved$Foresight", "toldMinds", "[I", true)
  | 7 => ("NeverBelieved$Foresight", "heardMinds", "[I", true)
  | 8 => ("NeverBelieved$Foresight", "toldDoers", "I", false)
  | 9 => ("NeverBelieved$Foresight", "heardDoers", "I", false)
  | _ => ("NeverBelieved$Foresight", "idleDoers", "I", false)
def tyX3 : Nat → FieldType := fun k => match k with
  | 0 => .object "NeverBelieved$City"
  | 1 => .object "NeverBelieved$Sentence"
  | 2 => .int
  | 3 => .long
  | 4 => .array .int
  | 5 => .array .int
  | 6 => .array .int
  | 7 => .array .int
  | 8 => .int
  | 9 => .int
  | _ => .int
theorem nmX3 : ∀ a, a < 11 → ∀ b, b < 11 → a ≠ b → (TX3 a).2.1 ≠ (TX3 b).2.1 := by decide +kernel
theorem tyX3_ok : ∀ k, k < 11 → parseFieldDescriptor (TX3 k).2.2.1 = some (tyX3 k) := by decide +kernel
def RX4 : String := "NeverBelieved$Minds"
def RX5 : String := "NeverBelieved$Scroll"
def TX5 : u_T := fun k => match k with
  | 0 => ("NeverBelieved$Scroll", "letters", "[I", true)
  | 1 => ("NeverBelieved$Scroll", "length", "I", false)
  | 2 => ("NeverBelieved$Scroll", "read", "[[I", true)
  | 3 => ("NeverBelieved$Scroll", "clauses", "I", false)
  | 4 => ("NeverBelieved$Scroll", "start", "I", false)
  | 5 => ("NeverBelieved$Scroll", "behind", "I", false)
  | 6 => ("NeverBelieved$Scroll", "sort", "I", false)
  | 7 => ("NeverBelieved$Scroll", "facts", "I", false)
  | 8 => ("NeverBelieved$Scroll", "people", "I", false)
  | _ => ("NeverBelieved$Scroll", "causes", "I", false)
def tyX5 : Nat → FieldType := fun k => match k with
  | 0 => .array .int
  | 1 => .int
  | 2 => .array (.array .int)
  | 3 => .int
  | 4 => .int
  | 5 => .int
  | 6 => .int
  | 7 => .int
  | 8 => .int
  | _ => .int
theorem nmX5 : ∀ a, a < 10 → ∀ b, b < 10 → a ≠ b → (TX5 a).2.1 ≠ (TX5 b).2.1 := by decide +kernel
theorem tyX5_ok : ∀ k, k < 10 → parseFieldDescriptor (TX5 k).2.2.1 = some (tyX5 k) := by decide +kernel
def RX6 : String := "NeverBelieved$Seer"
def TX6 : u_T := fun k => match k with
  | 0 => ("NeverBelieved$Seer", "city", "LNeverBelieved$City;", true)
  | 1 => ("NeverBelieved$Seer", "today", "LNeverBelieved$Foresight;", true)
  | 2 => ("NeverBelieved$Seer", "tomorrow", "LNeverBelieved$Foresight;", true)
  | 3 => ("NeverBelieved$Seer", "sum", "I", false)
  | 4 => ("NeverBelieved$Seer", "number", "I", false)
  | 5 => ("NeverBelieved$Seer", "to", "I", false)
  | 6 => ("NeverBelieved$Seer", "many", "I", false)
  | 7 => ("NeverBelieved$Seer", "first", "I", false)
  | _ => ("NeverBelieved$Seer", "stanceSums", "[I", true)
def tyX6 : Nat → FieldType := fun k => match k with
  | 0 => .object "NeverBelieved$City"
  | 1 => .object "NeverBelieved$Foresight"
  | 2 => .object "NeverBelieved$Foresight"
  | 3 => .int
  | 4 => .int
  | 5 => .int
  | 6 => .int
  | 7 => .int
  | _ => .array .int
theorem nmX6 : ∀ a, a < 9 → ∀ b, b < 9 → a ≠ b → (TX6 a).2.1 ≠ (TX6 b).2.1 := by decide +kernel
theorem tyX6_ok : ∀ k, k < 9 → parseFieldDescriptor (TX6 k).2.2.1 = some (tyX6 k) := by decide +kernel
def RX7 : String := "NeverBelieved$Sentence"
def TX7 : u_T := fun k => match k with
  | 0 => ("NeverBelieved$Sentence", "kind", "I", false)
  | 1 => ("NeverBelieved$Sentence", "f", "I", false)
  | 2 => ("NeverBelieved$Sentence", "b", "I", false)
  | 3 => ("NeverBelieved$Sentence", "g", "I", false)
  | _ => ("NeverBelieved$Sentence", "c", "I", false)
def tyX7 : Nat → FieldType := fun k => match k with
  | 0 => .int
  | 1 => .int
  | 2 => .int
  | 3 => .int
  | _ => .int
theorem nmX7 : ∀ a, a < 5 → ∀ b, b < 5 → a ≠ b → (TX7 a).2.1 ≠ (TX7 b).2.1 := by decide +kernel
theorem tyX7_ok : ∀ k, k < 5 → parseFieldDescriptor (TX7 k).2.2.1 = some (tyX7 k) := by decide +kernel
def RX8 : String := "NeverBelieved"
def TX8 : u_T := fun k => match k with
  | 0 => ("NeverBelieved", "place", "LNeverBelieved$City;", true)
  | 1 => ("NeverBelieved", "scroll", "LNeverBelieved$Scroll;", true)
  | 2 => ("NeverBelieved", "days", "LNeverBelieved$Days;", true)
  | 3 => ("NeverBelieved", "bets", "LNeverBelieved$Bets;", true)
  | 4 => ("NeverBelieved", "today", "LNeverBelieved$Foresight;", true)
  | _ => ("NeverBelieved", "seer", "LNeverBelieved$Seer;", true)
def tyX8 : Nat → FieldType := fun k => match k with
  | 0 => .object "NeverBelieved$City"
  | 1 => .object "NeverBelieved$Scroll"
  | 2 => .object "NeverBelieved$Days"
  | 3 => .object "NeverBelieved$Bets"
  | 4 => .object "NeverBelieved$Foresight"
  | _ => .object "NeverBelieved$Seer"
theorem nmX8 : ∀ a, a < 6 → ∀ b, b < 6 → a ≠ b → (TX8 a).2.1 ≠ (TX8 b).2.1 := by decide +kernel
theorem tyX8_ok : ∀ k, k < 6 → parseFieldDescriptor (TX8 k).2.2.1 = some (tyX8 k) := by decide +kernel
def RX9 : String := "NeverBelievedModel"
def TX9 : u_T := fun k => match k with
  | 0 => ("NeverBelievedModel", "facts", "I", false)
  | 1 => ("NeverBelievedModel", "fact", "[I", true)
  | 2 => ("NeverBelievedModel", "people", "I", false)
  | 3 => ("NeverBelievedModel", "person", "[I", true)
  | 4 => ("NeverBelievedModel", "causes", "I", false)
  | 5 => ("NeverBelievedModel", "cause", "[I", true)
  | 6 => ("NeverBelievedModel", "letters", "I", false)
  | 7 => ("NeverBelievedModel", "text", "[I", true)
  | 8 => ("NeverBelievedModel", "position", "I", false)
  | 9 => ("NeverBelievedModel", "tokenAt", "I", false)
  | 10 => ("NeverBelievedModel", "token", "J", false)
  | 11 => ("NeverBelievedModel", "digits", "I", false)
  | 12 => ("NeverBelievedModel", "number", "I", false)
  | 13 => ("NeverBelievedModel", "faultAt", "I", false)
  | 14 => ("NeverBelievedModel", "readMany", "I", false)
  | 15 => ("NeverBelievedModel", "readFacts", "I", false)
  | 16 => ("NeverBelievedModel", "readPeople", "I", false)
  | 17 => ("NeverBelievedModel", "readCauses", "I", false)
  | 18 => ("NeverBelievedModel", "read", "[I", true)
  | 19 => ("NeverBelievedModel", "now", "[I", true)
  | 20 => ("NeverBelievedModel", "tried", "[I", true)
  | 21 => ("NeverBelievedModel", "later", "[I", true)
  | 22 => ("NeverBelievedModel", "besieged", "[I", true)
  | 23 => ("NeverBelievedModel", "image", "[I", true)
  | 24 => ("NeverBelievedModel", "isKept", "[Z", true)
  | 25 => ("NeverBelievedModel", "backOf", "[I", true)
  | 26 => ("NeverBelievedModel", "backs", "I", false)
  | 27 => ("NeverBelievedModel", "bets", "[I", true)
  | 28 => ("NeverBelievedModel", "betMany", "I", false)
  | 29 => ("NeverBelievedModel", "kind", "I", false)
  | 30 => ("NeverBelievedModel", "first", "I", false)
  | 31 => ("NeverBelievedModel", "firstIs", "I", false)
  | 32 => ("NeverBelievedModel", "second", "I", false)
  | 33 => ("NeverBelievedModel", "secondIs", "I", false)
  | 34 => ("NeverBelievedModel", "bestSum", "I", false)
  | 35 => ("NeverBelievedModel", "bestNumber", "I", false)
  | 36 => ("NeverBelievedModel", "bestSet", "I", false)
  | 37 => ("NeverBelievedModel", "canBe", "[Z", true)
  | _ => ("NeverBelievedModel", "second1", "[I", true)
def tyX9 : Nat → FieldType := fun k => match k with
  | 0 => .int
  | 1 => .array .int
  | 2 => .int
  | 3 => .array .int
  | 4 => .int
  | 5 => .array .int
  | 6 => .int
  | 7 => .array .int
  | 8 => .int
  | 9 => .int
  | 10 => .long
  | 11 => .int
  | 12 => .int
  | 13 => .int
  | 14 => .int
  | 15 => .int
  | 16 => .int
  | 17 => .int
  | 18 => .array .int
  | 19 => .array .int
  | 20 => .array .int
  | 21 => .array .int
  | 22 => .array .int
  | 23 => .array .int
  | 24 => .array .boolean
  | 25 => .array .int
  | 26 => .int
  | 27 => .array .int
  | 28 => .int
  | 29 => .int
  | 30 => .int
  | 31 => .int
  | 32 => .int
  | 33 => .int
  | 34 => .int
  | 35 => .int
  | 36 => .int
  | 37 => .array .boolean
  | _ => .array .int
theorem nmX9 : ∀ a, a < 39 → ∀ b, b < 39 → a ≠ b → (TX9 a).2.1 ≠ (TX9 b).2.1 := by decide +kernel
theorem tyX9_ok : ∀ k, k < 39 → parseFieldDescriptor (TX9 k).2.2.1 = some (tyX9 k) := by decide +kernel
abbrev vwCl : List vw_C := [(RX0, TX0, 5), (RX1, TX1, 8), (RX2, TX2, 9), (RX3, TX3, 11), (RX5, TX5, 10), (RX6, TX6, 9), (RX7, TX7, 5), (RX8, TX8, 6), (RX9, TX9, 39)]
/-- the words that stay true while the machine runs -/
def mTb : List Cond := lw_tbl.filter goodWord
theorem mTb_in : ∀ w ∈ mTb, w ∈ lw_tbl := fun _ h => (List.mem_filter.mp h).1
theorem mTb_good : ∀ w ∈ mTb, goodWord w = true := fun _ h => (List.mem_filter.mp h).2
theorem mTm {w : Cond} (i : Nat) (h : tables_1[i]? = some w) (hg : goodWord w = true) : w ∈ mTb := List.mem_filter.mpr ⟨List.mem_append_right _ (List.mem_of_getElem? h), hg⟩
theorem mTs {w : Cond} (i : Nat) (h : (k2_sels lw_privs)[i]? = some w) (hg : goodWord w = true) : w ∈ mTb := List.mem_filter.mpr ⟨List.mem_append_left _ (List.mem_of_getElem? h), hg⟩
theorem mTall {ws : List Cond} (ps : List Nat) (h : ps.map (fun i => tables_1[i]?) = ws.map some) (hg : ws.all goodWord = true) : ∀ w ∈ ws, w ∈ mTb := by
  intro w hw
  have h1 := List.all_eq_true.mp hg w hw
  have h2 : some w ∈ ps.map (fun i => tables_1[i]?) := by rw [h]; exact List.mem_map_of_mem hw
  obtain ⟨i, -, hi⟩ := List.mem_map.mp h2
  exact mTm i hi h1

set_option maxRecDepth 100000 in
theorem uX0 : ∀ w ∈ u_ws RX0 TX0 5, w ∈ mTb := mTall [170, 172, 174, 176, 178] (by decide +kernel) (by decide +kernel)
set_option maxRecDepth 100000 in
theorem uX1 : ∀ w ∈ u_ws RX1 TX1 8, w ∈ mTb := mTall [57, 59, 61, 63, 65, 67, 69, 71] (by decide +kernel) (by decide +kernel)
set_option maxRecDepth 100000 in
theorem uX2 : ∀ w ∈ u_ws RX2 TX2 9, w ∈ mTb := mTall [136, 138, 140, 142, 144, 146, 148, 150, 152] (by decide +kernel) (by decide +kernel)
set_option maxRecDepth 100000 in
theorem uX3 : ∀ w ∈ u_ws RX3 TX3 11, w ∈ mTb := mTall [223, 225, 227, 229, 231, 233, 235, 237, 239, 241, 243] (by decide +kernel) (by decide +kernel)
set_option maxRecDepth 100000 in
theorem uX5 : ∀ w ∈ u_ws RX5 TX5 10, w ∈ mTb := mTall [95, 97, 99, 101, 103, 105, 107, 109, 111, 113] (by decide +kernel) (by decide +kernel)
set_option maxRecDepth 100000 in
theorem uX6 : ∀ w ∈ u_ws RX6 TX6 9, w ∈ mTb := mTall [266, 268, 270, 272, 274, 276, 278, 280, 282] (by decide +kernel) (by decide +kernel)
set_option maxRecDepth 100000 in
theorem uX7 : ∀ w ∈ u_ws RX7 TX7 5, w ∈ mTb := mTall [199, 201, 203, 205, 207] (by decide +kernel) (by decide +kernel)
set_option maxRecDepth 100000 in
theorem uX8 : ∀ w ∈ u_ws RX8 TX8 6, w ∈ mTb := mTall [291, 293, 295, 297, 299, 301] (by decide +kernel) (by decide +kernel)
set_option maxRecDepth 100000 in
theorem uX9 : ∀ w ∈ u_ws RX9 TX9 39, w ∈ mTb := mTall [876, 878, 880, 882, 884, 886, 888, 890, 892, 894, 896, 898, 900, 902, 904, 906, 908, 910, 912, 914, 916, 918, 920, 922, 924, 926, 928, 930, 932, 934, 936, 938, 940, 942, 944, 946, 948, 950, 952] (by decide +kernel) (by decide +kernel)
end
section
/-! ===== THE LOGIC: a world of fixed shape (cells by number), its ints and longs as two tables; a judgement mG (the machine stands at pc, ..) and a contract mM ===== -/
/-- a cell's shape: an array (0 int, 1 boolean, 2 long, 3 rows of ints; its length; its rows' numbers), or an object (its class's number; its fields: (0, _) an int, (1, _) a long, (2, n) the cell n) -/
abbrev mCell : Type := (Nat × Nat × List Nat) ⊕ (Nat × List (Nat × Nat))
/-- what changes: the ints and the longs, by cell and place -/
abbrev mW : Type := (Nat → Nat → Int32) × (Nat → Nat → Int64)
/-- where the cells lie; the classes' numbers and slots; the arrays' classes -/
abbrev mEnv : Type := (Nat → Nat) × va_G × (Nat → ClassId)
def mSh : List mCell := [
  .inr (7, [(2, 1), (2, 22), (2, 39), (2, 43), (2, 46), (2, 58)]),
  .inr (1, [(0, 0), (0, 0), (0, 0), (0, 0), (0, 0), (2, 2), (2, 9), (2, 15)]),
  .inl (3, 6, [3, 4, 5, 6, 7, 8]),
  .inl (0, 2, []),
  .inl (0, 2, []),
  .inl (0, 2, []),
  .inl (0, 2, []),
  .inl (0, 2, []),
  .inl (0, 2, []),
  .inl (3, 5, [10, 11, 12, 13, 14]),
  .inl (0, 6, []),
  .inl (0, 6, []),
  .inl (0, 6, []),
  .inl (0, 6, []),
  .inl (0, 6, []),
  .inl (3, 6, [16, 17, 18, 19, 20, 21]),
  .inl (0, 4, []),
  .inl (0, 4, []),
  .inl (0, 4, []),
  .inl (0, 4, []),
  .inl (0, 4, []),
  .inl (0, 4, []),
  .inr (4, [(2, 23), (0, 0), (2, 24), (0, 0), (0, 0), (0, 0), (0, 0), (0, 0), (0, 0), (0, 0)]),
  .inl (0, 160, []),
  .inl (3, 14, [25, 26, 27, 28, 29, 30, 31, 32, 33, 34, 35, 36, 37, 38]),
  .inl (0, 6, []),
  .inl (0, 6, []),
  .inl (0, 6, []),
  .inl (0, 6, []),
  .inl (0, 6, []),
  .inl (0, 6, []),
  .inl (0, 6, []),
  .inl (0, 6, []),
  .inl (0, 6, []),
  .inl (0, 6, []),
  .inl (0, 6, []),
  .inl (0, 6, []),
  .inl (0, 6, []),
  .inl (0, 6, []),
  .inr (2, [(0, 0), (0, 0), (0, 0), (1, 0), (0, 0), (0, 0), (2, 40), (2, 41), (2, 42)]),
  .inl (0, 10, []),
  .inl (2, 10, []),
  .inl (0, 10, []),
  .inr (0, [(0, 0), (2, 44), (2, 45), (0, 0), (0, 0)]),
  .inl (0, 5, []),
  .inl (0, 5, []),
  .inr (3, [(2, 1), (2, 47), (0, 0), (1, 0), (2, 48), (2, 49), (2, 50), (2, 51), (0, 0), (0, 0), (0, 0)]),
  .inr (6, [(0, 0), (0, 0), (0, 0), (0, 0), (0, 0)]),
  .inl (0, 32, []),
  .inl (0, 32, []),
  .inl (0, 5, []),
  .inl (0, 5, []),
  .inr (3, [(2, 1), (2, 53), (0, 0), (1, 0), (2, 54), (2, 55), (2, 56), (2, 57), (0, 0), (0, 0), (0, 0)]),
  .inr (6, [(0, 0), (0, 0), (0, 0), (0, 0), (0, 0)]),
  .inl (0, 32, []),
  .inl (0, 32, []),
  .inl (0, 5, []),
  .inl (0, 5, []),
  .inr (5, [(2, 1), (2, 46), (2, 52), (0, 0), (0, 0), (0, 0), (0, 0), (0, 0), (2, 59)]),
  .inl (0, 4, []),
  .inr (8, [(0, 0), (2, 61), (0, 0), (2, 62), (0, 0), (2, 63), (0, 0), (2, 64), (0, 0), (0, 0), (1, 0), (0, 0), (0, 0), (0, 0), (0, 0), (0, 0), (0, 0), (0, 0), (2, 65), (2, 66), (2, 67), (2, 68), (2, 69), (2, 70), (2, 71), (2, 72), (0, 0), (2, 73), (0, 0), (0, 0), (0, 0), (0, 0), (0, 0), (0, 0), (0, 0), (0, 0), (0, 0), (2, 74), (2, 75)]),
  .inl (0, 18, []),
  .inl (0, 30, []),
  .inl (0, 24, []),
  .inl (0, 160, []),
  .inl (0, 84, []),
  .inl (0, 32, []),
  .inl (0, 32, []),
  .inl (0, 32, []),
  .inl (0, 32, []),
  .inl (0, 64, []),
  .inl (1, 2, []),
  .inl (0, 256, []),
  .inl (0, 10, []),
  .inl (1, 64, []),
  .inl (0, 32, [])
  ]
def mN : Nat := 76
theorem mSh_len : mSh.length = mN := by decide +kernel
def mV (ad : Nat → Nat) (v : Value) : Value := match v with
  | .ref i => .ref (ad i)
  | v => v
def mFv (ad : Nat → Nat) (w : mW) (i k : Nat) (f : Nat × Nat) : Value := match f.1 with
  | 0 => .int (w.1 i k)
  | 1 => .long (w.2 i k)
  | _ => .ref (ad f.2)
def mFs (ad : Nat → Nat) (w : mW) (i : Nat) (fs : List (Nat × Nat)) : List Value := fs.mapIdx (fun k f => mFv ad w i k f)
def mE (E : mEnv) (w : mW) (i : Nat) (c : mCell) : va_E := match c with
  | .inl (0, n, _) => .inl (E.2.2 0, n, .inl (w.1 i))
  | .inl (1, n, _) => .inl (E.2.2 1, n, .inl (w.1 i))
  | .inl (2, n, _) => .inl (E.2.2 2, n, .inr (.inl (w.2 i)))
  | .inl (_, n, rs) => .inl (E.2.2 3, n, .inr (.inr (.inr (.inr (fun j => (rs[j]?).map E.1)))))
  | .inr (ci, fs) => .inr (ci, mFs E.1 w i fs)
def mWs (E : mEnv) (w : mW) : va_W := mSh.mapIdx (fun i c => (E.1 i, mE E w i c))
def mTys (E : mEnv) : List (ClassId × FieldType) := [(E.2.2 0, .int), (E.2.2 1, .boolean), (E.2.2 2, .long), (E.2.2 3, .array .int)]
def mInj (E : mEnv) : Prop := ∀ i j : Nat, i < mN → j < mN → E.1 i = E.1 j → i = j
def mA (E : mEnv) : Nat → Prop := fun q => ∃ i : Nat, i < mN ∧ q = E.1 i
def mPI (w : mW) (i k : Nat) (v : Int32) : mW := (fun a b => if a = i ∧ b = k then v else w.1 a b, w.2)
def mPL (w : mW) (i k : Nat) (v : Int64) : mW := (w.1, fun a b => if a = i ∧ b = k then v else w.2 a b)
theorem mWs_get (E : mEnv) (w : mW) {i : Nat} {c : mCell} (h : mSh[i]? = some c) : (mWs E w)[i]? = some (E.1 i, mE E w i c) := by
  unfold mWs
  rw [List.getElem?_mapIdx, h]
  rfl
theorem mWs_inv {E : mEnv} {w : mW} {i : Nat} {q : Nat × va_E} (h : (mWs E w)[i]? = some q) : ∃ c : mCell, mSh[i]? = some c ∧ i < mN ∧ q = (E.1 i, mE E w i c) := by
  unfold mWs at h
  rw [List.getElem?_mapIdx] at h
  cases hc : mSh[i]? with
  | none => rw [hc] at h; cases h
  | some c =>
    rw [hc] at h
    refine ⟨c, rfl, ?_, (Option.some.inj h).symm⟩
    rw [← mSh_len]
    exact (List.getElem?_eq_some_iff.mp hc).1
theorem mWs_len (E : mEnv) (w : mW) : (mWs E w).length = mN := by
  unfold mWs
  rw [List.length_mapIdx, mSh_len]
theorem mDis {E : mEnv} {A : Nat → Prop} (w : mW) (hI : mInj E) (hA : ∀ i : Nat, i < mN → A (E.1 i)) : va_D A (mWs E w) := by
  refine ⟨fun i j p q hp hq e => ?_, fun k q hq => ?_⟩
  · obtain ⟨c1, -, h1, rfl⟩ := mWs_inv hp
    obtain ⟨c2, -, h2, rfl⟩ := mWs_inv hq
    exact hI i j h1 h2 e
  · obtain ⟨c1, -, h1, rfl⟩ := mWs_inv hq
    exact hA k h1
theorem mPI_row {w : mW} {i k : Nat} {v : Int32} {j : Nat} (h : j ≠ i) : (mPI w i k v).1 j = w.1 j := by
  funext b
  show (if j = i ∧ b = k then v else w.1 j b) = _
  rw [if_neg (fun q => h q.1)]
theorem mPL_row {w : mW} {i k : Nat} {v : Int64} {j : Nat} (h : j ≠ i) : (mPL w i k v).2 j = w.2 j := by
  funext b
  show (if j = i ∧ b = k then v else w.2 j b) = _
  rw [if_neg (fun q => h q.1)]
theorem mPI_at (w : mW) (i k : Nat) (v : Int32) : (mPI w i k v).1 i k = v := if_pos ⟨rfl, rfl⟩
theorem mPL_at (w : mW) (i k : Nat) (v : Int64) : (mPL w i k v).2 i k = v := if_pos ⟨rfl, rfl⟩
theorem mPI_col {w : mW} {i k : Nat} {v : Int32} {j : Nat} (h : j ≠ k) : (mPI w i k v).1 i j = w.1 i j := by
  show (if i = i ∧ j = k then v else w.1 i j) = _
  rw [if_neg (fun q => h q.2)]
theorem mPL_col {w : mW} {i k : Nat} {v : Int64} {j : Nat} (h : j ≠ k) : (mPL w i k v).2 i j = w.2 i j := by
  show (if i = i ∧ j = k then v else w.2 i j) = _
  rw [if_neg (fun q => h q.2)]
theorem mPI_upd (w : mW) (i k : Nat) (v : Int32) : (mPI w i k v).1 i = upd (w.1 i) k v := by
  funext b
  show (if i = i ∧ b = k then v else w.1 i b) = if b = k then v else w.1 i b
  by_cases h : b = k
  · rw [if_pos ⟨rfl, h⟩, if_pos h]
  · rw [if_neg (fun q => h q.2), if_neg h]
theorem mPL_upd (w : mW) (i k : Nat) (v : Int64) : (mPL w i k v).2 i = vp_updL (w.2 i) k v := by
  funext b
  show (if i = i ∧ b = k then v else w.2 i b) = if b = k then v else w.2 i b
  by_cases h : b = k
  · rw [if_pos ⟨rfl, h⟩, if_pos h]
  · rw [if_neg (fun q => h q.2), if_neg h]
/-- two worlds whose tables agree at a cell make the same of it -/
theorem mFs_congr {ad : Nat → Nat} {w u : mW} {i : Nat} (h1 : u.1 i = w.1 i) (h2 : u.2 i = w.2 i) (fs : List (Nat × Nat)) : mFs ad u i fs = mFs ad w i fs := by
  unfold mFs
  congr 1
  funext k f
  unfold mFv
  rw [h1, h2]
theorem mE_congr {E : mEnv} {w u : mW} {i : Nat} (h1 : u.1 i = w.1 i) (h2 : u.2 i = w.2 i) (c : mCell) : mE E u i c = mE E w i c := by
  unfold mE
  split
  · rw [h1]
  · rw [h1]
  · rw [h2]
  · rfl
  · rw [mFs_congr h1 h2]
theorem mWs_set {E : mEnv} {w u : mW} {i : Nat} {c : mCell} (hc : mSh[i]? = some c) (ho : ∀ j : Nat, j ≠ i → u.1 j = w.1 j ∧ u.2 j = w.2 j) : (mWs E w).set i (E.1 i, mE E u i c) = mWs E u := by
  apply List.ext_getElem?
  intro j
  by_cases hj : j = i
  · subst hj
    rw [List.getElem?_set_self (by rw [mWs_len, ← mSh_len]; exact (List.getElem?_eq_some_iff.mp hc).1), mWs_get E u hc]
  · rw [List.getElem?_set_ne (fun q => hj q.symm)]
    cases hs : mSh[j]? with
    | none =>
      have hl : mN ≤ j := by rw [← mSh_len]; exact List.getElem?_eq_none_iff.mp hs
      rw [List.getElem?_eq_none_iff.mpr (by rw [mWs_len]; exact hl), List.getElem?_eq_none_iff.mpr (by rw [mWs_len]; exact hl)]
    | some d => rw [mWs_get E w hs, mWs_get E u hs, mE_congr (ho j hj).1 (ho j hj).2]
theorem mFs_get {ad : Nat → Nat} {w : mW} {i k : Nat} {fs : List (Nat × Nat)} {f : Nat × Nat} (h : fs[k]? = some f) : (mFs ad w i fs)[k]? = some (mFv ad w i k f) := by
  unfold mFs
  rw [List.getElem?_mapIdx, h]
  rfl
theorem mFs_len {ad : Nat → Nat} {w : mW} {i : Nat} {fs : List (Nat × Nat)} : (mFs ad w i fs).length = fs.length := by
  unfold mFs
  rw [List.length_mapIdx]
theorem mFs_set {ad : Nat → Nat} {w u : mW} {i k : Nat} {fs : List (Nat × Nat)} {f : Nat × Nat} (h : fs[k]? = some f) (ho1 : ∀ j : Nat, j ≠ k → u.1 i j = w.1 i j) (ho2 : ∀ j : Nat, j ≠ k → u.2 i j = w.2 i j) : (mFs ad w i fs).set k (mFv ad u i k f) = mFs ad u i fs := by
  apply List.ext_getElem?
  intro j
  by_cases hj : j = k
  · subst hj
    rw [List.getElem?_set_self (by rw [mFs_len]; exact (List.getElem?_eq_some_iff.mp h).1), mFs_get h]
  · rw [List.getElem?_set_ne (fun q => hj q.symm)]
    cases hs : fs[j]? with
    | none =>
      have hl : fs.length ≤ j := List.getElem?_eq_none_iff.mp hs
      rw [List.getElem?_eq_none_iff.mpr (by rw [mFs_len]; exact hl), List.getElem?_eq_none_iff.mpr (by rw [mFs_len]; exact hl)]
    | some d =>
      rw [mFs_get hs, mFs_get hs]
      unfold mFv
      rw [ho1 j hj, ho2 j hj]
/-- the locals: a list of values, .retAddr 0 where nothing is known -/
def mL (ad : Nat → Nat) (ls : Array Slot) (nL : Nat) (lv : List Value) : Prop := ls.size = nL ∧ lv_wf ls ∧ ∀ (k : Nat) (v : Value), lv[k]? = some v → v ≠ .retAddr 0 → ls[k]? = some (.val (mV ad v))
abbrev mX : Type := Program × Launch × Env × Room × State × MethodId × Array Value × List Frame × Method × Code × Nat × Nat × (State → Prop) × (Nat → Prop)
/-- a method: its name, code, locals, answer's type, room -/
abbrev mD : Type := MethodName × ByteArray × Nat × Option FieldType × Room
/-! what is never written: the texts (cells 100 .., their letters 120 ..), three tables of ints (140 ..), statics -/
def mStC : List Nat := [105, 107, 109, 111, 113, 115, 117, 119, 121, 123, 125, 127, 129]
def mStT : List String := ["city", "good", "bad", "doubter", "child", "knower", "interpreter", "cause", "still", "", "vb", "fbfbd", "fbfb"]
def mStN : List Nat := [4, 4, 3, 7, 5, 6, 11, 5, 5, 0, 2, 5, 4]
def mStB : List (List Int32) := [[99, 105, 116, 121], [103, 111, 111, 100], [98, 97, 100], [100, 111, 117, 98, 116, 101, 114], [99, 104, 105, 108, 100], [107, 110, 111, 119, 101, 114], [105, 110, 116, 101, 114, 112, 114, 101, 116, 101, 114], [99, 97, 117, 115, 101], [115, 116, 105, 108, 108], [], [118, 98], [102, 98, 102, 98, 100], [102, 98, 102, 98]]
def mRO (E : mEnv) (A : Nat → Prop) (U : State) (H : Heap) : Prop :=
  (∀ k : Nat, k < 13 → vk_R RX5 (mStC.getD k 0) (mStT.getD k "") (E.1 (100 + k)) U) ∧ vk_S 13 mStN mStB (fun k => E.1 (100 + k)) (fun k => E.1 (120 + k)) A U H ∧
  (va_Z RX8 "OVER_PEOPLE" "[I" (.ref (E.1 140)) A U H ∧ va_T .int (E.1 140) 5 (fun j => .int (([-1, 0, 0, 1, 1] : List Int32).getD j 0)) A U H) ∧
  (va_Z RX8 "OVER_SAYINGS" "[I" (.ref (E.1 141)) A U H ∧ va_T .int (E.1 141) 7 (fun j => .int (([-1, 0, 1, 0, 3, 3, 5] : List Int32).getD j 0)) A U H) ∧
  (va_Z RX8 "PLACE_OF_SAYING" "[I" (.ref (E.1 142)) A U H ∧ va_T .int (E.1 142) 5 (fun j => .int (([1, 4, 5, 6, 2] : List Int32).getD j 0)) A U H) ∧
  va_Z "java/lang/String" "COMPACT_STRINGS" "Z" (.int 1) A U H ∧ va_Zq "jdk/internal/util/Preconditions" "SIOOBE_FORMATTER" "Ljava/util/function/BiFunction;" A U H
theorem mRO.warm {E : mEnv} {A : Nat → Prop} {s U : State} {H : Heap} (hW : s.WarmedH U.vm) (h : mRO E A s H) : mRO E A U H :=
  ⟨fun k hk => (h.1 k hk).warm hW, h.2.1.moved hW.alike, ⟨h.2.2.1.1.moved hW.alike, h.2.2.1.2.moved hW.alike⟩, ⟨h.2.2.2.1.1.moved hW.alike, h.2.2.2.1.2.moved hW.alike⟩, ⟨h.2.2.2.2.1.1.moved hW.alike, h.2.2.2.2.1.2.moved hW.alike⟩, h.2.2.2.2.2.1.moved hW.alike, h.2.2.2.2.2.2.moved hW.alike⟩
theorem mRO.same {E : mEnv} {A : Nat → Prop} {u U : State} {H : Heap} (hv : U.vm = u.vm) (h : mRO E A u H) : mRO E A U H := by
  have hA : u.vm.Alike U.vm := by rw [hv]; exact Vm.Alike.refl _
  exact ⟨fun k hk => (h.1 k hk).same hv, h.2.1.moved hA, ⟨h.2.2.1.1.moved hA, h.2.2.1.2.moved hA⟩, ⟨h.2.2.2.1.1.moved hA, h.2.2.2.1.2.moved hA⟩, ⟨h.2.2.2.2.1.1.moved hA, h.2.2.2.2.1.2.moved hA⟩, h.2.2.2.2.2.1.moved hA, h.2.2.2.2.2.2.moved hA⟩
theorem mRO.kept {E : mEnv} {A : Nat → Prop} {U : State} {H H1 : Heap} (h : mRO E A U H) (q : ∀ a : Nat, a < H.size → ¬ A a → H1[a]? = H[a]?) : mRO E A U H1 :=
  ⟨h.1, h.2.1.kept q, ⟨h.2.2.1.1.kept q, h.2.2.1.2.kept q⟩, ⟨h.2.2.2.1.1.kept q, h.2.2.2.1.2.kept q⟩, ⟨h.2.2.2.2.1.1.kept q, h.2.2.2.2.1.2.kept q⟩, h.2.2.2.2.2.1.kept q, h.2.2.2.2.2.2.kept q⟩
theorem mRO.narrow {E : mEnv} {A B : Nat → Prop} {U : State} {H : Heap} (h : mRO E A U H) (q : ∀ a, B a → A a) : mRO E B U H :=
  ⟨h.1, h.2.1.narrow q, ⟨h.2.2.1.1.narrow q, h.2.2.1.2.narrow q⟩, ⟨h.2.2.2.1.1.narrow q, h.2.2.2.1.2.narrow q⟩, ⟨h.2.2.2.2.1.1.narrow q, h.2.2.2.2.1.2.narrow q⟩, h.2.2.2.2.2.1.narrow q, h.2.2.2.2.2.2.narrow q⟩

def mG (X : mX) (E : mEnv) (D : mD) (pc : Nat) (lv st : List Value) (w : mW) : Prop := match X with
  | (p, l, e, R, s, m, args, below, meth, c, cells, slots, Q, A) => ∀ (H : Heap) (locs : List Loc) (ls : Array Slot), va_P E.2.1 vwCl (mWs E w) H → va_S A s.heap H locs → mL E.1 ls D.2.2.1 lv → W p l e R s m args below meth c H locs cells slots Q (F0 m pc ls (st.map (mV E.1)))
def mCtx (X : mX) (E : mEnv) (D : mD) : Prop := match X with
  | (p, _, _, R, s, m, args, _, _, c, cells, slots, _, A) => p.tables.exec = Jvm.exec ∧ c.code = D.2.1 ∧ c.maxLocals = D.2.2.1 ∧ s.vm.findClass D.1.cls = some m.cls ∧ (∀ w ∈ mTb, w.before args s = true) ∧ va_K E.2.1 vwCl (mTys E) s ∧ mInj E ∧ (∀ i : Nat, i < mN → A (E.1 i)) ∧ mRO E A s s.heap ∧ R = D.2.2.2.2 ∧ cells ≤ D.2.2.2.2.cells ∧ slots ≤ D.2.2.2.2.slots
def mPc (E : mEnv) (args : List Value) (w : mW) : Array Value → State → Prop := fun v U => v = (args.map (mV E.1)).toArray ∧ va_P E.2.1 vwCl (mWs E w) U.heap ∧ va_K E.2.1 vwCl (mTys E) U ∧ mInj E ∧ mRO E (mA E) U U.heap
def mQc (E : mEnv) (Q : Option Value → mW → Prop) : Array Value → State → Outcome → State → Prop := fun _ st oc t => (∃ (r : Option Value) (w : mW), oc = .returned (r.map (mV E.1)) ∧ Q r w ∧ va_P E.2.1 vwCl (mWs E w) t.heap) ∧ va_F (mA E) st t
/-- the contract: with these arguments and this world the method returns, Q of its answer and the world then -/
def mM (E : mEnv) (D : mD) (args : List Value) (w : mW) (Q : Option Value → mW → Prop) : Prop := ∀ l : Launch, Met l D.1 (Cond.code D.1 D.2.1 D.2.2.1 D.2.2.2.1 :: mTb) D.2.2.2.2 (mPc E args w) (mQc E Q) 0 0 (mA E)
def mFin (X : mX) (E : mEnv) (D : mD) (Qm : Option Value → mW → Prop) : Prop := match X with
  | (_, _, _, _, s, _, args, below, meth, _, cells, slots, Q, A) => Q = MQ below (mQc E Qm) args s 0 0 (mA E) ∧ meth.sig.returnType = D.2.2.2.1 ∧ meth.locks = false ∧ cells = 0 ∧ slots = 0 ∧ A = mA E
/-- a method's locals at its start -/
def mLa : List Value → List Value
  | [] => []
  | .long v :: r => .long v :: .retAddr 0 :: mLa r
  | .double v :: r => .double v :: .retAddr 0 :: mLa r
  | v :: r => v :: mLa r
theorem mV_cat (ad : Nat → Nat) (v : Value) : (mV ad v).category = v.category := by cases v <;> rfl
theorem mLa_entry (ad : Nat → Nat) : ∀ (vs : List Value) (i k : Nat) (v : Value), (mLa vs)[k]? = some v → v ≠ .retAddr 0 → (i + k, mV ad v) ∈ lv_args i (vs.map (mV ad)) := by
  intro vs
  induction vs with
  | nil => intro i k v h _; simp [mLa] at h
  | cons a r ih =>
    have one : ∀ (i k : Nat) (v : Value), (a :: mLa r)[k]? = some v → v ≠ .retAddr 0 → a.category = 1 → (i + k, mV ad v) ∈ (i, mV ad a) :: lv_args (i + 1) (r.map (mV ad)) := by
      intro i k v h hv hc
      cases k with
      | zero => simp only [List.getElem?_cons_zero, Option.some.injEq] at h; subst h; exact List.mem_cons_self
      | succ k =>
        rw [List.getElem?_cons_succ] at h
        have := ih (i + 1) k v h hv
        rw [show i + 1 + k = i + (k + 1) by omega] at this
        exact List.mem_cons_of_mem _ this
    have two : ∀ (i k : Nat) (v : Value), (a :: .retAddr 0 :: mLa r)[k]? = some v → v ≠ .retAddr 0 → (i + k, mV ad v) ∈ (i, mV ad a) :: lv_args (i + 2) (r.map (mV ad)) := by
      intro i k v h hv
      match k with
      | 0 => simp only [List.getElem?_cons_zero, Option.some.injEq] at h; subst h; exact List.mem_cons_self
      | 1 => simp only [List.getElem?_cons_succ, List.getElem?_cons_zero, Option.some.injEq] at h; exact absurd h.symm hv
      | k + 2 =>
        rw [List.getElem?_cons_succ, List.getElem?_cons_succ] at h
        have := ih (i + 2) k v h hv
        rw [show i + 2 + k = i + (k + 2) by omega] at this
        exact List.mem_cons_of_mem _ this
    intro i k v h hv
    cases a with
    | long x => exact two i k v h hv
    | double x => exact two i k v h hv
    | int x => exact one i k v h hv rfl
    | float x => exact one i k v h hv rfl
    | null => exact one i k v h hv rfl
    | ref x => exact one i k v h hv rfl
    | retAddr x => exact one i k v h hv rfl
theorem mM_intro {E : mEnv} {D : mD} {args : List Value} {w : mW} {Q : Option Value → mW → Prop} (hp : plainName D.1.cls = true) (hn : (lg_sl args).length ≤ D.2.2.1)
    (h : ∀ X : mX, mCtx X E D → mFin X E D Q → mG X E D 0 (mLa args) [] w) : mM E D args w Q := by
  intro l
  refine Met.ofW (cc := D.2.1) (maxL := D.2.2.1) (ret := D.2.2.2.1) hp rfl ?_
  intro p e s m vs below meth c s₁ B hml hv
  obtain ⟨rfl, hP, hK, hI, hR⟩ := hv
  have hts := atoms_spec (ws := Cond.code D.1 D.2.1 D.2.2.1 D.2.2.2.1 :: mTb) B.pre
  have hlen : (lg_sl (args.map (mV E.1))).length ≤ D.2.2.1 := by
    refine Nat.le_trans (Nat.le_of_eq ?_) hn
    clear hn h hP hts B
    induction args with
    | nil => rfl
    | cons a r ih =>
      show (lg_sl (mV E.1 a :: r.map (mV E.1))).length = _
      unfold lg_sl at ih ⊢
      rw [List.flatMap_cons, List.flatMap_cons, List.length_append, List.length_append, ih, mV_cat]
      split <;> rfl
  have hl := lv_entry (args.map (mV E.1)) hlen
  rw [lg_entry_eq]
  generalize (lg_sl (args.map (mV E.1)) ++ List.replicate (D.2.2.1 - (lg_sl (args.map (mV E.1))).length) Slot.unset).toArray = ls at hl ⊢
  refine h (p, l, e, _, s, m, _, below, meth, c, 0, 0, MQ below (mQc E Q) (args.map (mV E.1)).toArray s 0 0 (mA E), mA E) ?_ ?_ s.heap [] ls hP va_S.rf ⟨hl.1, hl.2.1, fun k v hk hv => ?_⟩
  · exact ⟨B.exec, B.bytes, hml, findClass_of_methodNamed B.named, fun w hw => hts w (List.mem_cons_of_mem _ hw), hK, hI, fun i hi => ⟨i, hi, rfl⟩, hR, rfl, Nat.zero_le _, Nat.zero_le _⟩
  · exact ⟨rfl, B.returns, B.notSynchronized, rfl, rfl, rfl⟩
  · have := hl.2.2 _ (mLa_entry E.1 args 0 k v hk hv)
    simpa using this
theorem mM.mono {E : mEnv} {D : mD} {args : List Value} {w : mW} {Q Q' : Option Value → mW → Prop} (h : mM E D args w Q) (hQ : ∀ r u, Q r u → Q' r u) : mM E D args w Q' := by
  intro l
  refine Jvm.Free.MetFree.mono (h l) (fun _ _ q => q) (fun _ _ _ _ _ q => q) ?_
  rintro a s o t - ⟨⟨⟨r, u, h1, h2, h3⟩, h4⟩, h5⟩
  exact ⟨⟨⟨r, u, h1, hQ r u h2, h3⟩, h4⟩, h5⟩
end
section
/-! ===== ROWS OF THE LOGIC: an instruction a row ===== -/
section MR
variable {X : mX} {E : mEnv} {D : mD} {pc : Nat} {lv st : List Value} {w : mW}

theorem mG_iconst (C : mCtx X E D) {n : Int} {v : Int32} (hd : decode D.2.1 pc = .ok (.iconst n, 1)) (hv : Int32.ofInt n = v)
    (k : mG X E D (pc + 1) lv (.int v :: st) w) : mG X E D pc lv st w := by
  obtain ⟨p, l, e, R, s, m, args, below, meth, c, cells, slots, Q, A⟩ := X
  obtain ⟨hx, hb, hml, hown, hts, hK, hI, hA, hRO, hR, hcl, hsl⟩ := C
  intro H locs ls hP hS hl
  exact lv_iconst hx hb hd hv (k H locs ls hP hS hl)

theorem mG_bipush (C : mCtx X E D) {n : Int} {v : Int32} (hd : decode D.2.1 pc = .ok (.bipush n, 2)) (hv : (Int8.ofInt n).toInt32 = v)
    (k : mG X E D (pc + 2) lv (.int v :: st) w) : mG X E D pc lv st w := by
  obtain ⟨p, l, e, R, s, m, args, below, meth, c, cells, slots, Q, A⟩ := X
  obtain ⟨hx, hb, hml, hown, hts, hK, hI, hA, hRO, hR, hcl, hsl⟩ := C
  intro H locs ls hP hS hl
  exact lv_bipush hx hb hd hv (k H locs ls hP hS hl)

theorem mG_sipush (C : mCtx X E D) {n : Int} {v : Int32} (hd : decode D.2.1 pc = .ok (.sipush n, 3)) (hv : (Int16.ofInt n).toInt32 = v)
    (k : mG X E D (pc + 3) lv (.int v :: st) w) : mG X E D pc lv st w := by
  obtain ⟨p, l, e, R, s, m, args, below, meth, c, cells, slots, Q, A⟩ := X
  obtain ⟨hx, hb, hml, hown, hts, hK, hI, hA, hRO, hR, hcl, hsl⟩ := C
  intro H locs ls hP hS hl
  exact lv_sipush hx hb hd hv (k H locs ls hP hS hl)

theorem mG_lconst (C : mCtx X E D) {n : Fin 2} {v : Int64} (hd : decode D.2.1 pc = .ok (.lconst n, 1)) (hv : Int64.ofNat (n : Nat) = v)
    (k : mG X E D (pc + 1) lv (.long v :: st) w) : mG X E D pc lv st w := by
  obtain ⟨p, l, e, R, s, m, args, below, meth, c, cells, slots, Q, A⟩ := X
  obtain ⟨hx, hb, hml, hown, hts, hK, hI, hA, hRO, hR, hcl, hsl⟩ := C
  intro H locs ls hP hS hl
  exact lv_lconst hx hb hd hv (k H locs ls hP hS hl)

theorem mG_ldcw (C : mCtx X E D) {ix : Nat} {v : Int32} (hd : decode D.2.1 pc = .ok (.ldc_w ix, 3)) (hc : Cond.constant D.1.cls ix v ∈ mTb)
    (k : mG X E D (pc + 3) lv (.int v :: st) w) : mG X E D pc lv st w := by
  obtain ⟨p, l, e, R, s, m, args, below, meth, c, cells, slots, Q, A⟩ := X
  obtain ⟨hx, hb, hml, hown, hts, hK, hI, hA, hRO, hR, hcl, hsl⟩ := C
  intro H locs ls hP hS hl
  exact lv_ldcw hx hb hown (hts _ hc) hd (k H locs ls hP hS hl)

theorem mG_ldc (C : mCtx X E D) {ix : Nat} {v : Int32} (hd : decode D.2.1 pc = .ok (.ldc ix, 2)) (hc : Cond.constant D.1.cls ix v ∈ mTb)
    (k : mG X E D (pc + 2) lv (.int v :: st) w) : mG X E D pc lv st w := by
  obtain ⟨p, l, e, R, s, m, args, below, meth, c, cells, slots, Q, A⟩ := X
  obtain ⟨hx, hb, hml, hown, hts, hK, hI, hA, hRO, hR, hcl, hsl⟩ := C
  intro H locs ls hP hS hl
  exact lv_ldc hx hb hown (hts _ hc) hd (k H locs ls hP hS hl)

theorem mG_ldc2 (C : mCtx X E D) {ix : Nat} {v : Int64} (hd : decode D.2.1 pc = .ok (.ldc2_w ix, 3)) (hc : Cond.constantLong D.1.cls ix v ∈ mTb)
    (k : mG X E D (pc + 3) lv (.long v :: st) w) : mG X E D pc lv st w := by
  obtain ⟨p, l, e, R, s, m, args, below, meth, c, cells, slots, Q, A⟩ := X
  obtain ⟨hx, hb, hml, hown, hts, hK, hI, hA, hRO, hR, hcl, hsl⟩ := C
  intro H locs ls hP hS hl
  exact lv_ldc2 hx hb hown (hts _ hc) hd (k H locs ls hP hS hl)

theorem mG_iload_n (C : mCtx X E D) {k0 : Fin 4} {i : Nat} {x : Int32} (hd : decode D.2.1 pc = .ok (.iload_n k0, 1)) (hi : (k0 : Nat) = i) (hg : lv[i]? = some (.int x))
    (k : mG X E D (pc + 1) lv (.int x :: st) w) : mG X E D pc lv st w := by
  obtain ⟨p, l, e, R, s, m, args, below, meth, c, cells, slots, Q, A⟩ := X
  obtain ⟨hx, hb, hml, hown, hts, hK, hI, hA, hRO, hR, hcl, hsl⟩ := C
  intro H locs ls hP hS hl
  exact lv_iload_n hx hb hd hi (hl.2.2 i _ hg (by simp)) (k H locs ls hP hS hl)

theorem mG_iload (C : mCtx X E D) {i : Nat} {x : Int32} (hd : decode D.2.1 pc = .ok (.iload i, 2)) (hg : lv[i]? = some (.int x))
    (k : mG X E D (pc + 2) lv (.int x :: st) w) : mG X E D pc lv st w := by
  obtain ⟨p, l, e, R, s, m, args, below, meth, c, cells, slots, Q, A⟩ := X
  obtain ⟨hx, hb, hml, hown, hts, hK, hI, hA, hRO, hR, hcl, hsl⟩ := C
  intro H locs ls hP hS hl
  exact lv_iload hx hb hd (hl.2.2 i _ hg (by simp)) (k H locs ls hP hS hl)

theorem mG_lload_n (C : mCtx X E D) {k0 : Fin 4} {i : Nat} {x : Int64} (hd : decode D.2.1 pc = .ok (.lload_n k0, 1)) (hi : (k0 : Nat) = i) (hg : lv[i]? = some (.long x))
    (k : mG X E D (pc + 1) lv (.long x :: st) w) : mG X E D pc lv st w := by
  obtain ⟨p, l, e, R, s, m, args, below, meth, c, cells, slots, Q, A⟩ := X
  obtain ⟨hx, hb, hml, hown, hts, hK, hI, hA, hRO, hR, hcl, hsl⟩ := C
  intro H locs ls hP hS hl
  exact lv_lload_n hx hb hd hi (hl.2.2 i _ hg (by simp)) (k H locs ls hP hS hl)

theorem mG_lload (C : mCtx X E D) {i : Nat} {x : Int64} (hd : decode D.2.1 pc = .ok (.lload i, 2)) (hg : lv[i]? = some (.long x))
    (k : mG X E D (pc + 2) lv (.long x :: st) w) : mG X E D pc lv st w := by
  obtain ⟨p, l, e, R, s, m, args, below, meth, c, cells, slots, Q, A⟩ := X
  obtain ⟨hx, hb, hml, hown, hts, hK, hI, hA, hRO, hR, hcl, hsl⟩ := C
  intro H locs ls hP hS hl
  exact lv_lload hx hb hd (hl.2.2 i _ hg (by simp)) (k H locs ls hP hS hl)

theorem mG_aload_n (C : mCtx X E D) {k0 : Fin 4} {i : Nat} {x : Nat} (hd : decode D.2.1 pc = .ok (.aload_n k0, 1)) (hi : (k0 : Nat) = i) (hg : lv[i]? = some (.ref x))
    (k : mG X E D (pc + 1) lv (.ref x :: st) w) : mG X E D pc lv st w := by
  obtain ⟨p, l, e, R, s, m, args, below, meth, c, cells, slots, Q, A⟩ := X
  obtain ⟨hx, hb, hml, hown, hts, hK, hI, hA, hRO, hR, hcl, hsl⟩ := C
  intro H locs ls hP hS hl
  exact lv_aload_n hx hb hd hi (hl.2.2 i _ hg (by simp)) (k H locs ls hP hS hl)

theorem mG_aload (C : mCtx X E D) {i : Nat} {x : Nat} (hd : decode D.2.1 pc = .ok (.aload i, 2)) (hg : lv[i]? = some (.ref x))
    (k : mG X E D (pc + 2) lv (.ref x :: st) w) : mG X E D pc lv st w := by
  obtain ⟨p, l, e, R, s, m, args, below, meth, c, cells, slots, Q, A⟩ := X
  obtain ⟨hx, hb, hml, hown, hts, hK, hI, hA, hRO, hR, hcl, hsl⟩ := C
  intro H locs ls hP hS hl
  exact lv_aload hx hb hd (hl.2.2 i _ hg (by simp)) (k H locs ls hP hS hl)

/-- storing: what stood there, and a long that reached into it, is gone -/
def mSt1 (lv : List Value) (i : Nat) (v : Value) : List Value := (lv.mapIdx (fun k u => if k + 1 = i ∧ u.category = 2 then .retAddr 0 else u)).set i v
def mSt2 (lv : List Value) (i : Nat) (v : Value) : List Value := (((lv.mapIdx (fun k u => if k + 1 = i ∧ u.category = 2 then .retAddr 0 else u)).set i v).set (i + 1) (.retAddr 0))
/-- a list with every place of the locals -/
def mPad (lv : List Value) (n : Nat) : List Value := lv ++ List.replicate (n - lv.length) (.retAddr 0)
def mAs (ad : Nat → Nat) (lv : List Value) : List (Nat × Value) := (lv.mapIdx (fun k v => (k, v))).filterMap (fun q => if q.2 = .retAddr 0 then none else some (q.1, mV ad q.2))
theorem mAs_has {ad : Nat → Nat} {ls : Array Slot} {nL : Nat} {lv : List Value} (h : mL ad ls nL lv) : lv_has ls nL (mAs ad lv) := by
  refine ⟨h.1, h.2.1, fun q hq => ?_⟩
  obtain ⟨⟨k, v⟩, h1, h2⟩ := List.mem_filterMap.mp hq
  obtain ⟨j, hj⟩ := List.mem_iff_getElem?.mp h1
  rw [List.getElem?_mapIdx] at hj
  cases hv : lv[j]? with
  | none => rw [hv] at hj; cases hj
  | some u =>
    rw [hv] at hj
    cases hj
    by_cases hu : v = .retAddr 0
    · simp [hu] at h2
    · simp [hu] at h2
      subst h2
      exact h.2.2 _ _ hv hu
theorem mAs_in {ad : Nat → Nat} {lv : List Value} {k : Nat} {v : Value} (h : lv[k]? = some v) (hv : v ≠ .retAddr 0) : (k, mV ad v) ∈ mAs ad lv := by
  refine List.mem_filterMap.mpr ⟨(k, v), List.mem_iff_getElem?.mpr ⟨k, ?_⟩, by simp [hv]⟩
  rw [List.getElem?_mapIdx, h]
  rfl
theorem mL_st1 {ad : Nat → Nat} {ls : Array Slot} {nL : Nat} {lv : List Value} {i : Nat} {v : Value} (hv : v.category = 1) (h : lv_has ls nL ((i, mV ad v) :: (mAs ad lv).filter (fun q => !(q.1 == i) && !(q.1 + 1 == i && q.2.category == 2)))) : mL ad ls nL (mSt1 lv i v) := by
  refine ⟨h.1, h.2.1, fun k u hk hu => ?_⟩
  unfold mSt1 at hk
  by_cases hki : k = i
  · subst hki
    have hlt := (List.getElem?_eq_some_iff.mp hk).1
    rw [List.getElem?_set_self (by simpa using hlt)] at hk
    cases hk
    exact h.2.2 _ List.mem_cons_self
  · rw [List.getElem?_set_ne (fun q => hki q.symm), List.getElem?_mapIdx] at hk
    cases hg : lv[k]? with
    | none => rw [hg] at hk; cases hk
    | some y =>
      rw [hg] at hk
      simp only [Option.map_some, Option.some.injEq] at hk
      by_cases hc : k + 1 = i ∧ y.category = 2
      · rw [if_pos hc] at hk
        exact absurd hk.symm hu
      · rw [if_neg hc] at hk
        subst hk
        refine h.2.2 _ (List.mem_cons_of_mem _ (List.mem_filter.mpr ⟨mAs_in hg hu, ?_⟩))
        simp only [mV_cat, Bool.and_eq_true, Bool.not_eq_true', beq_eq_false_iff_ne, ne_eq, Bool.and_eq_false_iff]
        refine ⟨hki, ?_⟩
        by_cases h1 : k + 1 = i
        · exact Or.inr (fun z => hc ⟨h1, z⟩)
        · exact Or.inl h1
theorem mL_st2 {ad : Nat → Nat} {ls : Array Slot} {nL : Nat} {lv : List Value} {i : Nat} {v : Value} (hv : v.category = 2) (h : lv_has ls nL ((i, mV ad v) :: (mAs ad lv).filter (fun q => !(q.1 == i) && (!(q.1 == i + 1) && !(q.1 + 1 == i && q.2.category == 2))))) : mL ad ls nL (mSt2 lv i v) := by
  refine ⟨h.1, h.2.1, fun k u hk hu => ?_⟩
  unfold mSt2 at hk
  by_cases hk1 : k = i + 1
  · subst hk1
    have hlt := (List.getElem?_eq_some_iff.mp hk).1
    rw [List.getElem?_set_self (by simpa using hlt)] at hk
    cases hk
    exact absurd rfl hu
  · rw [List.getElem?_set_ne (fun q => hk1 q.symm)] at hk
    by_cases hki : k = i
    · subst hki
      have hlt := (List.getElem?_eq_some_iff.mp hk).1
      rw [List.getElem?_set_self (by simpa using hlt)] at hk
      cases hk
      exact h.2.2 _ List.mem_cons_self
    · rw [List.getElem?_set_ne (fun q => hki q.symm), List.getElem?_mapIdx] at hk
      cases hg : lv[k]? with
      | none => rw [hg] at hk; cases hk
      | some y =>
        rw [hg] at hk
        simp only [Option.map_some, Option.some.injEq] at hk
        by_cases hc : k + 1 = i ∧ y.category = 2
        · rw [if_pos hc] at hk
          exact absurd hk.symm hu
        · rw [if_neg hc] at hk
          subst hk
          refine h.2.2 _ (List.mem_cons_of_mem _ (List.mem_filter.mpr ⟨mAs_in hg hu, ?_⟩))
          simp only [mV_cat, Bool.and_eq_true, Bool.not_eq_true', beq_eq_false_iff_ne, ne_eq, Bool.and_eq_false_iff]
          refine ⟨hki, hk1, ?_⟩
          by_cases h1 : k + 1 = i
          · exact Or.inr (fun z => hc ⟨h1, z⟩)
          · exact Or.inl h1

theorem mG_istore_n (C : mCtx X E D) {k0 : Fin 4} {i : Nat} {x : Int32} {lv' : List Value} (hd : decode D.2.1 pc = .ok (.istore_n k0, 1)) (hi : (k0 : Nat) = i) (hn : i < D.2.2.1) (he : mSt1 lv i (.int x) = lv')
    (k : mG X E D (pc + 1) lv' st w) : mG X E D pc lv (.int x :: st) w := by
  obtain ⟨p, l, e, R, s, m, args, below, meth, c, cells, slots, Q, A⟩ := X
  obtain ⟨hx, hb, hml, hown, hts, hK, hI, hA, hRO, hR, hcl, hsl⟩ := C
  intro H locs ls hP hS hl
  subst he
  exact lv_istore_n hx hb hd hi (mAs_has hl) hn rfl (fun ls' h' => k H locs ls' hP hS (mL_st1 (v := .int x) rfl h'))

theorem mG_istore (C : mCtx X E D) {i : Nat} {x : Int32} {lv' : List Value} (hd : decode D.2.1 pc = .ok (.istore i, 2)) (hn : i < D.2.2.1) (he : mSt1 lv i (.int x) = lv')
    (k : mG X E D (pc + 2) lv' st w) : mG X E D pc lv (.int x :: st) w := by
  obtain ⟨p, l, e, R, s, m, args, below, meth, c, cells, slots, Q, A⟩ := X
  obtain ⟨hx, hb, hml, hown, hts, hK, hI, hA, hRO, hR, hcl, hsl⟩ := C
  intro H locs ls hP hS hl
  subst he
  exact lv_istore hx hb hd (mAs_has hl) hn rfl (fun ls' h' => k H locs ls' hP hS (mL_st1 (v := .int x) rfl h'))

theorem mG_lstore_n (C : mCtx X E D) {k0 : Fin 4} {i : Nat} {x : Int64} {lv' : List Value} (hd : decode D.2.1 pc = .ok (.lstore_n k0, 1)) (hi : (k0 : Nat) = i) (hn : i + 1 < D.2.2.1) (he : mSt2 lv i (.long x) = lv')
    (k : mG X E D (pc + 1) lv' st w) : mG X E D pc lv (.long x :: st) w := by
  obtain ⟨p, l, e, R, s, m, args, below, meth, c, cells, slots, Q, A⟩ := X
  obtain ⟨hx, hb, hml, hown, hts, hK, hI, hA, hRO, hR, hcl, hsl⟩ := C
  intro H locs ls hP hS hl
  subst he
  exact lv_lstore_n hx hb hd hi (mAs_has hl) hn rfl (fun ls' h' => k H locs ls' hP hS (mL_st2 (v := .long x) rfl h'))

theorem mG_lstore (C : mCtx X E D) {i : Nat} {x : Int64} {lv' : List Value} (hd : decode D.2.1 pc = .ok (.lstore i, 2)) (hn : i + 1 < D.2.2.1) (he : mSt2 lv i (.long x) = lv')
    (k : mG X E D (pc + 2) lv' st w) : mG X E D pc lv (.long x :: st) w := by
  obtain ⟨p, l, e, R, s, m, args, below, meth, c, cells, slots, Q, A⟩ := X
  obtain ⟨hx, hb, hml, hown, hts, hK, hI, hA, hRO, hR, hcl, hsl⟩ := C
  intro H locs ls hP hS hl
  subst he
  exact lv_lstore hx hb hd (mAs_has hl) hn rfl (fun ls' h' => k H locs ls' hP hS (mL_st2 (v := .long x) rfl h'))

theorem mG_astore_n (C : mCtx X E D) {k0 : Fin 4} {i : Nat} {x : Nat} {lv' : List Value} (hd : decode D.2.1 pc = .ok (.astore_n k0, 1)) (hi : (k0 : Nat) = i) (hn : i < D.2.2.1) (he : mSt1 lv i (.ref x) = lv')
    (k : mG X E D (pc + 1) lv' st w) : mG X E D pc lv (.ref x :: st) w := by
  obtain ⟨p, l, e, R, s, m, args, below, meth, c, cells, slots, Q, A⟩ := X
  obtain ⟨hx, hb, hml, hown, hts, hK, hI, hA, hRO, hR, hcl, hsl⟩ := C
  intro H locs ls hP hS hl
  subst he
  exact lv_astore_n hx hb hd hi (mAs_has hl) hn rfl (fun ls' h' => k H locs ls' hP hS (mL_st1 (v := .ref x) rfl h'))

theorem mG_astore (C : mCtx X E D) {i : Nat} {x : Nat} {lv' : List Value} (hd : decode D.2.1 pc = .ok (.astore i, 2)) (hn : i < D.2.2.1) (he : mSt1 lv i (.ref x) = lv')
    (k : mG X E D (pc + 2) lv' st w) : mG X E D pc lv (.ref x :: st) w := by
  obtain ⟨p, l, e, R, s, m, args, below, meth, c, cells, slots, Q, A⟩ := X
  obtain ⟨hx, hb, hml, hown, hts, hK, hI, hA, hRO, hR, hcl, hsl⟩ := C
  intro H locs ls hP hS hl
  subst he
  exact lv_astore hx hb hd (mAs_has hl) hn rfl (fun ls' h' => k H locs ls' hP hS (mL_st1 (v := .ref x) rfl h'))

theorem mG_iinc (C : mCtx X E D) {i : Nat} {n : Int} {x v : Int32} {lv' : List Value} (hd : decode D.2.1 pc = .ok (.iinc i n, 3)) (hg : lv[i]? = some (.int x)) (hv : x + Int32.ofInt n = v) (hn : i < D.2.2.1) (he : mSt1 lv i (.int v) = lv')
    (k : mG X E D (pc + 3) lv' st w) : mG X E D pc lv st w := by
  obtain ⟨p, l, e, R, s, m, args, below, meth, c, cells, slots, Q, A⟩ := X
  obtain ⟨hx, hb, hml, hown, hts, hK, hI, hA, hRO, hR, hcl, hsl⟩ := C
  intro H locs ls hP hS hl
  subst he
  obtain ⟨j, hj⟩ := List.mem_iff_getElem?.mp (mAs_in (ad := E.1) hg (by simp))
  exact lv_iinc hx hb hd (mAs_has hl) hj hv hn rfl (fun ls' h' => k H locs ls' hP hS (mL_st1 (v := .int v) rfl h'))

theorem mG_iadd (C : mCtx X E D) {x y : Int32} (hd : decode D.2.1 pc = .ok (.iadd, 1))
    (k : mG X E D (pc + 1) lv (.int (x + y) :: st) w) : mG X E D pc lv (.int y :: .int x :: st) w := by
  obtain ⟨p, l, e, R, s, m, args, below, meth, c, cells, slots, Q, A⟩ := X
  obtain ⟨hx, hb, hml, hown, hts, hK, hI, hA, hRO, hR, hcl, hsl⟩ := C
  intro H locs ls hP hS hl
  exact lv_iadd hx hb hd (k H locs ls hP hS hl)

theorem mG_isub (C : mCtx X E D) {x y : Int32} (hd : decode D.2.1 pc = .ok (.isub, 1))
    (k : mG X E D (pc + 1) lv (.int (x - y) :: st) w) : mG X E D pc lv (.int y :: .int x :: st) w := by
  obtain ⟨p, l, e, R, s, m, args, below, meth, c, cells, slots, Q, A⟩ := X
  obtain ⟨hx, hb, hml, hown, hts, hK, hI, hA, hRO, hR, hcl, hsl⟩ := C
  intro H locs ls hP hS hl
  exact lv_isub hx hb hd (k H locs ls hP hS hl)

theorem mG_imul (C : mCtx X E D) {x y : Int32} (hd : decode D.2.1 pc = .ok (.imul, 1))
    (k : mG X E D (pc + 1) lv (.int (x * y) :: st) w) : mG X E D pc lv (.int y :: .int x :: st) w := by
  obtain ⟨p, l, e, R, s, m, args, below, meth, c, cells, slots, Q, A⟩ := X
  obtain ⟨hx, hb, hml, hown, hts, hK, hI, hA, hRO, hR, hcl, hsl⟩ := C
  intro H locs ls hP hS hl
  exact lv_imul hx hb hd (k H locs ls hP hS hl)

theorem mG_iand (C : mCtx X E D) {x y : Int32} (hd : decode D.2.1 pc = .ok (.iand, 1))
    (k : mG X E D (pc + 1) lv (.int (x &&& y) :: st) w) : mG X E D pc lv (.int y :: .int x :: st) w := by
  obtain ⟨p, l, e, R, s, m, args, below, meth, c, cells, slots, Q, A⟩ := X
  obtain ⟨hx, hb, hml, hown, hts, hK, hI, hA, hRO, hR, hcl, hsl⟩ := C
  intro H locs ls hP hS hl
  exact lv_iand hx hb hd (k H locs ls hP hS hl)

theorem mG_ior (C : mCtx X E D) {x y : Int32} (hd : decode D.2.1 pc = .ok (.ior, 1))
    (k : mG X E D (pc + 1) lv (.int (x ||| y) :: st) w) : mG X E D pc lv (.int y :: .int x :: st) w := by
  obtain ⟨p, l, e, R, s, m, args, below, meth, c, cells, slots, Q, A⟩ := X
  obtain ⟨hx, hb, hml, hown, hts, hK, hI, hA, hRO, hR, hcl, hsl⟩ := C
  intro H locs ls hP hS hl
  exact lv_ior hx hb hd (k H locs ls hP hS hl)

theorem mG_ixor (C : mCtx X E D) {x y : Int32} (hd : decode D.2.1 pc = .ok (.ixor, 1))
    (k : mG X E D (pc + 1) lv (.int (x ^^^ y) :: st) w) : mG X E D pc lv (.int y :: .int x :: st) w := by
  obtain ⟨p, l, e, R, s, m, args, below, meth, c, cells, slots, Q, A⟩ := X
  obtain ⟨hx, hb, hml, hown, hts, hK, hI, hA, hRO, hR, hcl, hsl⟩ := C
  intro H locs ls hP hS hl
  exact lv_ixor hx hb hd (k H locs ls hP hS hl)

theorem mG_ishl (C : mCtx X E D) {x y : Int32} (hd : decode D.2.1 pc = .ok (.ishl, 1))
    (k : mG X E D (pc + 1) lv (.int (x <<< (y &&& 31)) :: st) w) : mG X E D pc lv (.int y :: .int x :: st) w := by
  obtain ⟨p, l, e, R, s, m, args, below, meth, c, cells, slots, Q, A⟩ := X
  obtain ⟨hx, hb, hml, hown, hts, hK, hI, hA, hRO, hR, hcl, hsl⟩ := C
  intro H locs ls hP hS hl
  exact lv_ishl hx hb hd (k H locs ls hP hS hl)

theorem mG_ishr (C : mCtx X E D) {x y : Int32} (hd : decode D.2.1 pc = .ok (.ishr, 1))
    (k : mG X E D (pc + 1) lv (.int (x >>> (y &&& 31)) :: st) w) : mG X E D pc lv (.int y :: .int x :: st) w := by
  obtain ⟨p, l, e, R, s, m, args, below, meth, c, cells, slots, Q, A⟩ := X
  obtain ⟨hx, hb, hml, hown, hts, hK, hI, hA, hRO, hR, hcl, hsl⟩ := C
  intro H locs ls hP hS hl
  exact lv_ishr hx hb hd (k H locs ls hP hS hl)

theorem mG_idiv (C : mCtx X E D) {x y : Int32} (hd : decode D.2.1 pc = .ok (.idiv, 1)) (hne : ¬ y = 0)
    (k : mG X E D (pc + 1) lv (.int (x / y) :: st) w) : mG X E D pc lv (.int y :: .int x :: st) w := by
  obtain ⟨p, l, e, R, s, m, args, below, meth, c, cells, slots, Q, A⟩ := X
  obtain ⟨hx, hb, hml, hown, hts, hK, hI, hA, hRO, hR, hcl, hsl⟩ := C
  intro H locs ls hP hS hl
  exact lv_idiv hx hb hd hne (k H locs ls hP hS hl)

theorem mG_irem (C : mCtx X E D) {x y : Int32} (hd : decode D.2.1 pc = .ok (.irem, 1)) (hne : ¬ y = 0)
    (k : mG X E D (pc + 1) lv (.int (x - x / y * y) :: st) w) : mG X E D pc lv (.int y :: .int x :: st) w := by
  obtain ⟨p, l, e, R, s, m, args, below, meth, c, cells, slots, Q, A⟩ := X
  obtain ⟨hx, hb, hml, hown, hts, hK, hI, hA, hRO, hR, hcl, hsl⟩ := C
  intro H locs ls hP hS hl
  exact lv_irem hx hb hd hne (k H locs ls hP hS hl)

theorem mG_iushr (C : mCtx X E D) {x y v : Int32} (hd : decode D.2.1 pc = .ok (.iushr, 1)) (hv : (x.toUInt32 >>> (y.toUInt32 &&& Int32.toUInt32 31)).toInt32 = v)
    (k : mG X E D (pc + 1) lv (.int v :: st) w) : mG X E D pc lv (.int y :: .int x :: st) w := by
  obtain ⟨p, l, e, R, s, m, args, below, meth, c, cells, slots, Q, A⟩ := X
  obtain ⟨hx, hb, hml, hown, hts, hK, hI, hA, hRO, hR, hcl, hsl⟩ := C
  intro H locs ls hP hS hl
  exact lv_iushr hx hb hd hv (k H locs ls hP hS hl)

theorem mG_ineg (C : mCtx X E D) {x : Int32} (hd : decode D.2.1 pc = .ok (.ineg, 1))
    (k : mG X E D (pc + 1) lv (.int (-x) :: st) w) : mG X E D pc lv (.int x :: st) w := by
  obtain ⟨p, l, e, R, s, m, args, below, meth, c, cells, slots, Q, A⟩ := X
  obtain ⟨hx, hb, hml, hown, hts, hK, hI, hA, hRO, hR, hcl, hsl⟩ := C
  intro H locs ls hP hS hl
  exact lv_ineg hx hb hd (k H locs ls hP hS hl)

theorem mG_i2c (C : mCtx X E D) {x v : Int32} (hd : decode D.2.1 pc = .ok (.i2c, 1)) (hv : (x.toUInt32 % 65536).toInt32 = v)
    (k : mG X E D (pc + 1) lv (.int v :: st) w) : mG X E D pc lv (.int x :: st) w := by
  obtain ⟨p, l, e, R, s, m, args, below, meth, c, cells, slots, Q, A⟩ := X
  obtain ⟨hx, hb, hml, hown, hts, hK, hI, hA, hRO, hR, hcl, hsl⟩ := C
  intro H locs ls hP hS hl
  exact lv_i2c hx hb hd hv (k H locs ls hP hS hl)

theorem mG_i2l (C : mCtx X E D) {x : Int32} (hd : decode D.2.1 pc = .ok (.i2l, 1))
    (k : mG X E D (pc + 1) lv (.long x.toInt64 :: st) w) : mG X E D pc lv (.int x :: st) w := by
  obtain ⟨p, l, e, R, s, m, args, below, meth, c, cells, slots, Q, A⟩ := X
  obtain ⟨hx, hb, hml, hown, hts, hK, hI, hA, hRO, hR, hcl, hsl⟩ := C
  intro H locs ls hP hS hl
  exact lv_i2l hx hb hd rfl (k H locs ls hP hS hl)

theorem mG_l2i (C : mCtx X E D) {x : Int64} (hd : decode D.2.1 pc = .ok (.l2i, 1))
    (k : mG X E D (pc + 1) lv (.int x.toInt32 :: st) w) : mG X E D pc lv (.long x :: st) w := by
  obtain ⟨p, l, e, R, s, m, args, below, meth, c, cells, slots, Q, A⟩ := X
  obtain ⟨hx, hb, hml, hown, hts, hK, hI, hA, hRO, hR, hcl, hsl⟩ := C
  intro H locs ls hP hS hl
  exact lv_l2i hx hb hd rfl (k H locs ls hP hS hl)

theorem mG_ladd (C : mCtx X E D) {x y : Int64} (hd : decode D.2.1 pc = .ok (.ladd, 1))
    (k : mG X E D (pc + 1) lv (.long (x + y) :: st) w) : mG X E D pc lv (.long y :: .long x :: st) w := by
  obtain ⟨p, l, e, R, s, m, args, below, meth, c, cells, slots, Q, A⟩ := X
  obtain ⟨hx, hb, hml, hown, hts, hK, hI, hA, hRO, hR, hcl, hsl⟩ := C
  intro H locs ls hP hS hl
  exact lv_ladd hx hb hd (k H locs ls hP hS hl)

theorem mG_lsub (C : mCtx X E D) {x y : Int64} (hd : decode D.2.1 pc = .ok (.lsub, 1))
    (k : mG X E D (pc + 1) lv (.long (x - y) :: st) w) : mG X E D pc lv (.long y :: .long x :: st) w := by
  obtain ⟨p, l, e, R, s, m, args, below, meth, c, cells, slots, Q, A⟩ := X
  obtain ⟨hx, hb, hml, hown, hts, hK, hI, hA, hRO, hR, hcl, hsl⟩ := C
  intro H locs ls hP hS hl
  exact lv_lsub hx hb hd (k H locs ls hP hS hl)

theorem mG_lmul (C : mCtx X E D) {x y : Int64} (hd : decode D.2.1 pc = .ok (.lmul, 1))
    (k : mG X E D (pc + 1) lv (.long (x * y) :: st) w) : mG X E D pc lv (.long y :: .long x :: st) w := by
  obtain ⟨p, l, e, R, s, m, args, below, meth, c, cells, slots, Q, A⟩ := X
  obtain ⟨hx, hb, hml, hown, hts, hK, hI, hA, hRO, hR, hcl, hsl⟩ := C
  intro H locs ls hP hS hl
  exact lv_lmul hx hb hd (k H locs ls hP hS hl)

theorem mG_land (C : mCtx X E D) {x y : Int64} (hd : decode D.2.1 pc = .ok (.land, 1))
    (k : mG X E D (pc + 1) lv (.long (x &&& y) :: st) w) : mG X E D pc lv (.long y :: .long x :: st) w := by
  obtain ⟨p, l, e, R, s, m, args, below, meth, c, cells, slots, Q, A⟩ := X
  obtain ⟨hx, hb, hml, hown, hts, hK, hI, hA, hRO, hR, hcl, hsl⟩ := C
  intro H locs ls hP hS hl
  exact lv_land hx hb hd (k H locs ls hP hS hl)

theorem mG_lor (C : mCtx X E D) {x y : Int64} (hd : decode D.2.1 pc = .ok (.lor, 1))
    (k : mG X E D (pc + 1) lv (.long (x ||| y) :: st) w) : mG X E D pc lv (.long y :: .long x :: st) w := by
  obtain ⟨p, l, e, R, s, m, args, below, meth, c, cells, slots, Q, A⟩ := X
  obtain ⟨hx, hb, hml, hown, hts, hK, hI, hA, hRO, hR, hcl, hsl⟩ := C
  intro H locs ls hP hS hl
  exact lv_lor hx hb hd (k H locs ls hP hS hl)

theorem mG_lxor (C : mCtx X E D) {x y : Int64} (hd : decode D.2.1 pc = .ok (.lxor, 1))
    (k : mG X E D (pc + 1) lv (.long (x ^^^ y) :: st) w) : mG X E D pc lv (.long y :: .long x :: st) w := by
  obtain ⟨p, l, e, R, s, m, args, below, meth, c, cells, slots, Q, A⟩ := X
  obtain ⟨hx, hb, hml, hown, hts, hK, hI, hA, hRO, hR, hcl, hsl⟩ := C
  intro H locs ls hP hS hl
  exact lv_lxor hx hb hd (k H locs ls hP hS hl)

theorem mG_lrem (C : mCtx X E D) {x y : Int64} (hd : decode D.2.1 pc = .ok (.lrem, 1)) (hne : ¬ y = 0)
    (k : mG X E D (pc + 1) lv (.long (x - x / y * y) :: st) w) : mG X E D pc lv (.long y :: .long x :: st) w := by
  obtain ⟨p, l, e, R, s, m, args, below, meth, c, cells, slots, Q, A⟩ := X
  obtain ⟨hx, hb, hml, hown, hts, hK, hI, hA, hRO, hR, hcl, hsl⟩ := C
  intro H locs ls hP hS hl
  exact lv_lrem hx hb hd hne (k H locs ls hP hS hl)

theorem mG_lshl (C : mCtx X E D) {x : Int64} {y : Int32} (hd : decode D.2.1 pc = .ok (.lshl, 1))
    (k : mG X E D (pc + 1) lv (.long (x <<< (y.toInt64 &&& 63)) :: st) w) : mG X E D pc lv (.int y :: .long x :: st) w := by
  obtain ⟨p, l, e, R, s, m, args, below, meth, c, cells, slots, Q, A⟩ := X
  obtain ⟨hx, hb, hml, hown, hts, hK, hI, hA, hRO, hR, hcl, hsl⟩ := C
  intro H locs ls hP hS hl
  exact lv_lshl hx hb hd rfl (k H locs ls hP hS hl)

theorem mG_lushr (C : mCtx X E D) {x : Int64} {y : Int32} (hd : decode D.2.1 pc = .ok (.lushr, 1))
    (k : mG X E D (pc + 1) lv (.long ((x.toUInt64 >>> (y.toInt64.toUInt64 &&& Int64.toUInt64 63)).toInt64) :: st) w) : mG X E D pc lv (.int y :: .long x :: st) w := by
  obtain ⟨p, l, e, R, s, m, args, below, meth, c, cells, slots, Q, A⟩ := X
  obtain ⟨hx, hb, hml, hown, hts, hK, hI, hA, hRO, hR, hcl, hsl⟩ := C
  intro H locs ls hP hS hl
  exact lv_lushr hx hb hd rfl (k H locs ls hP hS hl)

theorem mG_lcmp (C : mCtx X E D) {x y : Int64} (hd : decode D.2.1 pc = .ok (.lcmp, 1))
    (k : mG X E D (pc + 1) lv (.int (lg_cmp x y) :: st) w) : mG X E D pc lv (.long y :: .long x :: st) w := by
  obtain ⟨p, l, e, R, s, m, args, below, meth, c, cells, slots, Q, A⟩ := X
  obtain ⟨hx, hb, hml, hown, hts, hK, hI, hA, hRO, hR, hcl, hsl⟩ := C
  intro H locs ls hP hS hl
  exact W.lcmp hx hb hd (k H locs ls hP hS hl)

theorem mG_dup (C : mCtx X E D) {a : Value} (hd : decode D.2.1 pc = .ok (.dup, 1)) (ha : a.category = 1)
    (k : mG X E D (pc + 1) lv (a :: a :: st) w) : mG X E D pc lv (a :: st) w := by
  obtain ⟨p, l, e, R, s, m, args, below, meth, c, cells, slots, Q, A⟩ := X
  obtain ⟨hx, hb, hml, hown, hts, hK, hI, hA, hRO, hR, hcl, hsl⟩ := C
  intro H locs ls hP hS hl
  exact lv_dup hx hb hd ((mV_cat _ _).trans ha) (k H locs ls hP hS hl)

theorem mG_dup2 (C : mCtx X E D) {a b : Value} (hd : decode D.2.1 pc = .ok (.dup2, 1)) (ha : a.category = 1) (hb2 : b.category = 1)
    (k : mG X E D (pc + 1) lv (a :: b :: a :: b :: st) w) : mG X E D pc lv (a :: b :: st) w := by
  obtain ⟨p, l, e, R, s, m, args, below, meth, c, cells, slots, Q, A⟩ := X
  obtain ⟨hx, hb, hml, hown, hts, hK, hI, hA, hRO, hR, hcl, hsl⟩ := C
  intro H locs ls hP hS hl
  exact lv_dup2_11 hx hb hd ((mV_cat _ _).trans ha) ((mV_cat _ _).trans hb2) (k H locs ls hP hS hl)

theorem mG_pop (C : mCtx X E D) {a : Value} (hd : decode D.2.1 pc = .ok (.pop, 1)) (ha : a.category = 1)
    (k : mG X E D (pc + 1) lv st w) : mG X E D pc lv (a :: st) w := by
  obtain ⟨p, l, e, R, s, m, args, below, meth, c, cells, slots, Q, A⟩ := X
  obtain ⟨hx, hb, hml, hown, hts, hK, hI, hA, hRO, hR, hcl, hsl⟩ := C
  intro H locs ls hP hS hl
  exact lv_pop hx hb hd ((mV_cat _ _).trans ha) (k H locs ls hP hS hl)

theorem mG_if_eq (C : mCtx X E D) {x : Int32} {off : Int} {tgt : Nat} (hd : decode D.2.1 pc = .ok (.ifCond .eq off, 3)) (ht : (pc : Int) + off = (tgt : Int))
    (kt : x = 0 → mG X E D tgt lv st w) (kf : ¬ x = 0 → mG X E D (pc + 3) lv st w) : mG X E D pc lv (.int x :: st) w := by
  obtain ⟨p, l, e, R, s, m, args, below, meth, c, cells, slots, Q, A⟩ := X
  obtain ⟨hx, hb, hml, hown, hts, hK, hI, hA, hRO, hR, hcl, hsl⟩ := C
  intro H locs ls hP hS hl
  exact lv_if_eq hx hb hd ht (fun h => kt h H locs ls hP hS hl) (fun h => kf h H locs ls hP hS hl)

theorem mG_if_ne (C : mCtx X E D) {x : Int32} {off : Int} {tgt : Nat} (hd : decode D.2.1 pc = .ok (.ifCond .ne off, 3)) (ht : (pc : Int) + off = (tgt : Int))
    (kt : ¬ x = 0 → mG X E D tgt lv st w) (kf : x = 0 → mG X E D (pc + 3) lv st w) : mG X E D pc lv (.int x :: st) w := by
  obtain ⟨p, l, e, R, s, m, args, below, meth, c, cells, slots, Q, A⟩ := X
  obtain ⟨hx, hb, hml, hown, hts, hK, hI, hA, hRO, hR, hcl, hsl⟩ := C
  intro H locs ls hP hS hl
  exact lv_if_ne hx hb hd ht (fun h => kt h H locs ls hP hS hl) (fun h => kf h H locs ls hP hS hl)

theorem mG_if_lt (C : mCtx X E D) {x : Int32} {off : Int} {tgt : Nat} (hd : decode D.2.1 pc = .ok (.ifCond .lt off, 3)) (ht : (pc : Int) + off = (tgt : Int))
    (kt : x < 0 → mG X E D tgt lv st w) (kf : ¬ x < 0 → mG X E D (pc + 3) lv st w) : mG X E D pc lv (.int x :: st) w := by
  obtain ⟨p, l, e, R, s, m, args, below, meth, c, cells, slots, Q, A⟩ := X
  obtain ⟨hx, hb, hml, hown, hts, hK, hI, hA, hRO, hR, hcl, hsl⟩ := C
  intro H locs ls hP hS hl
  exact lv_if_lt hx hb hd ht (fun h => kt h H locs ls hP hS hl) (fun h => kf h H locs ls hP hS hl)

theorem mG_if_ge (C : mCtx X E D) {x : Int32} {off : Int} {tgt : Nat} (hd : decode D.2.1 pc = .ok (.ifCond .ge off, 3)) (ht : (pc : Int) + off = (tgt : Int))
    (kt : 0 ≤ x → mG X E D tgt lv st w) (kf : ¬ 0 ≤ x → mG X E D (pc + 3) lv st w) : mG X E D pc lv (.int x :: st) w := by
  obtain ⟨p, l, e, R, s, m, args, below, meth, c, cells, slots, Q, A⟩ := X
  obtain ⟨hx, hb, hml, hown, hts, hK, hI, hA, hRO, hR, hcl, hsl⟩ := C
  intro H locs ls hP hS hl
  exact lv_if_ge hx hb hd ht (fun h => kt h H locs ls hP hS hl) (fun h => kf h H locs ls hP hS hl)

theorem mG_if_gt (C : mCtx X E D) {x : Int32} {off : Int} {tgt : Nat} (hd : decode D.2.1 pc = .ok (.ifCond .gt off, 3)) (ht : (pc : Int) + off = (tgt : Int))
    (kt : 0 < x → mG X E D tgt lv st w) (kf : ¬ 0 < x → mG X E D (pc + 3) lv st w) : mG X E D pc lv (.int x :: st) w := by
  obtain ⟨p, l, e, R, s, m, args, below, meth, c, cells, slots, Q, A⟩ := X
  obtain ⟨hx, hb, hml, hown, hts, hK, hI, hA, hRO, hR, hcl, hsl⟩ := C
  intro H locs ls hP hS hl
  exact lv_if_gt hx hb hd ht (fun h => kt h H locs ls hP hS hl) (fun h => kf h H locs ls hP hS hl)

theorem mG_if_le (C : mCtx X E D) {x : Int32} {off : Int} {tgt : Nat} (hd : decode D.2.1 pc = .ok (.ifCond .le off, 3)) (ht : (pc : Int) + off = (tgt : Int))
    (kt : x ≤ 0 → mG X E D tgt lv st w) (kf : ¬ x ≤ 0 → mG X E D (pc + 3) lv st w) : mG X E D pc lv (.int x :: st) w := by
  obtain ⟨p, l, e, R, s, m, args, below, meth, c, cells, slots, Q, A⟩ := X
  obtain ⟨hx, hb, hml, hown, hts, hK, hI, hA, hRO, hR, hcl, hsl⟩ := C
  intro H locs ls hP hS hl
  exact lv_if_le hx hb hd ht (fun h => kt h H locs ls hP hS hl) (fun h => kf h H locs ls hP hS hl)

theorem mG_icmp_eq (C : mCtx X E D) {x y : Int32} {off : Int} {tgt : Nat} (hd : decode D.2.1 pc = .ok (.if_icmp .eq off, 3)) (ht : (pc : Int) + off = (tgt : Int))
    (kt : x = y → mG X E D tgt lv st w) (kf : ¬ x = y → mG X E D (pc + 3) lv st w) : mG X E D pc lv (.int y :: .int x :: st) w := by
  obtain ⟨p, l, e, R, s, m, args, below, meth, c, cells, slots, Q, A⟩ := X
  obtain ⟨hx, hb, hml, hown, hts, hK, hI, hA, hRO, hR, hcl, hsl⟩ := C
  intro H locs ls hP hS hl
  exact lv_icmp_eq hx hb hd ht (fun h => kt h H locs ls hP hS hl) (fun h => kf h H locs ls hP hS hl)

theorem mG_icmp_ne (C : mCtx X E D) {x y : Int32} {off : Int} {tgt : Nat} (hd : decode D.2.1 pc = .ok (.if_icmp .ne off, 3)) (ht : (pc : Int) + off = (tgt : Int))
    (kt : ¬ x = y → mG X E D tgt lv st w) (kf : x = y → mG X E D (pc + 3) lv st w) : mG X E D pc lv (.int y :: .int x :: st) w := by
  obtain ⟨p, l, e, R, s, m, args, below, meth, c, cells, slots, Q, A⟩ := X
  obtain ⟨hx, hb, hml, hown, hts, hK, hI, hA, hRO, hR, hcl, hsl⟩ := C
  intro H locs ls hP hS hl
  exact lv_icmp_ne hx hb hd ht (fun h => kt h H locs ls hP hS hl) (fun h => kf h H locs ls hP hS hl)

theorem mG_icmp_lt (C : mCtx X E D) {x y : Int32} {off : Int} {tgt : Nat} (hd : decode D.2.1 pc = .ok (.if_icmp .lt off, 3)) (ht : (pc : Int) + off = (tgt : Int))
    (kt : x < y → mG X E D tgt lv st w) (kf : ¬ x < y → mG X E D (pc + 3) lv st w) : mG X E D pc lv (.int y :: .int x :: st) w := by
  obtain ⟨p, l, e, R, s, m, args, below, meth, c, cells, slots, Q, A⟩ := X
  obtain ⟨hx, hb, hml, hown, hts, hK, hI, hA, hRO, hR, hcl, hsl⟩ := C
  intro H locs ls hP hS hl
  exact lv_icmp_lt hx hb hd ht (fun h => kt h H locs ls hP hS hl) (fun h => kf h H locs ls hP hS hl)

theorem mG_icmp_ge (C : mCtx X E D) {x y : Int32} {off : Int} {tgt : Nat} (hd : decode D.2.1 pc = .ok (.if_icmp .ge off, 3)) (ht : (pc : Int) + off = (tgt : Int))
    (kt : y ≤ x → mG X E D tgt lv st w) (kf : ¬ y ≤ x → mG X E D (pc + 3) lv st w) : mG X E D pc lv (.int y :: .int x :: st) w := by
  obtain ⟨p, l, e, R, s, m, args, below, meth, c, cells, slots, Q, A⟩ := X
  obtain ⟨hx, hb, hml, hown, hts, hK, hI, hA, hRO, hR, hcl, hsl⟩ := C
  intro H locs ls hP hS hl
  exact lv_icmp_ge hx hb hd ht (fun h => kt h H locs ls hP hS hl) (fun h => kf h H locs ls hP hS hl)

theorem mG_icmp_gt (C : mCtx X E D) {x y : Int32} {off : Int} {tgt : Nat} (hd : decode D.2.1 pc = .ok (.if_icmp .gt off, 3)) (ht : (pc : Int) + off = (tgt : Int))
    (kt : y < x → mG X E D tgt lv st w) (kf : ¬ y < x → mG X E D (pc + 3) lv st w) : mG X E D pc lv (.int y :: .int x :: st) w := by
  obtain ⟨p, l, e, R, s, m, args, below, meth, c, cells, slots, Q, A⟩ := X
  obtain ⟨hx, hb, hml, hown, hts, hK, hI, hA, hRO, hR, hcl, hsl⟩ := C
  intro H locs ls hP hS hl
  exact lv_icmp_gt hx hb hd ht (fun h => kt h H locs ls hP hS hl) (fun h => kf h H locs ls hP hS hl)

theorem mG_icmp_le (C : mCtx X E D) {x y : Int32} {off : Int} {tgt : Nat} (hd : decode D.2.1 pc = .ok (.if_icmp .le off, 3)) (ht : (pc : Int) + off = (tgt : Int))
    (kt : x ≤ y → mG X E D tgt lv st w) (kf : ¬ x ≤ y → mG X E D (pc + 3) lv st w) : mG X E D pc lv (.int y :: .int x :: st) w := by
  obtain ⟨p, l, e, R, s, m, args, below, meth, c, cells, slots, Q, A⟩ := X
  obtain ⟨hx, hb, hml, hown, hts, hK, hI, hA, hRO, hR, hcl, hsl⟩ := C
  intro H locs ls hP hS hl
  exact lv_icmp_le hx hb hd ht (fun h => kt h H locs ls hP hS hl) (fun h => kf h H locs ls hP hS hl)

theorem mG_goto (C : mCtx X E D) {off : Int} {tgt : Nat} (hd : decode D.2.1 pc = .ok (.goto off, 3)) (ht : (pc : Int) + off = (tgt : Int))
    (k : mG X E D tgt lv st w) : mG X E D pc lv st w := by
  obtain ⟨p, l, e, R, s, m, args, below, meth, c, cells, slots, Q, A⟩ := X
  obtain ⟨hx, hb, hml, hown, hts, hK, hI, hA, hRO, hR, hcl, hsl⟩ := C
  intro H locs ls hP hS hl
  exact lv_goto hx hb hd ht (k H locs ls hP hS hl)

theorem mG_tableIn (C : mCtx X E D) {dflt lo hi : Int} {offs : Array Int} {len : Nat} {x : Int32} {off : Int} {tgt : Nat} (hd : decode D.2.1 pc = .ok (.tableswitch dflt lo hi offs, len)) (h1 : ¬ x.toInt < lo) (h2 : ¬ hi < x.toInt) (ho : offs[(x.toInt - lo).toNat]? = some off) (ht : (pc : Int) + off = (tgt : Int))
    (k : mG X E D tgt lv st w) : mG X E D pc lv (.int x :: st) w := by
  obtain ⟨p, l, e, R, s, m, args, below, meth, c, cells, slots, Q, A⟩ := X
  obtain ⟨hx, hb, hml, hown, hts, hK, hI, hA, hRO, hR, hcl, hsl⟩ := C
  intro H locs ls hP hS hl
  exact lv_tableIn hx hb hd h1 h2 ho ht (k H locs ls hP hS hl)

theorem mG_tableOut (C : mCtx X E D) {dflt lo hi : Int} {offs : Array Int} {len : Nat} {x : Int32} {tgt : Nat} (hd : decode D.2.1 pc = .ok (.tableswitch dflt lo hi offs, len)) (h : x.toInt < lo ∨ hi < x.toInt) (ht : (pc : Int) + dflt = (tgt : Int))
    (k : mG X E D tgt lv st w) : mG X E D pc lv (.int x :: st) w := by
  obtain ⟨p, l, e, R, s, m, args, below, meth, c, cells, slots, Q, A⟩ := X
  obtain ⟨hx, hb, hml, hown, hts, hK, hI, hA, hRO, hR, hcl, hsl⟩ := C
  intro H locs ls hP hS hl
  exact lv_tableOut hx hb hd h ht (k H locs ls hP hS hl)

theorem mG_lookup (C : mCtx X E D) {dflt : Int} {ps : Array (Int × Int)} {len : Nat} {x : Int32} {off : Int} {tgt : Nat} (hd : decode D.2.1 pc = .ok (.lookupswitch dflt ps, len)) (hp : (ps.toList.zip (ps.toList.drop 1)).all (fun (a, next) => a.1 < next.1) = true) (ho : Op.lookupswitch.offset ps.toList dflt x.toInt = off) (ht : (pc : Int) + off = (tgt : Int))
    (k : mG X E D tgt lv st w) : mG X E D pc lv (.int x :: st) w := by
  obtain ⟨p, l, e, R, s, m, args, below, meth, c, cells, slots, Q, A⟩ := X
  obtain ⟨hx, hb, hml, hown, hts, hK, hI, hA, hRO, hR, hcl, hsl⟩ := C
  intro H locs ls hP hS hl
  exact lv_lookup hx hb hd hp ho ht (k H locs ls hP hS hl)

end MR
end
section
/-! ===== ROWS OF THE LOGIC: fields, arrays, calls, answers ===== -/
def mFld (own : String) (ix ci k : Nat) : Prop := ∃ (C : String) (T : u_T) (N : Nat), vwCl[ci]? = some (C, T, N) ∧ k < N ∧ (∀ w ∈ u_ws C T N, w ∈ mTb) ∧ Cond.fieldLink own ix (T k).1 (T k).2.1 (T k).2.2.1 ∈ mTb
def mFldP (own : String) (ix ci k : Nat) (ty : FieldType) : Prop := ∃ (C : String) (T : u_T) (N : Nat) (ty0 : Nat → FieldType), vwCl[ci]? = some (C, T, N) ∧ k < N ∧ (∀ w ∈ u_ws C T N, w ∈ mTb) ∧ Cond.fieldLink own ix (T k).1 (T k).2.1 (T k).2.2.1 ∈ mTb ∧ (∀ k, k < N → parseFieldDescriptor (T k).2.2.1 = some (ty0 k)) ∧ (∀ a, a < N → ∀ b, b < N → a ≠ b → (T a).2.1 ≠ (T b).2.1) ∧ (T k).2.2.2 = false ∧ parseFieldDescriptor (T k).2.2.1 = some ty
section MH
variable {X : mX} {E : mEnv} {D : mD} {pc : Nat} {lv st : List Value} {w : mW}
theorem mG_get (C : mCtx X E D) {ix i ci k : Nat} {fs : List (Nat × Nat)} {f : Nat × Nat} {v : Value} (hd : decode D.2.1 pc = .ok (.getfield ix, 3)) (hf : mFld D.1.cls ix ci k) (hs : mSh[i]? = some (.inr (ci, fs))) (hk : fs[k]? = some f) (hv : mV E.1 v = mFv E.1 w i k f)
    (kk : mG X E D (pc + 3) lv (v :: st) w) : mG X E D pc lv (.ref i :: st) w := by
  obtain ⟨p, l, e, R, s, m, args, below, meth, c, cells, slots, Q, A⟩ := X
  obtain ⟨hx, hb, hml, hown, hts, hK, hI, hA, hRO, hR, hcl, hsl⟩ := C
  intro H locs ls hP hS hl
  obtain ⟨Cn, T, N, h1, h2, h3, h4⟩ := hf
  refine va_get (D := E.2.1) (ci := ci) (v := mFv E.1 w i k f) (C := Cn) (T := T) (N := N) hx hb hts h3 hown hK hP i (mWs_get E w hs) h1 k h2 (hts _ h4) (fun _ h => h) (mFs_get hk) hd ?_
  rw [← hv]
  exact kk H locs ls hP hS hl
theorem mG_getI (C : mCtx X E D) {ix i ci k z : Nat} {fs : List (Nat × Nat)} (hd : decode D.2.1 pc = .ok (.getfield ix, 3)) (hf : mFld D.1.cls ix ci k) (hs : mSh[i]? = some (.inr (ci, fs))) (hk : fs[k]? = some (0, z))
    (kk : mG X E D (pc + 3) lv (.int (w.1 i k) :: st) w) : mG X E D pc lv (.ref i :: st) w := mG_get C hd hf hs hk rfl kk
theorem mG_getL (C : mCtx X E D) {ix i ci k z : Nat} {fs : List (Nat × Nat)} (hd : decode D.2.1 pc = .ok (.getfield ix, 3)) (hf : mFld D.1.cls ix ci k) (hs : mSh[i]? = some (.inr (ci, fs))) (hk : fs[k]? = some (1, z))
    (kk : mG X E D (pc + 3) lv (.long (w.2 i k) :: st) w) : mG X E D pc lv (.ref i :: st) w := mG_get C hd hf hs hk rfl kk
theorem mG_getR (C : mCtx X E D) {ix i ci k r : Nat} {fs : List (Nat × Nat)} (hd : decode D.2.1 pc = .ok (.getfield ix, 3)) (hf : mFld D.1.cls ix ci k) (hs : mSh[i]? = some (.inr (ci, fs))) (hk : fs[k]? = some (2, r))
    (kk : mG X E D (pc + 3) lv (.ref r :: st) w) : mG X E D pc lv (.ref i :: st) w := mG_get C hd hf hs hk rfl kk
theorem mG_putI (C : mCtx X E D) {ix i ci k z : Nat} {fs : List (Nat × Nat)} {v : Int32} (hd : decode D.2.1 pc = .ok (.putfield ix, 3)) (hf : mFldP D.1.cls ix ci k .int) (hs : mSh[i]? = some (.inr (ci, fs))) (hk : fs[k]? = some (0, z))
    (kk : mG X E D (pc + 3) lv st (mPI w i k v)) : mG X E D pc lv (.int v :: .ref i :: st) w := by
  obtain ⟨p, l, e, R, s, m, args, below, meth, c, cells, slots, Q, A⟩ := X
  obtain ⟨hx, hb, hml, hown, hts, hK, hI, hA, hRO, hR, hcl, hsl⟩ := C
  intro H locs ls hP hS hl
  obtain ⟨Cn, T, N, ty0, h1, h2, h3, h4, h5, h6, h7, h8⟩ := hf
  have hset : (mWs E w).set i (E.1 i, .inr (ci, (mFs E.1 w i fs).set k (.int v))) = mWs E (mPI w i k v) := by
    rw [← mWs_set (E := E) (w := w) (u := mPI w i k v) hs (fun j hj => ⟨mPI_row hj, rfl⟩)]
    have h9 := mFs_set (ad := E.1) (w := w) (u := mPI w i k v) (i := i) hk (fun j hj => mPI_col hj) (fun j _ => rfl)
    have h10 : mFv E.1 (mPI w i k v) i k (0, z) = .int v := by
      show Value.int ((mPI w i k v).1 i k) = _
      rw [mPI_at]
    rw [h10] at h9
    rw [h9]
    rfl
  refine va_put (D := E.2.1) (ci := ci) (v := .int v) (ty := .int) (C := Cn) (T := T) (N := N) hx hb hts h3 ty0 h5 h6 hown hK hP (mDis w hI hA) hS i (mWs_get E w hs) h1 k h2 (hts _ h4) (fun _ h => h) h7 h8 rfl rfl (by rw [mFs_len]; exact (List.getElem?_eq_some_iff.mp hk).1) hd (fun H1 locs1 hP1 _ hS1 => ?_)
  rw [hset] at hP1
  exact kk H1 locs1 ls hP1 hS1 hl
theorem mG_putL (C : mCtx X E D) {ix i ci k z : Nat} {fs : List (Nat × Nat)} {v : Int64} (hd : decode D.2.1 pc = .ok (.putfield ix, 3)) (hf : mFldP D.1.cls ix ci k .long) (hs : mSh[i]? = some (.inr (ci, fs))) (hk : fs[k]? = some (1, z))
    (kk : mG X E D (pc + 3) lv st (mPL w i k v)) : mG X E D pc lv (.long v :: .ref i :: st) w := by
  obtain ⟨p, l, e, R, s, m, args, below, meth, c, cells, slots, Q, A⟩ := X
  obtain ⟨hx, hb, hml, hown, hts, hK, hI, hA, hRO, hR, hcl, hsl⟩ := C
  intro H locs ls hP hS hl
  obtain ⟨Cn, T, N, ty0, h1, h2, h3, h4, h5, h6, h7, h8⟩ := hf
  have hset : (mWs E w).set i (E.1 i, .inr (ci, (mFs E.1 w i fs).set k (.long v))) = mWs E (mPL w i k v) := by
    rw [← mWs_set (E := E) (w := w) (u := mPL w i k v) hs (fun j hj => ⟨rfl, mPL_row hj⟩)]
    have h9 := mFs_set (ad := E.1) (w := w) (u := mPL w i k v) (i := i) hk (fun j _ => rfl) (fun j hj => mPL_col hj)
    have h10 : mFv E.1 (mPL w i k v) i k (1, z) = .long v := by
      show Value.long ((mPL w i k v).2 i k) = _
      rw [mPL_at]
    rw [h10] at h9
    rw [h9]
    rfl
  refine va_put (D := E.2.1) (ci := ci) (v := .long v) (ty := .long) (C := Cn) (T := T) (N := N) hx hb hts h3 ty0 h5 h6 hown hK hP (mDis w hI hA) hS i (mWs_get E w hs) h1 k h2 (hts _ h4) (fun _ h => h) h7 h8 rfl rfl (by rw [mFs_len]; exact (List.getElem?_eq_some_iff.mp hk).1) hd (fun H1 locs1 hP1 _ hS1 => ?_)
  rw [hset] at hP1
  exact kk H1 locs1 ls hP1 hS1 hl
theorem mG_iald (C : mCtx X E D) {a n : Nat} {rs : List Nat} {i : Int32} (hd : decode D.2.1 pc = .ok (.iaload, 1)) (hs : mSh[a]? = some (.inl (0, n, rs))) (hin : vp_in i n)
    (kk : mG X E D (pc + 1) lv (.int (w.1 a i.toNatClampNeg) :: st) w) : mG X E D pc lv (.int i :: .ref a :: st) w := by
  obtain ⟨p, l, e, R, s, m, args, below, meth, c, cells, slots, Q, A⟩ := X
  obtain ⟨hx, hb, hml, hown, hts, hK, hI, hA, hRO, hR, hcl, hsl⟩ := C
  intro H locs ls hP hS hl
  exact va_iald hx hb hK hP a 0 (mWs_get E w hs) rfl hin hd (kk H locs ls hP hS hl)
theorem mG_zald (C : mCtx X E D) {a n : Nat} {rs : List Nat} {i : Int32} (hd : decode D.2.1 pc = .ok (.baload, 1)) (hs : mSh[a]? = some (.inl (1, n, rs))) (hin : vp_in i n)
    (kk : mG X E D (pc + 1) lv (.int (w.1 a i.toNatClampNeg) :: st) w) : mG X E D pc lv (.int i :: .ref a :: st) w := by
  obtain ⟨p, l, e, R, s, m, args, below, meth, c, cells, slots, Q, A⟩ := X
  obtain ⟨hx, hb, hml, hown, hts, hK, hI, hA, hRO, hR, hcl, hsl⟩ := C
  intro H locs ls hP hS hl
  exact va_zald hx hb hK hP a 1 (mWs_get E w hs) rfl hin hd (kk H locs ls hP hS hl)
theorem mG_lald (C : mCtx X E D) {a n : Nat} {rs : List Nat} {i : Int32} (hd : decode D.2.1 pc = .ok (.laload, 1)) (hs : mSh[a]? = some (.inl (2, n, rs))) (hin : vp_in i n)
    (kk : mG X E D (pc + 1) lv (.long (w.2 a i.toNatClampNeg) :: st) w) : mG X E D pc lv (.int i :: .ref a :: st) w := by
  obtain ⟨p, l, e, R, s, m, args, below, meth, c, cells, slots, Q, A⟩ := X
  obtain ⟨hx, hb, hml, hown, hts, hK, hI, hA, hRO, hR, hcl, hsl⟩ := C
  intro H locs ls hP hS hl
  exact va_lald hx hb hK hP a 2 (mWs_get E w hs) rfl hin hd (kk H locs ls hP hS hl)
theorem mG_alen (C : mCtx X E D) {a n : Nat} {rs : List Nat} {v : Int32} (hd : decode D.2.1 pc = .ok (.arraylength, 1)) (hs : mSh[a]? = some (.inl (0, n, rs))) (hv : Int32.ofNat n = v)
    (kk : mG X E D (pc + 1) lv (.int v :: st) w) : mG X E D pc lv (.ref a :: st) w := by
  obtain ⟨p, l, e, R, s, m, args, below, meth, c, cells, slots, Q, A⟩ := X
  obtain ⟨hx, hb, hml, hown, hts, hK, hI, hA, hRO, hR, hcl, hsl⟩ := C
  intro H locs ls hP hS hl
  exact va_alen hx hb hK hP a 0 (mWs_get E w hs) (ty := .int) rfl hv hd (kk H locs ls hP hS hl)
/-- a row of a table of rows -/
theorem mG_aald (C : mCtx X E D) {a n b : Nat} {rs : List Nat} {i : Int32} (hd : decode D.2.1 pc = .ok (.aaload, 1)) (hs : mSh[a]? = some (.inl (3, n, rs))) (hin : vp_in i n) (hr : ∀ j : Nat, j < n → rs[j]? = some (b + j))
    (kk : mG X E D (pc + 1) lv (.ref (b + i.toNatClampNeg) :: st) w) : mG X E D pc lv (.int i :: .ref a :: st) w := by
  obtain ⟨p, l, e, R, s, m, args, below, meth, c, cells, slots, Q, A⟩ := X
  obtain ⟨hx, hb, hml, hown, hts, hK, hI, hA, hRO, hR, hcl, hsl⟩ := C
  intro H locs ls hP hS hl
  have hlt : i.toNatClampNeg < n := Nat.not_le.mp fun q => hin (Or.inr q)
  have h0 : va_rf ((rs[i.toNatClampNeg]?).map E.1) = .ref (E.1 (b + i.toNatClampNeg)) := by rw [hr _ hlt]; rfl
  refine W.aald (v := va_rf ((rs[i.toNatClampNeg]?).map E.1)) (ty := .array .int) hx hb (hP a _ (mWs_get E w hs)) ((hK.2 3 (E.2.2 3, .array .int) rfl).1 n (fun j => va_rf ((rs[j]?).map E.1))) rfl (fun q => by cases q) (by show ¬ (i < 0 ∨ (arrV _ _ _).slots.size ≤ _); rw [arrV_size]; exact hin) (by show (arrV _ _ _).slots[_]? = _; rw [arrV_read _ _ hlt]) rfl rfl hd ?_
  rw [h0]
  exact kk H locs ls hP hS hl
theorem mG_iast (C : mCtx X E D) {a n : Nat} {rs : List Nat} {i x : Int32} (hd : decode D.2.1 pc = .ok (.iastore, 1)) (hs : mSh[a]? = some (.inl (0, n, rs))) (hin : vp_in i n)
    (kk : mG X E D (pc + 1) lv st (mPI w a i.toNatClampNeg x)) : mG X E D pc lv (.int x :: .int i :: .ref a :: st) w := by
  obtain ⟨p, l, e, R, s, m, args, below, meth, c, cells, slots, Q, A⟩ := X
  obtain ⟨hx, hb, hml, hown, hts, hK, hI, hA, hRO, hR, hcl, hsl⟩ := C
  intro H locs ls hP hS hl
  have hset : (mWs E w).set a (E.1 a, .inl (E.2.2 0, n, .inl (upd (w.1 a) i.toNatClampNeg x))) = mWs E (mPI w a i.toNatClampNeg x) := by
    rw [← mWs_set (E := E) (w := w) (u := mPI w a i.toNatClampNeg x) hs (fun j hj => ⟨mPI_row hj, rfl⟩), ← mPI_upd]
    rfl
  refine va_iast hx hb hK hP (mDis w hI hA) hS a 0 (mWs_get E w hs) rfl hin hd (fun H1 locs1 hP1 _ hS1 => ?_)
  rw [hset] at hP1
  exact kk H1 locs1 ls hP1 hS1 hl
theorem mG_zast (C : mCtx X E D) {a n : Nat} {rs : List Nat} {i x y : Int32} (hd : decode D.2.1 pc = .ok (.bastore, 1)) (hs : mSh[a]? = some (.inl (1, n, rs))) (hin : vp_in i n) (hy : vp_nar .boolean x = y)
    (kk : mG X E D (pc + 1) lv st (mPI w a i.toNatClampNeg y)) : mG X E D pc lv (.int x :: .int i :: .ref a :: st) w := by
  obtain ⟨p, l, e, R, s, m, args, below, meth, c, cells, slots, Q, A⟩ := X
  obtain ⟨hx, hb, hml, hown, hts, hK, hI, hA, hRO, hR, hcl, hsl⟩ := C
  intro H locs ls hP hS hl
  have hset : (mWs E w).set a (E.1 a, .inl (E.2.2 1, n, .inl (upd (w.1 a) i.toNatClampNeg (vp_nar .boolean x)))) = mWs E (mPI w a i.toNatClampNeg y) := by
    rw [hy, ← mWs_set (E := E) (w := w) (u := mPI w a i.toNatClampNeg y) hs (fun j hj => ⟨mPI_row hj, rfl⟩), ← mPI_upd]
    rfl
  refine va_zast hx hb hK hP (mDis w hI hA) hS a 1 (mWs_get E w hs) rfl hin hd (fun H1 locs1 hP1 _ hS1 => ?_)
  rw [hset] at hP1
  exact kk H1 locs1 ls hP1 hS1 hl
theorem mG_last (C : mCtx X E D) {a n : Nat} {rs : List Nat} {i : Int32} {x : Int64} (hd : decode D.2.1 pc = .ok (.lastore, 1)) (hs : mSh[a]? = some (.inl (2, n, rs))) (hin : vp_in i n)
    (kk : mG X E D (pc + 1) lv st (mPL w a i.toNatClampNeg x)) : mG X E D pc lv (.long x :: .int i :: .ref a :: st) w := by
  obtain ⟨p, l, e, R, s, m, args, below, meth, c, cells, slots, Q, A⟩ := X
  obtain ⟨hx, hb, hml, hown, hts, hK, hI, hA, hRO, hR, hcl, hsl⟩ := C
  intro H locs ls hP hS hl
  have hset : (mWs E w).set a (E.1 a, .inl (E.2.2 2, n, .inr (.inl (vp_updL (w.2 a) i.toNatClampNeg x)))) = mWs E (mPL w a i.toNatClampNeg x) := by
    rw [← mWs_set (E := E) (w := w) (u := mPL w a i.toNatClampNeg x) hs (fun j hj => ⟨rfl, mPL_row hj⟩), ← mPL_upd]
    rfl
  refine va_last hx hb hK hP (mDis w hI hA) hS a 2 (mWs_get E w hs) rfl hin hd (fun H1 locs1 hP1 _ hS1 => ?_)
  rw [hset] at hP1
  exact kk H1 locs1 ls hP1 hS1 hl
/-- statics, and tables that are never written -/
theorem mG_gets (C : mCtx X E D) {ix : Nat} {Cn n d : String} {v : Value} (hd : decode D.2.1 pc = .ok (.getstatic ix, 3)) (hl0 : Cond.fieldLink D.1.cls ix Cn n d ∈ mTb) (hz : ∀ (A : Nat → Prop) (U : State) (H : Heap), mRO E A U H → va_Z Cn n d (mV E.1 v) A U H)
    (kk : mG X E D (pc + 3) lv (v :: st) w) : mG X E D pc lv st w := by
  obtain ⟨p, l, e, R, s, m, args, below, meth, c, cells, slots, Q, A⟩ := X
  obtain ⟨hx, hb, hml, hown, hts, hK, hI, hA, hRO, hR, hcl, hsl⟩ := C
  intro H locs ls hP hS hl
  exact va_gets hx hb (hz A s s.heap hRO) hS hown (hts _ hl0) (fun _ h => h) hd (kk H locs ls hP hS hl)
theorem mG_tald (C : mCtx X E D) {a n : Nat} {f : Nat → Int32} {i : Int32} (hd : decode D.2.1 pc = .ok (.iaload, 1)) (hz : ∀ (A : Nat → Prop) (U : State) (H : Heap), mRO E A U H → va_T .int (E.1 a) n (fun j => .int (f j)) A U H) (hin : vp_in i n)
    (kk : mG X E D (pc + 1) lv (.int (f i.toNatClampNeg) :: st) w) : mG X E D pc lv (.int i :: .ref a :: st) w := by
  obtain ⟨p, l, e, R, s, m, args, below, meth, c, cells, slots, Q, A⟩ := X
  obtain ⟨hx, hb, hml, hown, hts, hK, hI, hA, hRO, hR, hcl, hsl⟩ := C
  intro H locs ls hP hS hl
  exact va_ti hx hb (hz A s s.heap hRO) hS hin rfl hd (kk H locs ls hP hS hl)
theorem mG_tlen (C : mCtx X E D) {a n : Nat} {f : Nat → Int32} {v : Int32} (hd : decode D.2.1 pc = .ok (.arraylength, 1)) (hz : ∀ (A : Nat → Prop) (U : State) (H : Heap), mRO E A U H → va_T .int (E.1 a) n (fun j => .int (f j)) A U H) (hv : Int32.ofNat n = v)
    (kk : mG X E D (pc + 1) lv (.int v :: st) w) : mG X E D pc lv (.ref a :: st) w := by
  obtain ⟨p, l, e, R, s, m, args, below, meth, c, cells, slots, Q, A⟩ := X
  obtain ⟨hx, hb, hml, hown, hts, hK, hI, hA, hRO, hR, hcl, hsl⟩ := C
  intro H locs ls hP hS hl
  exact va_tlen hx hb (hz A s s.heap hRO) hS hv hd (kk H locs ls hP hS hl)
/-- a text's constant -/
theorem mG_ldcS (C : mCtx X E D) {ix k : Nat} (hd : decode D.2.1 pc = .ok (.ldc ix, 2)) (hk : k < 13) (ho : D.1.cls = RX5) (hi : mStC.getD k 0 = ix)
    (kk : mG X E D (pc + 2) lv (.ref (100 + k) :: st) w) : mG X E D pc lv st w := by
  obtain ⟨p, l, e, R, s, m, args, below, meth, c, cells, slots, Q, A⟩ := X
  obtain ⟨hx, hb, hml, hown, hts, hK, hI, hA, hRO, hR, hcl, hsl⟩ := C
  intro H locs ls hP hS hl
  subst hi
  rw [ho] at hown
  exact va_ldcS hx hb hown (hRO.1 k hk) hd (kk H locs ls hP hS hl)
/-- fewer known locals -/
theorem mG_hole {lv' : List Value} (h : ∀ (k : Nat) (v : Value), lv'[k]? = some v → v ≠ .retAddr 0 → lv[k]? = some v) (kk : mG X E D pc lv' st w) : mG X E D pc lv st w := by
  obtain ⟨p, l, e, R, s, m, args, below, meth, c, cells, slots, Q, A⟩ := X
  intro H locs ls hP hS hl
  exact kk H locs ls hP hS ⟨hl.1, hl.2.1, fun k v hk hv => hl.2.2 k v (h k v hk hv) hv⟩
/-! answers -/
theorem mG_iret (C : mCtx X E D) {Qm : Option Value → mW → Prop} (F : mFin X E D Qm) {v : Int32} {ty : FieldType} (hd : decode D.2.1 pc = .ok (.ireturn, 1)) (hr : D.2.2.2.1 = some ty) (hn : narrow ty (.int v) = .int v) (hq : Qm (some (.int v)) w) : mG X E D pc lv [.int v] w := by
  obtain ⟨p, l, e, R, s, m, args, below, meth, c, cells, slots, Q, A⟩ := X
  obtain ⟨hx, hb, hml, hown, hts, hK, hI, hA, hRO, hR, hcl, hsl⟩ := C
  obtain ⟨rfl, f2, f3, rfl, rfl, rfl⟩ := F
  intro H locs ls hP hS hl
  exact W.zret hx hb (f2.trans hr) hn (fun t ht _ => ⟨⟨some (.int v), w, rfl, hq, by rw [ht]; exact hP⟩, hS.F ht⟩) hS.2.2 hd f3
theorem mG_lret (C : mCtx X E D) {Qm : Option Value → mW → Prop} (F : mFin X E D Qm) {v : Int64} (hd : decode D.2.1 pc = .ok (.lreturn, 1)) (hr : D.2.2.2.1 = some .long) (hq : Qm (some (.long v)) w) : mG X E D pc lv [.long v] w := by
  obtain ⟨p, l, e, R, s, m, args, below, meth, c, cells, slots, Q, A⟩ := X
  obtain ⟨hx, hb, hml, hown, hts, hK, hI, hA, hRO, hR, hcl, hsl⟩ := C
  obtain ⟨rfl, f2, f3, rfl, rfl, rfl⟩ := F
  intro H locs ls hP hS hl
  exact W.lret hx hb (f2.trans hr) (fun t ht _ => ⟨⟨some (.long v), w, rfl, hq, by rw [ht]; exact hP⟩, hS.F ht⟩) hS.2.2 hd f3
theorem mG_vret (C : mCtx X E D) {Qm : Option Value → mW → Prop} (F : mFin X E D Qm) (hd : decode D.2.1 pc = .ok (.return_, 1)) (hr : D.2.2.2.1 = none) (hq : Qm none w) : mG X E D pc lv [] w := by
  obtain ⟨p, l, e, R, s, m, args, below, meth, c, cells, slots, Q, A⟩ := X
  obtain ⟨hx, hb, hml, hown, hts, hK, hI, hA, hRO, hR, hcl, hsl⟩ := C
  obtain ⟨rfl, f2, f3, rfl, rfl, rfl⟩ := F
  intro H locs ls hP hS hl
  exact W.vret hx hb (f2.trans hr) (fun t ht _ => ⟨⟨none, w, rfl, hq, by rw [ht]; exact hP⟩, hS.F ht⟩) hS.2.2 hd f3
theorem mG_aret (C : mCtx X E D) {Qm : Option Value → mW → Prop} (F : mFin X E D Qm) {r : Nat} {n : String} (hd : decode D.2.1 pc = .ok (.areturn, 1)) (hr : D.2.2.2.1 = some (.object n)) (hq : Qm (some (.ref r)) w) : mG X E D pc lv [.ref r] w := by
  obtain ⟨p, l, e, R, s, m, args, below, meth, c, cells, slots, Q, A⟩ := X
  obtain ⟨hx, hb, hml, hown, hts, hK, hI, hA, hRO, hR, hcl, hsl⟩ := C
  obtain ⟨rfl, f2, f3, rfl, rfl, rfl⟩ := F
  intro H locs ls hP hS hl
  exact W.aret hx hb (f2.trans hr) (Or.inl ⟨n, rfl⟩) (Or.inr ⟨E.1 r, rfl⟩) (fun t ht _ => ⟨⟨some (.ref r), w, rfl, hq, by rw [ht]; exact hP⟩, hS.F ht⟩) hS.2.2 hd f3
end MH
/-! calls -/
theorem mGood : ∀ w ∈ mTb, goodWord w = true := mTb_good
theorem mGoodIn {D : mD} (h : Cond.code D.1 D.2.1 D.2.2.1 D.2.2.2.1 ∈ mTb) : GoodIn mTb (Cond.code D.1 D.2.1 D.2.2.1 D.2.2.2.1 :: mTb) := fun w hw => by
  have hm : w ∈ mTb := (List.mem_cons.mp hw).elim (fun e => e ▸ h) id
  exact ⟨hm, good_of_word (mGood w hm)⟩
/-- what a call of Z with n arguments needs of the tables -/
def mCal (Z : mD) (n : Nat) : Prop := Cond.code Z.1 Z.2.1 Z.2.2.1 Z.2.2.2.1 ∈ mTb ∧ Cond.initialized Z.1.cls ∈ mTb ∧ (Z.1.cls ≠ "java/lang/invoke/MethodHandle" ∧ Z.1.cls ≠ "java/lang/invoke/VarHandle" ∧ (parseMethodDescriptor Z.1.desc).map (fun d => d.parameters.length) = some n) ∧ Z.2.2.2.2.cells = 0 ∧ Z.2.2.2.2.slots = 0
def mCalS (Z : mD) (n : Nat) : Prop := mCal Z n ∧ Cond.static Z.1 ∈ mTb
def mCalV (Z : mD) (n : Nat) : Prop := mCal Z n ∧ Cond.instanceMethod Z.1 ∈ mTb ∧ Cond.selects Z.1.cls Z.1 Z.1 ∈ mTb
def mFit (Z D : mD) : Prop := Z.2.2.2.2.frames + 1 ≤ D.2.2.2.2.frames ∧ 8 + (Z.2.2.1 + 11) + Z.2.2.2.2.locals ≤ D.2.2.2.2.locals
theorem mBlind (E : mEnv) (as : List Value) (w : mW) : FrameBlind (mPc E as w) := by
  rintro a U g mk ⟨h1, h2, h3, h4, h5⟩
  exact ⟨h1, h2, va_K.moved (u := U) (U := U.calling g mk a) (Vm.Alike.refl U.vm) h3, h4, mRO.same (u := U) (U := U.calling g mk a) rfl h5⟩
theorem mPre {E : mEnv} {A : Nat → Prop} {s : State} {H : Heap} {locs : List Loc} {as : List Value} {w : mW} (hK : va_K E.2.1 vwCl (mTys E) s) (hI : mInj E) (hA : ∀ i : Nat, i < mN → A (E.1 i)) (hRO : mRO E A s s.heap) (hP : va_P E.2.1 vwCl (mWs E w) H) (hS : va_S A s.heap H locs) : ∀ U : State, U.heap = H → s.WarmedH U.vm → mPc E as w ((as.map (mV E.1)).toArray) U := by
  intro U hU hW
  refine ⟨rfl, by rw [hU]; exact hP, va_K.moved hW.alike hK, hI, ?_⟩
  rw [hU]
  refine ((hRO.kept hS.2.1).warm hW).narrow ?_
  rintro a ⟨i, hi, rfl⟩
  exact hA i hi
section MC
variable {X : mX} {E : mEnv} {D : mD} {pc : Nat} {lv st : List Value} {w : mW}
/-- behind a call -/
theorem mG_back {p : Program} {l : Launch} {e : Env} {R : Room} {s : State} {m : MethodId} {args : Array Value} {below : List Frame} {meth : Method} {c : Code} {cells slots : Nat} {Q : State → Prop} {A : Nat → Prop} {rest : List Value} {K : Option Value → mW → Prop} {H : Heap} {locs : List Loc} {ls : Array Slot} {st0 : List Value} {av : Array Value}
    (hA : ∀ i : Nat, i < mN → A (E.1 i)) (hS : va_S A s.heap H locs) (hl : mL E.1 ls D.2.2.1 lv)
    (run : va_Run p l e R s m args below meth c H locs cells slots 0 0 (F0 m pc ls st0) (rest.map (mV E.1)) (mQc E K av) (mA E))
    (kk : ∀ r u, K r u → mG (p, l, e, R, s, m, args, below, meth, c, cells, slots, Q, A) E D (pc + 3) lv (r.toList ++ rest) u) : W p l e R s m args below meth c H locs cells slots Q (F0 m pc ls st0) := by
  intro T hT X
  obtain ⟨v, st₀, t, T', L, h0, X', hL, e1, e2, ⟨⟨r, u, hv, hq, hp⟩, hz, hk⟩, stp⟩ := run T hT X
  cases hv
  rw [h0] at hz hk
  have hAA : ∀ q, mA E q → A q := by
    rintro q ⟨i, hi, rfl⟩
    exact hA i hi
  have hS1 : va_S A s.heap T'.heap (locs ++ L) := by
    refine ⟨Nat.le_trans hS.1 (by rw [e1]; exact hz), fun q h1 h2 => ?_, fun q hq => ?_⟩
    · rw [e1, hk q (Nat.lt_of_lt_of_le h1 hS.1) (fun z => h2 (hAA q z))]
      exact hS.2.1 q h1 h2
    · rcases List.mem_append.mp hq with h | h
      · exact hS.2.2 q h
      · exact hAA _ (hL q h)
  obtain ⟨t2, a1, b1⟩ := kk r u hq T'.heap (locs ++ L) ls (by rw [e1]; exact hp) hS1 hl T' rfl X'
  refine ⟨t2, stp t2 ?_, b1⟩
  have hst : (r.toList ++ rest).map (mV E.1) = (r.map (mV E.1)).toList ++ rest.map (mV E.1) := by cases r <;> rfl
  rw [hst] at a1
  exact a1
theorem mSum (ad : Nat → Nat) (rest : List Value) : ((rest.map (mV ad)).map fun v => v.category).sum = (rest.map fun v => v.category).sum := by
  rw [List.map_map]
  congr 1
  apply List.map_congr_left
  intro a _
  exact mV_cat ad a
theorem mG_callS (C : mCtx X E D) {Z : mD} {ix n : Nat} {as rest : List Value} {K : Option Value → mW → Prop} (hd : decode D.2.1 pc = .ok (.invokestatic ix, 3)) (hlk : Cond.methodLink D.1.cls ix Z.1 ∈ mTb) (hz : mCalS Z n) (hf : mFit Z D) (hn : as.length = n) (hr : (rest.map fun v => v.category).sum ≤ 8) (hst : as.reverse ++ rest = st)
    (hM : mM E Z as w K) (kk : ∀ r u, K r u → mG X E D (pc + 3) lv (r.toList ++ rest) u) : mG X E D pc lv st w := by
  subst hst
  obtain ⟨p, l, e, R, s, m, args, below, meth, c, cells, slots, Q, A⟩ := X
  obtain ⟨hx, hb, hml, hown, hts, hK, hI, hA, hRO, hR, hcl, hsl⟩ := C
  subst hR
  intro H locs ls hP hS hl
  obtain ⟨⟨z1, z2, z3, z4, z5⟩, z6⟩ := hz
  have hG := mGoodIn z1
  have cb : CallB D.2.2.2.2 s args D.1.cls ix Z.1 Z.2.1 Z.2.2.1 Z.2.2.2.1 (Cond.code Z.1 Z.2.1 Z.2.2.1 Z.2.2.2.1 :: mTb) Z.2.2.2.2 0 0 n := callB_of n hts hG rfl z4 z5 (hts _ z2) (hts _ hlk) z3 hf
  refine mG_back hA hS hl (rest := rest) (va_runS (As := as.map (mV E.1)) (rest := rest.map (mV E.1)) ⟨hx, hb, hml, hown, hts⟩ (hM l) ⟨cb, hts _ z6⟩ ⟨mBlind E as w, mPre hK hI hA hRO hP hS⟩ rfl (by rw [List.length_map]; exact hn) hl.1 (by rw [List.map_append, List.map_reverse]) (lv_room (by rw [mSum]; exact hr)) hd ⟨hcl, hsl⟩) kk
theorem mG_callV (C : mCtx X E D) {Z : mD} {ix n i ci N : Nat} {T : u_T} {fs : List (Nat × Nat)} {as rest : List Value} {K : Option Value → mW → Prop} (hd : decode D.2.1 pc = .ok (.invokevirtual ix, 3)) (hlk : Cond.methodLink D.1.cls ix Z.1 ∈ mTb) (hz : mCalV Z n) (hf : mFit Z D) (hs : mSh[i]? = some (.inr (ci, fs))) (hc : vwCl[ci]? = some (Z.1.cls, T, N)) (hn : as.length = n) (hr : (rest.map fun v => v.category).sum ≤ 8) (hst : as.reverse ++ .ref i :: rest = st)
    (hM : mM E Z (.ref i :: as) w K) (kk : ∀ r u, K r u → mG X E D (pc + 3) lv (r.toList ++ rest) u) : mG X E D pc lv st w := by
  subst hst
  obtain ⟨p, l, e, R, s, m, args, below, meth, c, cells, slots, Q, A⟩ := X
  obtain ⟨hx, hb, hml, hown, hts, hK, hI, hA, hRO, hR, hcl, hsl⟩ := C
  subst hR
  intro H locs ls hP hS hl
  obtain ⟨⟨z1, z2, z3, z4, z5⟩, z6, z7⟩ := hz
  have hG := mGoodIn z1
  have cb : CallB D.2.2.2.2 s args D.1.cls ix Z.1 Z.2.1 Z.2.2.1 Z.2.2.2.1 (Cond.code Z.1 Z.2.1 Z.2.2.1 Z.2.2.2.1 :: mTb) Z.2.2.2.2 0 0 n := callB_of n hts hG rfl z4 z5 (hts _ z2) (hts _ hlk) z3 hf
  refine mG_back hA hS hl (rest := rest) (va_runV (C := Z.1.cls) (b := E.1 i) (As := as.map (mV E.1)) (rest := rest.map (mV E.1)) ⟨hx, hb, hml, hown, hts⟩ (hM l) ⟨cb, hts _ z6, hts _ z7⟩ ⟨mBlind E (.ref i :: as) w, va_recv hK hP hc (mWs_get E w hs), mPre (as := .ref i :: as) hK hI hA hRO hP hS⟩ rfl (by rw [List.length_map]; exact hn) hl.1 (by rw [List.map_append, List.map_reverse]; rfl) (lv_room (by rw [mSum]; exact hr)) hd ⟨hcl, hsl⟩) kk
/-! calls by the kind of answer -/
def mMi (E : mEnv) (D : mD) (as : List Value) (w : mW) (Q : Int32 → mW → Prop) : Prop := mM E D as w (fun r u => ∃ v : Int32, r = some (.int v) ∧ Q v u)
def mMl (E : mEnv) (D : mD) (as : List Value) (w : mW) (Q : Int64 → mW → Prop) : Prop := mM E D as w (fun r u => ∃ v : Int64, r = some (.long v) ∧ Q v u)
def mMr (E : mEnv) (D : mD) (as : List Value) (w : mW) (Q : Nat → mW → Prop) : Prop := mM E D as w (fun r u => ∃ v : Nat, r = some (.ref v) ∧ Q v u)
def mMv (E : mEnv) (D : mD) (as : List Value) (w : mW) (Q : mW → Prop) : Prop := mM E D as w (fun r u => r = none ∧ Q u)
theorem mMi.mono {E : mEnv} {D : mD} {as : List Value} {w : mW} {Q Q' : Int32 → mW → Prop} (h : mMi E D as w Q) (hQ : ∀ v u, Q v u → Q' v u) : mMi E D as w Q' := mM.mono h (fun _ u ⟨v, e, q⟩ => ⟨v, e, hQ v u q⟩)
theorem mMl.mono {E : mEnv} {D : mD} {as : List Value} {w : mW} {Q Q' : Int64 → mW → Prop} (h : mMl E D as w Q) (hQ : ∀ v u, Q v u → Q' v u) : mMl E D as w Q' := mM.mono h (fun _ u ⟨v, e, q⟩ => ⟨v, e, hQ v u q⟩)
theorem mMr.mono {E : mEnv} {D : mD} {as : List Value} {w : mW} {Q Q' : Nat → mW → Prop} (h : mMr E D as w Q) (hQ : ∀ v u, Q v u → Q' v u) : mMr E D as w Q' := mM.mono h (fun _ u ⟨v, e, q⟩ => ⟨v, e, hQ v u q⟩)
theorem mMv.mono {E : mEnv} {D : mD} {as : List Value} {w : mW} {Q Q' : mW → Prop} (h : mMv E D as w Q) (hQ : ∀ u, Q u → Q' u) : mMv E D as w Q' := mM.mono h (fun _ u ⟨e, q⟩ => ⟨e, hQ u q⟩)
end MC
section MK
variable {X : mX} {E : mEnv} {D : mD} {pc : Nat} {lv st : List Value} {w : mW}
theorem mG_Si (C : mCtx X E D) {Z : mD} {ix n : Nat} {as rest : List Value} {K : Int32 → mW → Prop} (hd : decode D.2.1 pc = .ok (.invokestatic ix, 3)) (hlk : Cond.methodLink D.1.cls ix Z.1 ∈ mTb) (hz : mCalS Z n) (hf : mFit Z D) (hn : as.length = n) (hr : (rest.map fun v => v.category).sum ≤ 8) (hst : as.reverse ++ rest = st)
    (hM : mMi E Z as w K) (kk : ∀ v u, K v u → mG X E D (pc + 3) lv (.int v :: rest) u) : mG X E D pc lv st w := mG_callS C hd hlk hz hf hn hr hst hM (fun r u h => by obtain ⟨v, rfl, q⟩ := h; exact kk v u q)
theorem mG_Vi (C : mCtx X E D) {Z : mD} {ix n i ci N : Nat} {T : u_T} {fs : List (Nat × Nat)} {as rest : List Value} {K : Int32 → mW → Prop} (hd : decode D.2.1 pc = .ok (.invokevirtual ix, 3)) (hlk : Cond.methodLink D.1.cls ix Z.1 ∈ mTb) (hz : mCalV Z n) (hf : mFit Z D) (hs : mSh[i]? = some (.inr (ci, fs))) (hc : vwCl[ci]? = some (Z.1.cls, T, N)) (hn : as.length = n) (hr : (rest.map fun v => v.category).sum ≤ 8) (hst : as.reverse ++ .ref i :: rest = st)
    (hM : mMi E Z (.ref i :: as) w K) (kk : ∀ v u, K v u → mG X E D (pc + 3) lv (.int v :: rest) u) : mG X E D pc lv st w := mG_callV C hd hlk hz hf hs hc hn hr hst hM (fun r u h => by obtain ⟨v, rfl, q⟩ := h; exact kk v u q)
theorem mG_Sl (C : mCtx X E D) {Z : mD} {ix n : Nat} {as rest : List Value} {K : Int64 → mW → Prop} (hd : decode D.2.1 pc = .ok (.invokestatic ix, 3)) (hlk : Cond.methodLink D.1.cls ix Z.1 ∈ mTb) (hz : mCalS Z n) (hf : mFit Z D) (hn : as.length = n) (hr : (rest.map fun v => v.category).sum ≤ 8) (hst : as.reverse ++ rest = st)
    (hM : mMl E Z as w K) (kk : ∀ v u, K v u → mG X E D (pc + 3) lv (.long v :: rest) u) : mG X E D pc lv st w := mG_callS C hd hlk hz hf hn hr hst hM (fun r u h => by obtain ⟨v, rfl, q⟩ := h; exact kk v u q)
theorem mG_Vl (C : mCtx X E D) {Z : mD} {ix n i ci N : Nat} {T : u_T} {fs : List (Nat × Nat)} {as rest : List Value} {K : Int64 → mW → Prop} (hd : decode D.2.1 pc = .ok (.invokevirtual ix, 3)) (hlk : Cond.methodLink D.1.cls ix Z.1 ∈ mTb) (hz : mCalV Z n) (hf : mFit Z D) (hs : mSh[i]? = some (.inr (ci, fs))) (hc : vwCl[ci]? = some (Z.1.cls, T, N)) (hn : as.length = n) (hr : (rest.map fun v => v.category).sum ≤ 8) (hst : as.reverse ++ .ref i :: rest = st)
    (hM : mMl E Z (.ref i :: as) w K) (kk : ∀ v u, K v u → mG X E D (pc + 3) lv (.long v :: rest) u) : mG X E D pc lv st w := mG_callV C hd hlk hz hf hs hc hn hr hst hM (fun r u h => by obtain ⟨v, rfl, q⟩ := h; exact kk v u q)
theorem mG_Sr (C : mCtx X E D) {Z : mD} {ix n : Nat} {as rest : List Value} {K : Nat → mW → Prop} (hd : decode D.2.1 pc = .ok (.invokestatic ix, 3)) (hlk : Cond.methodLink D.1.cls ix Z.1 ∈ mTb) (hz : mCalS Z n) (hf : mFit Z D) (hn : as.length = n) (hr : (rest.map fun v => v.category).sum ≤ 8) (hst : as.reverse ++ rest = st)
    (hM : mMr E Z as w K) (kk : ∀ v u, K v u → mG X E D (pc + 3) lv (.ref v :: rest) u) : mG X E D pc lv st w := mG_callS C hd hlk hz hf hn hr hst hM (fun r u h => by obtain ⟨v, rfl, q⟩ := h; exact kk v u q)
theorem mG_Vr (C : mCtx X E D) {Z : mD} {ix n i ci N : Nat} {T : u_T} {fs : List (Nat × Nat)} {as rest : List Value} {K : Nat → mW → Prop} (hd : decode D.2.1 pc = .ok (.invokevirtual ix, 3)) (hlk : Cond.methodLink D.1.cls ix Z.1 ∈ mTb) (hz : mCalV Z n) (hf : mFit Z D) (hs : mSh[i]? = some (.inr (ci, fs))) (hc : vwCl[ci]? = some (Z.1.cls, T, N)) (hn : as.length = n) (hr : (rest.map fun v => v.category).sum ≤ 8) (hst : as.reverse ++ .ref i :: rest = st)
    (hM : mMr E Z (.ref i :: as) w K) (kk : ∀ v u, K v u → mG X E D (pc + 3) lv (.ref v :: rest) u) : mG X E D pc lv st w := mG_callV C hd hlk hz hf hs hc hn hr hst hM (fun r u h => by obtain ⟨v, rfl, q⟩ := h; exact kk v u q)
theorem mG_Sv (C : mCtx X E D) {Z : mD} {ix n : Nat} {as rest : List Value} {K : mW → Prop} (hd : decode D.2.1 pc = .ok (.invokestatic ix, 3)) (hlk : Cond.methodLink D.1.cls ix Z.1 ∈ mTb) (hz : mCalS Z n) (hf : mFit Z D) (hn : as.length = n) (hr : (rest.map fun v => v.category).sum ≤ 8) (hst : as.reverse ++ rest = st)
    (hM : mMv E Z as w K) (kk : ∀ u, K u → mG X E D (pc + 3) lv (rest) u) : mG X E D pc lv st w := mG_callS C hd hlk hz hf hn hr hst hM (fun r u h => by obtain ⟨rfl, q⟩ := h; exact kk u q)
theorem mG_Vv (C : mCtx X E D) {Z : mD} {ix n i ci N : Nat} {T : u_T} {fs : List (Nat × Nat)} {as rest : List Value} {K : mW → Prop} (hd : decode D.2.1 pc = .ok (.invokevirtual ix, 3)) (hlk : Cond.methodLink D.1.cls ix Z.1 ∈ mTb) (hz : mCalV Z n) (hf : mFit Z D) (hs : mSh[i]? = some (.inr (ci, fs))) (hc : vwCl[ci]? = some (Z.1.cls, T, N)) (hn : as.length = n) (hr : (rest.map fun v => v.category).sum ≤ 8) (hst : as.reverse ++ .ref i :: rest = st)
    (hM : mMv E Z (.ref i :: as) w K) (kk : ∀ u, K u → mG X E D (pc + 3) lv (rest) u) : mG X E D pc lv st w := mG_callV C hd hlk hz hf hs hc hn hr hst hM (fun r u h => by obtain ⟨rfl, q⟩ := h; exact kk u q)
end MK
end
