section
-- ===== PART A: goes FIRST, ahead of the names: the tables' words, and 'selects' of the private methods out of them =====
/-- a private method of a class that the tables say can be made, by its rows of tables_1 -/
def lw_okq (q : MethodName × Nat) : Prop := (q.1.cls ≠ "java/lang/invoke/MethodHandle" ∧ q.1.cls ≠ "java/lang/invoke/VarHandle") ∧ Cond.instantiable q.1.cls q.2 ∈ tables_1 ∧ Cond.privateMethod q.1 ∈ tables_1 ∧ Cond.instanceMethod q.1 ∈ tables_1
theorem lw_p0 : lw_okq (⟨"PedlarPack$Land", "findWays", "()V"⟩, 2) := ⟨⟨by decide +kernel, by decide +kernel⟩, List.mem_of_getElem? (i := 39) (by decide +kernel), List.mem_of_getElem? (i := 46) (by decide +kernel), List.mem_of_getElem? (i := 47) (by decide +kernel)⟩
theorem lw_p1 : lw_okq (⟨"PedlarPack$Line", "readPart", "(I)I"⟩, 6) := ⟨⟨by decide +kernel, by decide +kernel⟩, List.mem_of_getElem? (i := 78) (by decide +kernel), List.mem_of_getElem? (i := 351) (by decide +kernel), List.mem_of_getElem? (i := 352) (by decide +kernel)⟩
theorem lw_p2 : lw_okq (⟨"PedlarPack$Line", "figureAt", "(I)I"⟩, 6) := ⟨⟨by decide +kernel, by decide +kernel⟩, List.mem_of_getElem? (i := 78) (by decide +kernel), List.mem_of_getElem? (i := 355) (by decide +kernel), List.mem_of_getElem? (i := 356) (by decide +kernel)⟩
theorem lw_p3 : lw_okq (⟨"PedlarPack$Line", "isAt", "(IC)Z"⟩, 6) := ⟨⟨by decide +kernel, by decide +kernel⟩, List.mem_of_getElem? (i := 78) (by decide +kernel), List.mem_of_getElem? (i := 363) (by decide +kernel), List.mem_of_getElem? (i := 364) (by decide +kernel)⟩
theorem lw_p4 : lw_okq (⟨"PedlarPack$Line", "readChances", "(I)I"⟩, 6) := ⟨⟨by decide +kernel, by decide +kernel⟩, List.mem_of_getElem? (i := 78) (by decide +kernel), List.mem_of_getElem? (i := 368) (by decide +kernel), List.mem_of_getElem? (i := 369) (by decide +kernel)⟩
theorem lw_p5 : lw_okq (⟨"PedlarPack$Doors", "meanAsked", "(IIIII)J"⟩, 4) := ⟨⟨by decide +kernel, by decide +kernel⟩, List.mem_of_getElem? (i := 128) (by decide +kernel), List.mem_of_getElem? (i := 501) (by decide +kernel), List.mem_of_getElem? (i := 502) (by decide +kernel)⟩
theorem lw_p6 : lw_okq (⟨"PedlarPack", "weighUp", "()V"⟩, 14) := ⟨⟨by decide +kernel, by decide +kernel⟩, List.mem_of_getElem? (i := 15) (by decide +kernel), List.mem_of_getElem? (i := 514) (by decide +kernel), List.mem_of_getElem? (i := 515) (by decide +kernel)⟩
theorem lw_p7 : lw_okq (⟨"PedlarPack$Packer", "fillMost", "(III)V"⟩, 9) := ⟨⟨by decide +kernel, by decide +kernel⟩, List.mem_of_getElem? (i := 153) (by decide +kernel), List.mem_of_getElem? (i := 539) (by decide +kernel), List.mem_of_getElem? (i := 540) (by decide +kernel)⟩
theorem lw_p8 : lw_okq (⟨"PedlarPack$Packer", "leastNumber", "(II)I"⟩, 9) := ⟨⟨by decide +kernel, by decide +kernel⟩, List.mem_of_getElem? (i := 153) (by decide +kernel), List.mem_of_getElem? (i := 546) (by decide +kernel), List.mem_of_getElem? (i := 547) (by decide +kernel)⟩
theorem lw_p9 : lw_okq (⟨"PedlarPack", "numberOrWeight", "([II)I"⟩, 14) := ⟨⟨by decide +kernel, by decide +kernel⟩, List.mem_of_getElem? (i := 15) (by decide +kernel), List.mem_of_getElem? (i := 550) (by decide +kernel), List.mem_of_getElem? (i := 551) (by decide +kernel)⟩
theorem lw_p10 : lw_okq (⟨"PedlarPack", "loadTerm", "(II)J"⟩, 14) := ⟨⟨by decide +kernel, by decide +kernel⟩, List.mem_of_getElem? (i := 15) (by decide +kernel), List.mem_of_getElem? (i := 558) (by decide +kernel), List.mem_of_getElem? (i := 559) (by decide +kernel)⟩
theorem lw_p11 : lw_okq (⟨"PedlarPack$Packer", "nextLoaded", "(I)I"⟩, 9) := ⟨⟨by decide +kernel, by decide +kernel⟩, List.mem_of_getElem? (i := 153) (by decide +kernel), List.mem_of_getElem? (i := 567) (by decide +kernel), List.mem_of_getElem? (i := 568) (by decide +kernel)⟩
theorem lw_p12 : lw_okq (⟨"PedlarPack$Packer", "stepGain", "(II)J"⟩, 9) := ⟨⟨by decide +kernel, by decide +kernel⟩, List.mem_of_getElem? (i := 153) (by decide +kernel), List.mem_of_getElem? (i := 571) (by decide +kernel), List.mem_of_getElem? (i := 572) (by decide +kernel)⟩
theorem lw_p13 : lw_okq (⟨"PedlarPack$Packer", "nextStep", "()I"⟩, 9) := ⟨⟨by decide +kernel, by decide +kernel⟩, List.mem_of_getElem? (i := 153) (by decide +kernel), List.mem_of_getElem? (i := 579) (by decide +kernel), List.mem_of_getElem? (i := 580) (by decide +kernel)⟩
theorem lw_p14 : lw_okq (⟨"PedlarPack", "tooManyOpen", "()Z"⟩, 14) := ⟨⟨by decide +kernel, by decide +kernel⟩, List.mem_of_getElem? (i := 15) (by decide +kernel), List.mem_of_getElem? (i := 591) (by decide +kernel), List.mem_of_getElem? (i := 592) (by decide +kernel)⟩
theorem lw_p15 : lw_okq (⟨"PedlarPack$Rounds", "clear", "()V"⟩, 15) := ⟨⟨by decide +kernel, by decide +kernel⟩, List.mem_of_getElem? (i := 193) (by decide +kernel), List.mem_of_getElem? (i := 605) (by decide +kernel), List.mem_of_getElem? (i := 606) (by decide +kernel)⟩
def lw_privs_1 : List (MethodName × Nat) := [(⟨"PedlarPack$Land", "findWays", "()V"⟩, 2), (⟨"PedlarPack$Line", "readPart", "(I)I"⟩, 6), (⟨"PedlarPack$Line", "figureAt", "(I)I"⟩, 6), (⟨"PedlarPack$Line", "isAt", "(IC)Z"⟩, 6), (⟨"PedlarPack$Line", "readChances", "(I)I"⟩, 6), (⟨"PedlarPack$Doors", "meanAsked", "(IIIII)J"⟩, 4), (⟨"PedlarPack", "weighUp", "()V"⟩, 14), (⟨"PedlarPack$Packer", "fillMost", "(III)V"⟩, 9), (⟨"PedlarPack$Packer", "leastNumber", "(II)I"⟩, 9), (⟨"PedlarPack", "numberOrWeight", "([II)I"⟩, 14), (⟨"PedlarPack", "loadTerm", "(II)J"⟩, 14), (⟨"PedlarPack$Packer", "nextLoaded", "(I)I"⟩, 9), (⟨"PedlarPack$Packer", "stepGain", "(II)J"⟩, 9), (⟨"PedlarPack$Packer", "nextStep", "()I"⟩, 9), (⟨"PedlarPack", "tooManyOpen", "()Z"⟩, 14), (⟨"PedlarPack$Rounds", "clear", "()V"⟩, 15)]
theorem lw_r1 : ∀ q ∈ lw_privs_1, lw_okq q := List.forall_mem_cons.mpr ⟨lw_p0, List.forall_mem_cons.mpr ⟨lw_p1, List.forall_mem_cons.mpr ⟨lw_p2, List.forall_mem_cons.mpr ⟨lw_p3, List.forall_mem_cons.mpr ⟨lw_p4, List.forall_mem_cons.mpr ⟨lw_p5, List.forall_mem_cons.mpr ⟨lw_p6, List.forall_mem_cons.mpr ⟨lw_p7, List.forall_mem_cons.mpr ⟨lw_p8, List.forall_mem_cons.mpr ⟨lw_p9, List.forall_mem_cons.mpr ⟨lw_p10, List.forall_mem_cons.mpr ⟨lw_p11, List.forall_mem_cons.mpr ⟨lw_p12, List.forall_mem_cons.mpr ⟨lw_p13, List.forall_mem_cons.mpr ⟨lw_p14, List.forall_mem_cons.mpr ⟨lw_p15, fun _ h => absurd h List.not_mem_nil⟩⟩⟩⟩⟩⟩⟩⟩⟩⟩⟩⟩⟩⟩⟩⟩
theorem lw_p16 : lw_okq (⟨"PedlarPack$Rounds", "lengthen", "(IIIII)V"⟩, 15) := ⟨⟨by decide +kernel, by decide +kernel⟩, List.mem_of_getElem? (i := 193) (by decide +kernel), List.mem_of_getElem? (i := 611) (by decide +kernel), List.mem_of_getElem? (i := 612) (by decide +kernel)⟩
theorem lw_p17 : lw_okq (⟨"PedlarPack$Rounds", "judge", "(III)V"⟩, 15) := ⟨⟨by decide +kernel, by decide +kernel⟩, List.mem_of_getElem? (i := 193) (by decide +kernel), List.mem_of_getElem? (i := 615) (by decide +kernel), List.mem_of_getElem? (i := 616) (by decide +kernel)⟩
theorem lw_p18 : lw_okq (⟨"PedlarPack$Rounds", "valueOfPack", "([J)J"⟩, 15) := ⟨⟨by decide +kernel, by decide +kernel⟩, List.mem_of_getElem? (i := 193) (by decide +kernel), List.mem_of_getElem? (i := 619) (by decide +kernel), List.mem_of_getElem? (i := 620) (by decide +kernel)⟩
theorem lw_p19 : lw_okq (⟨"PedlarPack$Rounds", "keep", "(IIJ)V"⟩, 15) := ⟨⟨by decide +kernel, by decide +kernel⟩, List.mem_of_getElem? (i := 193) (by decide +kernel), List.mem_of_getElem? (i := 623) (by decide +kernel), List.mem_of_getElem? (i := 624) (by decide +kernel)⟩
theorem lw_p20 : lw_okq (⟨"PedlarPack$Rounds", "isBetter", "(IIJ)Z"⟩, 15) := ⟨⟨by decide +kernel, by decide +kernel⟩, List.mem_of_getElem? (i := 193) (by decide +kernel), List.mem_of_getElem? (i := 627) (by decide +kernel), List.mem_of_getElem? (i := 628) (by decide +kernel)⟩
theorem lw_p21 : lw_okq (⟨"PedlarPack$Rounds", "partWith", "(II)V"⟩, 15) := ⟨⟨by decide +kernel, by decide +kernel⟩, List.mem_of_getElem? (i := 193) (by decide +kernel), List.mem_of_getElem? (i := 682) (by decide +kernel), List.mem_of_getElem? (i := 683) (by decide +kernel)⟩
theorem lw_p22 : lw_okq (⟨"PedlarPackModel", "thingNow", "(II)I"⟩, 48) := ⟨⟨by decide +kernel, by decide +kernel⟩, List.mem_of_getElem? (i := 773) (by decide +kernel), List.mem_of_getElem? (i := 934) (by decide +kernel), List.mem_of_getElem? (i := 935) (by decide +kernel)⟩
theorem lw_p23 : lw_okq (⟨"PedlarPackModel", "laysWays", "()V"⟩, 48) := ⟨⟨by decide +kernel, by decide +kernel⟩, List.mem_of_getElem? (i := 773) (by decide +kernel), List.mem_of_getElem? (i := 949) (by decide +kernel), List.mem_of_getElem? (i := 950) (by decide +kernel)⟩
theorem lw_p24 : lw_okq (⟨"PedlarPackModel", "faultNow", "()I"⟩, 48) := ⟨⟨by decide +kernel, by decide +kernel⟩, List.mem_of_getElem? (i := 773) (by decide +kernel), List.mem_of_getElem? (i := 969) (by decide +kernel), List.mem_of_getElem? (i := 970) (by decide +kernel)⟩
theorem lw_p25 : lw_okq (⟨"PedlarPackModel", "part", "()V"⟩, 48) := ⟨⟨by decide +kernel, by decide +kernel⟩, List.mem_of_getElem? (i := 773) (by decide +kernel), List.mem_of_getElem? (i := 973) (by decide +kernel), List.mem_of_getElem? (i := 974) (by decide +kernel)⟩
theorem lw_p26 : lw_okq (⟨"PedlarPackModel", "number", "(III)I"⟩, 48) := ⟨⟨by decide +kernel, by decide +kernel⟩, List.mem_of_getElem? (i := 773) (by decide +kernel), List.mem_of_getElem? (i := 977) (by decide +kernel), List.mem_of_getElem? (i := 978) (by decide +kernel)⟩
theorem lw_p27 : lw_okq (⟨"PedlarPackModel", "byteNow", "()I"⟩, 48) := ⟨⟨by decide +kernel, by decide +kernel⟩, List.mem_of_getElem? (i := 773) (by decide +kernel), List.mem_of_getElem? (i := 981) (by decide +kernel), List.mem_of_getElem? (i := 982) (by decide +kernel)⟩
theorem lw_p28 : lw_okq (⟨"PedlarPackModel", "expects", "(I)V"⟩, 48) := ⟨⟨by decide +kernel, by decide +kernel⟩, List.mem_of_getElem? (i := 773) (by decide +kernel), List.mem_of_getElem? (i := 985) (by decide +kernel), List.mem_of_getElem? (i := 986) (by decide +kernel)⟩
theorem lw_p29 : lw_okq (⟨"PedlarPackModel", "meets", "(I)I"⟩, 48) := ⟨⟨by decide +kernel, by decide +kernel⟩, List.mem_of_getElem? (i := 773) (by decide +kernel), List.mem_of_getElem? (i := 1006) (by decide +kernel), List.mem_of_getElem? (i := 1007) (by decide +kernel)⟩
theorem lw_p30 : lw_okq (⟨"PedlarPackModel", "chanceNow", "(III)I"⟩, 48) := ⟨⟨by decide +kernel, by decide +kernel⟩, List.mem_of_getElem? (i := 773) (by decide +kernel), List.mem_of_getElem? (i := 1014) (by decide +kernel), List.mem_of_getElem? (i := 1015) (by decide +kernel)⟩
theorem lw_p31 : lw_okq (⟨"PedlarPackModel", "packWeight", "()I"⟩, 48) := ⟨⟨by decide +kernel, by decide +kernel⟩, List.mem_of_getElem? (i := 773) (by decide +kernel), List.mem_of_getElem? (i := 1030) (by decide +kernel), List.mem_of_getElem? (i := 1031) (by decide +kernel)⟩
def lw_privs_2 : List (MethodName × Nat) := [(⟨"PedlarPack$Rounds", "lengthen", "(IIIII)V"⟩, 15), (⟨"PedlarPack$Rounds", "judge", "(III)V"⟩, 15), (⟨"PedlarPack$Rounds", "valueOfPack", "([J)J"⟩, 15), (⟨"PedlarPack$Rounds", "keep", "(IIJ)V"⟩, 15), (⟨"PedlarPack$Rounds", "isBetter", "(IIJ)Z"⟩, 15), (⟨"PedlarPack$Rounds", "partWith", "(II)V"⟩, 15), (⟨"PedlarPackModel", "thingNow", "(II)I"⟩, 48), (⟨"PedlarPackModel", "laysWays", "()V"⟩, 48), (⟨"PedlarPackModel", "faultNow", "()I"⟩, 48), (⟨"PedlarPackModel", "part", "()V"⟩, 48), (⟨"PedlarPackModel", "number", "(III)I"⟩, 48), (⟨"PedlarPackModel", "byteNow", "()I"⟩, 48), (⟨"PedlarPackModel", "expects", "(I)V"⟩, 48), (⟨"PedlarPackModel", "meets", "(I)I"⟩, 48), (⟨"PedlarPackModel", "chanceNow", "(III)I"⟩, 48), (⟨"PedlarPackModel", "packWeight", "()I"⟩, 48)]
theorem lw_r2 : ∀ q ∈ lw_privs_2, lw_okq q := List.forall_mem_cons.mpr ⟨lw_p16, List.forall_mem_cons.mpr ⟨lw_p17, List.forall_mem_cons.mpr ⟨lw_p18, List.forall_mem_cons.mpr ⟨lw_p19, List.forall_mem_cons.mpr ⟨lw_p20, List.forall_mem_cons.mpr ⟨lw_p21, List.forall_mem_cons.mpr ⟨lw_p22, List.forall_mem_cons.mpr ⟨lw_p23, List.forall_mem_cons.mpr ⟨lw_p24, List.forall_mem_cons.mpr ⟨lw_p25, List.forall_mem_cons.mpr ⟨lw_p26, List.forall_mem_cons.mpr ⟨lw_p27, List.forall_mem_cons.mpr ⟨lw_p28, List.forall_mem_cons.mpr ⟨lw_p29, List.forall_mem_cons.mpr ⟨lw_p30, List.forall_mem_cons.mpr ⟨lw_p31, fun _ h => absurd h List.not_mem_nil⟩⟩⟩⟩⟩⟩⟩⟩⟩⟩⟩⟩⟩⟩⟩⟩
theorem lw_p32 : lw_okq (⟨"PedlarPackModel", "hoursNow", "()I"⟩, 48) := ⟨⟨by decide +kernel, by decide +kernel⟩, List.mem_of_getElem? (i := 773) (by decide +kernel), List.mem_of_getElem? (i := 1038) (by decide +kernel), List.mem_of_getElem? (i := 1039) (by decide +kernel)⟩
theorem lw_p33 : lw_okq (⟨"PedlarPackModel", "looksAtRow", "()V"⟩, 48) := ⟨⟨by decide +kernel, by decide +kernel⟩, List.mem_of_getElem? (i := 773) (by decide +kernel), List.mem_of_getElem? (i := 1042) (by decide +kernel), List.mem_of_getElem? (i := 1043) (by decide +kernel)⟩
theorem lw_p34 : lw_okq (⟨"PedlarPackModel", "laysWorth", "()V"⟩, 48) := ⟨⟨by decide +kernel, by decide +kernel⟩, List.mem_of_getElem? (i := 773) (by decide +kernel), List.mem_of_getElem? (i := 1046) (by decide +kernel), List.mem_of_getElem? (i := 1047) (by decide +kernel)⟩
theorem lw_p35 : lw_okq (⟨"PedlarPackModel", "hoursFrom", "(I)I"⟩, 48) := ⟨⟨by decide +kernel, by decide +kernel⟩, List.mem_of_getElem? (i := 773) (by decide +kernel), List.mem_of_getElem? (i := 1057) (by decide +kernel), List.mem_of_getElem? (i := 1058) (by decide +kernel)⟩
theorem lw_p36 : lw_okq (⟨"PedlarPackModel", "judgedNow", "()I"⟩, 48) := ⟨⟨by decide +kernel, by decide +kernel⟩, List.mem_of_getElem? (i := 773) (by decide +kernel), List.mem_of_getElem? (i := 1065) (by decide +kernel), List.mem_of_getElem? (i := 1066) (by decide +kernel)⟩
theorem lw_p37 : lw_okq (⟨"PedlarPackModel", "gainNow", "()J"⟩, 48) := ⟨⟨by decide +kernel, by decide +kernel⟩, List.mem_of_getElem? (i := 773) (by decide +kernel), List.mem_of_getElem? (i := 1092) (by decide +kernel), List.mem_of_getElem? (i := 1093) (by decide +kernel)⟩
theorem lw_p38 : lw_okq (⟨"PedlarPackModel", "gainOf", "(II)J"⟩, 48) := ⟨⟨by decide +kernel, by decide +kernel⟩, List.mem_of_getElem? (i := 773) (by decide +kernel), List.mem_of_getElem? (i := 1096) (by decide +kernel), List.mem_of_getElem? (i := 1097) (by decide +kernel)⟩
theorem lw_p39 : lw_okq (⟨"PedlarPackModel", "bestNow", "(I)I"⟩, 48) := ⟨⟨by decide +kernel, by decide +kernel⟩, List.mem_of_getElem? (i := 773) (by decide +kernel), List.mem_of_getElem? (i := 1104) (by decide +kernel), List.mem_of_getElem? (i := 1105) (by decide +kernel)⟩
theorem lw_p40 : lw_okq (⟨"PedlarPackModel", "packs", "(I)V"⟩, 48) := ⟨⟨by decide +kernel, by decide +kernel⟩, List.mem_of_getElem? (i := 773) (by decide +kernel), List.mem_of_getElem? (i := 1108) (by decide +kernel), List.mem_of_getElem? (i := 1109) (by decide +kernel)⟩
theorem lw_p41 : lw_okq (⟨"PedlarPackModel", "weightOf", "(II)I"⟩, 48) := ⟨⟨by decide +kernel, by decide +kernel⟩, List.mem_of_getElem? (i := 773) (by decide +kernel), List.mem_of_getElem? (i := 1113) (by decide +kernel), List.mem_of_getElem? (i := 1114) (by decide +kernel)⟩
theorem lw_p42 : lw_okq (⟨"PedlarPackModel", "loadedNow", "(I)I"⟩, 48) := ⟨⟨by decide +kernel, by decide +kernel⟩, List.mem_of_getElem? (i := 773) (by decide +kernel), List.mem_of_getElem? (i := 1121) (by decide +kernel), List.mem_of_getElem? (i := 1122) (by decide +kernel)⟩
theorem lw_p43 : lw_okq (⟨"PedlarPackModel", "loads", "()V"⟩, 48) := ⟨⟨by decide +kernel, by decide +kernel⟩, List.mem_of_getElem? (i := 773) (by decide +kernel), List.mem_of_getElem? (i := 1125) (by decide +kernel), List.mem_of_getElem? (i := 1126) (by decide +kernel)⟩
theorem lw_p44 : lw_okq (⟨"PedlarPackModel", "loadNow", "(II)J"⟩, 48) := ⟨⟨by decide +kernel, by decide +kernel⟩, List.mem_of_getElem? (i := 773) (by decide +kernel), List.mem_of_getElem? (i := 1133) (by decide +kernel), List.mem_of_getElem? (i := 1134) (by decide +kernel)⟩
theorem lw_p45 : lw_okq (⟨"PedlarPackModel", "boundNow", "(I)J"⟩, 48) := ⟨⟨by decide +kernel, by decide +kernel⟩, List.mem_of_getElem? (i := 773) (by decide +kernel), List.mem_of_getElem? (i := 1137) (by decide +kernel), List.mem_of_getElem? (i := 1138) (by decide +kernel)⟩
theorem lw_p46 : lw_okq (⟨"PedlarPackModel", "gathers", "()Z"⟩, 48) := ⟨⟨by decide +kernel, by decide +kernel⟩, List.mem_of_getElem? (i := 773) (by decide +kernel), List.mem_of_getElem? (i := 1145) (by decide +kernel), List.mem_of_getElem? (i := 1146) (by decide +kernel)⟩
theorem lw_p47 : lw_okq (⟨"PedlarPackModel", "goesRound", "()V"⟩, 48) := ⟨⟨by decide +kernel, by decide +kernel⟩, List.mem_of_getElem? (i := 773) (by decide +kernel), List.mem_of_getElem? (i := 1149) (by decide +kernel), List.mem_of_getElem? (i := 1150) (by decide +kernel)⟩
def lw_privs_3 : List (MethodName × Nat) := [(⟨"PedlarPackModel", "hoursNow", "()I"⟩, 48), (⟨"PedlarPackModel", "looksAtRow", "()V"⟩, 48), (⟨"PedlarPackModel", "laysWorth", "()V"⟩, 48), (⟨"PedlarPackModel", "hoursFrom", "(I)I"⟩, 48), (⟨"PedlarPackModel", "judgedNow", "()I"⟩, 48), (⟨"PedlarPackModel", "gainNow", "()J"⟩, 48), (⟨"PedlarPackModel", "gainOf", "(II)J"⟩, 48), (⟨"PedlarPackModel", "bestNow", "(I)I"⟩, 48), (⟨"PedlarPackModel", "packs", "(I)V"⟩, 48), (⟨"PedlarPackModel", "weightOf", "(II)I"⟩, 48), (⟨"PedlarPackModel", "loadedNow", "(I)I"⟩, 48), (⟨"PedlarPackModel", "loads", "()V"⟩, 48), (⟨"PedlarPackModel", "loadNow", "(II)J"⟩, 48), (⟨"PedlarPackModel", "boundNow", "(I)J"⟩, 48), (⟨"PedlarPackModel", "gathers", "()Z"⟩, 48), (⟨"PedlarPackModel", "goesRound", "()V"⟩, 48)]
theorem lw_r3 : ∀ q ∈ lw_privs_3, lw_okq q := List.forall_mem_cons.mpr ⟨lw_p32, List.forall_mem_cons.mpr ⟨lw_p33, List.forall_mem_cons.mpr ⟨lw_p34, List.forall_mem_cons.mpr ⟨lw_p35, List.forall_mem_cons.mpr ⟨lw_p36, List.forall_mem_cons.mpr ⟨lw_p37, List.forall_mem_cons.mpr ⟨lw_p38, List.forall_mem_cons.mpr ⟨lw_p39, List.forall_mem_cons.mpr ⟨lw_p40, List.forall_mem_cons.mpr ⟨lw_p41, List.forall_mem_cons.mpr ⟨lw_p42, List.forall_mem_cons.mpr ⟨lw_p43, List.forall_mem_cons.mpr ⟨lw_p44, List.forall_mem_cons.mpr ⟨lw_p45, List.forall_mem_cons.mpr ⟨lw_p46, List.forall_mem_cons.mpr ⟨lw_p47, fun _ h => absurd h List.not_mem_nil⟩⟩⟩⟩⟩⟩⟩⟩⟩⟩⟩⟩⟩⟩⟩⟩
theorem lw_p48 : lw_okq (⟨"PedlarPackModel", "looksAt", "(II)I"⟩, 48) := ⟨⟨by decide +kernel, by decide +kernel⟩, List.mem_of_getElem? (i := 773) (by decide +kernel), List.mem_of_getElem? (i := 1156) (by decide +kernel), List.mem_of_getElem? (i := 1157) (by decide +kernel)⟩
theorem lw_p49 : lw_okq (⟨"PedlarPackModel", "mostGain", "()J"⟩, 48) := ⟨⟨by decide +kernel, by decide +kernel⟩, List.mem_of_getElem? (i := 773) (by decide +kernel), List.mem_of_getElem? (i := 1160) (by decide +kernel), List.mem_of_getElem? (i := 1161) (by decide +kernel)⟩
theorem lw_p50 : lw_okq (⟨"PedlarPackModel", "parted", "()V"⟩, 48) := ⟨⟨by decide +kernel, by decide +kernel⟩, List.mem_of_getElem? (i := 773) (by decide +kernel), List.mem_of_getElem? (i := 1180) (by decide +kernel), List.mem_of_getElem? (i := 1181) (by decide +kernel)⟩
theorem lw_p51 : lw_okq (⟨"PedlarPackModel", "bringsNow", "(I)J"⟩, 48) := ⟨⟨by decide +kernel, by decide +kernel⟩, List.mem_of_getElem? (i := 773) (by decide +kernel), List.mem_of_getElem? (i := 1192) (by decide +kernel), List.mem_of_getElem? (i := 1193) (by decide +kernel)⟩
theorem lw_p52 : lw_okq (⟨"PedlarPackModel", "strapsNow", "()I"⟩, 48) := ⟨⟨by decide +kernel, by decide +kernel⟩, List.mem_of_getElem? (i := 773) (by decide +kernel), List.mem_of_getElem? (i := 1200) (by decide +kernel), List.mem_of_getElem? (i := 1201) (by decide +kernel)⟩
theorem lw_p53 : lw_okq (⟨"PedlarPackModel", "lacks", "(III)I"⟩, 48) := ⟨⟨by decide +kernel, by decide +kernel⟩, List.mem_of_getElem? (i := 773) (by decide +kernel), List.mem_of_getElem? (i := 1216) (by decide +kernel), List.mem_of_getElem? (i := 1217) (by decide +kernel)⟩
theorem lw_p54 : lw_okq (⟨"PedlarPackModel", "keep", "(III)V"⟩, 48) := ⟨⟨by decide +kernel, by decide +kernel⟩, List.mem_of_getElem? (i := 773) (by decide +kernel), List.mem_of_getElem? (i := 1220) (by decide +kernel), List.mem_of_getElem? (i := 1221) (by decide +kernel)⟩
theorem lw_p55 : lw_okq (⟨"PedlarPackModel", "countNow", "(I)I"⟩, 48) := ⟨⟨by decide +kernel, by decide +kernel⟩, List.mem_of_getElem? (i := 773) (by decide +kernel), List.mem_of_getElem? (i := 1241) (by decide +kernel), List.mem_of_getElem? (i := 1242) (by decide +kernel)⟩
def lw_privs_4 : List (MethodName × Nat) := [(⟨"PedlarPackModel", "looksAt", "(II)I"⟩, 48), (⟨"PedlarPackModel", "mostGain", "()J"⟩, 48), (⟨"PedlarPackModel", "parted", "()V"⟩, 48), (⟨"PedlarPackModel", "bringsNow", "(I)J"⟩, 48), (⟨"PedlarPackModel", "strapsNow", "()I"⟩, 48), (⟨"PedlarPackModel", "lacks", "(III)I"⟩, 48), (⟨"PedlarPackModel", "keep", "(III)V"⟩, 48), (⟨"PedlarPackModel", "countNow", "(I)I"⟩, 48)]
theorem lw_r4 : ∀ q ∈ lw_privs_4, lw_okq q := List.forall_mem_cons.mpr ⟨lw_p48, List.forall_mem_cons.mpr ⟨lw_p49, List.forall_mem_cons.mpr ⟨lw_p50, List.forall_mem_cons.mpr ⟨lw_p51, List.forall_mem_cons.mpr ⟨lw_p52, List.forall_mem_cons.mpr ⟨lw_p53, List.forall_mem_cons.mpr ⟨lw_p54, List.forall_mem_cons.mpr ⟨lw_p55, fun _ h => absurd h List.not_mem_nil⟩⟩⟩⟩⟩⟩⟩⟩
def lw_privs : List (MethodName × Nat) := lw_privs_1 ++ (lw_privs_2 ++ (lw_privs_3 ++ (lw_privs_4)))
def lw_tbl : List Cond := k2_sels lw_privs ++ tables_1
theorem lw_privs_ok : ∀ q ∈ lw_privs, lw_okq q := by
  show ∀ q ∈ lw_privs_1 ++ (lw_privs_2 ++ (lw_privs_3 ++ (lw_privs_4))), lw_okq q
  exact List.forall_mem_append.mpr ⟨lw_r1, List.forall_mem_append.mpr ⟨lw_r2, List.forall_mem_append.mpr ⟨lw_r3, lw_r4⟩⟩⟩
-- ===== end of PART A; then your names; then what follows =====
/-! THE CLAIM OUT OF ONE WALK OF THE LAW'S BODY. Your part is whole_start (and what it stands on); all else here is the same for every law, but numbers. -/
end
section
/-! names of the classes and methods, as the claim has them (printed by program of the classes) -/
def RX0 : String := "PedlarPack$Doors"
def TX0 : u_T := fun k => match k with
  | 0 => ("PedlarPack$Doors", "goods", "LPedlarPack$Goods;", true)
  | 1 => ("PedlarPack$Doors", "market", "LPedlarPack$Market;", true)
  | 2 => ("PedlarPack$Doors", "worth", "[[J", true)
  | _ => ("PedlarPack$Doors", "justSold", "[J", true)
def tyX0 : Nat → FieldType := fun k => match k with
  | 0 => .object "PedlarPack$Goods"
  | 1 => .object "PedlarPack$Market"
  | 2 => .array (.array .long)
  | _ => .array .long
theorem nmX0 : ∀ a, a < 4 → ∀ b, b < 4 → a ≠ b → (TX0 a).2.1 ≠ (TX0 b).2.1 := by decide +kernel
theorem tyX0_ok : ∀ k, k < 4 → parseFieldDescriptor (TX0 k).2.2.1 = some (tyX0 k) := by decide +kernel
abbrev cX0_init : ByteArray := prog_2_method_1_code
def yX0_init : MethodName := ⟨RX0, "<init>", "(LPedlarPack$Goods;LPedlarPack$Market;)V"⟩
abbrev cX0_goAlong : ByteArray := prog_2_method_2_code
def yX0_goAlong : MethodName := ⟨RX0, "goAlong", "([II)V"⟩
abbrev cX0_comeHome : ByteArray := prog_2_method_3_code
def yX0_comeHome : MethodName := ⟨RX0, "comeHome", "()V"⟩
abbrev cX0_callAt : ByteArray := prog_2_method_4_code
def yX0_callAt : MethodName := ⟨RX0, "callAt", "(II)V"⟩
abbrev cX0_bestLevel : ByteArray := prog_2_method_5_code
def yX0_bestLevel : MethodName := ⟨RX0, "bestLevel", "(IIII)I"⟩
abbrev cX0_meanAsked : ByteArray := prog_2_method_6_code
def yX0_meanAsked : MethodName := ⟨RX0, "meanAsked", "(IIIII)J"⟩
abbrev cX0_sell : ByteArray := prog_2_method_7_code
def yX0_sell : MethodName := ⟨RX0, "sell", "(III[II)V"⟩
abbrev cX0_meanSold : ByteArray := prog_2_method_8_code
def yX0_meanSold : MethodName := ⟨RX0, "meanSold", "()J"⟩
def RX1 : String := "PedlarPack$Goods"
def TX1 : u_T := fun k => match k with
  | _ => ("PedlarPack$Goods", "told", "[[I", true)
def tyX1 : Nat → FieldType := fun k => match k with
  | _ => .array (.array .int)
theorem nmX1 : ∀ a, a < 1 → ∀ b, b < 1 → a ≠ b → (TX1 a).2.1 ≠ (TX1 b).2.1 := by decide +kernel
theorem tyX1_ok : ∀ k, k < 1 → parseFieldDescriptor (TX1 k).2.2.1 = some (tyX1 k) := by decide +kernel
abbrev cX1_init : ByteArray := prog_3_method_1_code
def yX1_init : MethodName := ⟨RX1, "<init>", "()V"⟩
abbrev cX1_mayBe : ByteArray := prog_3_method_2_code
def yX1_mayBe : MethodName := ⟨RX1, "mayBe", "(III)Z"⟩
abbrev cX1_weightOf : ByteArray := prog_3_method_3_code
def yX1_weightOf : MethodName := ⟨RX1, "weightOf", "([I)I"⟩
def RX2 : String := "PedlarPack$Land"
def TX2 : u_T := fun k => match k with
  | 0 => ("PedlarPack$Land", "roads", "[[I", true)
  | _ => ("PedlarPack$Land", "ways", "[[I", true)
def tyX2 : Nat → FieldType := fun k => match k with
  | 0 => .array (.array .int)
  | _ => .array (.array .int)
theorem nmX2 : ∀ a, a < 2 → ∀ b, b < 2 → a ≠ b → (TX2 a).2.1 ≠ (TX2 b).2.1 := by decide +kernel
theorem tyX2_ok : ∀ k, k < 2 → parseFieldDescriptor (TX2 k).2.2.1 = some (tyX2 k) := by decide +kernel
abbrev cX2_init : ByteArray := prog_4_method_1_code
def yX2_init : MethodName := ⟨RX2, "<init>", "()V"⟩
abbrev cX2_build : ByteArray := prog_4_method_2_code
def yX2_build : MethodName := ⟨RX2, "build", "(III)V"⟩
abbrev cX2_findWays : ByteArray := prog_4_method_3_code
def yX2_findWays : MethodName := ⟨RX2, "findWays", "()V"⟩
abbrev cX2_hoursOf : ByteArray := prog_4_method_4_code
def yX2_hoursOf : MethodName := ⟨RX2, "hoursOf", "([II)I"⟩
abbrev cX2_countRoads : ByteArray := prog_4_method_5_code
def yX2_countRoads : MethodName := ⟨RX2, "countRoads", "()I"⟩
def RX3 : String := "PedlarPack$Line"
def TX3 : u_T := fun k => match k with
  | 0 => ("PedlarPack$Line", "bytes", "[I", true)
  | 1 => ("PedlarPack$Line", "partChances", "[I", true)
  | 2 => ("PedlarPack$Line", "partFarm", "I", false)
  | 3 => ("PedlarPack$Line", "partThing", "I", false)
  | 4 => ("PedlarPack$Line", "partEnd", "I", false)
  | _ => ("PedlarPack$Line", "length", "I", false)
def tyX3 : Nat → FieldType := fun k => match k with
  | 0 => .array .int
  | 1 => .array .int
  | 2 => .int
  | 3 => .int
  | 4 => .int
  | _ => .int
theorem nmX3 : ∀ a, a < 6 → ∀ b, b < 6 → a ≠ b → (TX3 a).2.1 ≠ (TX3 b).2.1 := by decide +kernel
theorem tyX3_ok : ∀ k, k < 6 → parseFieldDescriptor (TX3 k).2.2.1 = some (tyX3 k) := by decide +kernel
abbrev cX3_init : ByteArray := prog_5_method_1_code
def yX3_init : MethodName := ⟨RX3, "<init>", "()V"⟩
abbrev cX3_append : ByteArray := prog_5_method_2_code
def yX3_append : MethodName := ⟨RX3, "append", "(I)Z"⟩
abbrev cX3_findFault : ByteArray := prog_5_method_3_code
def yX3_findFault : MethodName := ⟨RX3, "findFault", "()I"⟩
abbrev cX3_tellTo : ByteArray := prog_5_method_4_code
def yX3_tellTo : MethodName := ⟨RX3, "tellTo", "(LPedlarPack$Market;)I"⟩
abbrev cX3_readPart : ByteArray := prog_5_method_5_code
def yX3_readPart : MethodName := ⟨RX3, "readPart", "(I)I"⟩
abbrev cX3_readChances : ByteArray := prog_5_method_6_code
def yX3_readChances : MethodName := ⟨RX3, "readChances", "(I)I"⟩
abbrev cX3_isAt : ByteArray := prog_5_method_7_code
def yX3_isAt : MethodName := ⟨RX3, "isAt", "(IC)Z"⟩
abbrev cX3_figureAt : ByteArray := prog_5_method_8_code
def yX3_figureAt : MethodName := ⟨RX3, "figureAt", "(I)I"⟩
def RX4 : String := "PedlarPack$Market"
def TX4 : u_T := fun k => match k with
  | 0 => ("PedlarPack$Market", "chances", "[[I", true)
  | _ => ("PedlarPack$Market", "shops", "[I", true)
def tyX4 : Nat → FieldType := fun k => match k with
  | 0 => .array (.array .int)
  | _ => .array .int
theorem nmX4 : ∀ a, a < 2 → ∀ b, b < 2 → a ≠ b → (TX4 a).2.1 ≠ (TX4 b).2.1 := by decide +kernel
theorem tyX4_ok : ∀ k, k < 2 → parseFieldDescriptor (TX4 k).2.2.1 = some (tyX4 k) := by decide +kernel
abbrev cX4_init : ByteArray := prog_6_method_1_code
def yX4_init : MethodName := ⟨RX4, "<init>", "()V"⟩
abbrev cX4_chanceOf : ByteArray := prog_6_method_2_code
def yX4_chanceOf : MethodName := ⟨RX4, "chanceOf", "(III)I"⟩
abbrev cX4_take : ByteArray := prog_6_method_3_code
def yX4_take : MethodName := ⟨RX4, "take", "(II[II)Z"⟩
abbrev cX4_countChances : ByteArray := prog_6_method_4_code
def yX4_countChances : MethodName := ⟨RX4, "countChances", "()I"⟩
def RX5 : String := "PedlarPack$Packer"
def TX5 : u_T := fun k => match k with
  | 0 => ("PedlarPack$Packer", "goods", "LPedlarPack$Goods;", true)
  | 1 => ("PedlarPack$Packer", "gains", "[[J", true)
  | 2 => ("PedlarPack$Packer", "peaks", "[I", true)
  | 3 => ("PedlarPack$Packer", "mostFrom", "[[J", true)
  | 4 => ("PedlarPack$Packer", "stepTaken", "[Z", true)
  | 5 => ("PedlarPack$Packer", "best", "[I", true)
  | 6 => ("PedlarPack$Packer", "loaded", "[I", true)
  | 7 => ("PedlarPack$Packer", "boundAbove", "J", false)
  | _ => ("PedlarPack$Packer", "boundBelow", "J", false)
def tyX5 : Nat → FieldType := fun k => match k with
  | 0 => .object "PedlarPack$Goods"
  | 1 => .array (.array .long)
  | 2 => .array .int
  | 3 => .array (.array .long)
  | 4 => .array .boolean
  | 5 => .array .int
  | 6 => .array .int
  | 7 => .long
  | _ => .long
theorem nmX5 : ∀ a, a < 9 → ∀ b, b < 9 → a ≠ b → (TX5 a).2.1 ≠ (TX5 b).2.1 := by decide +kernel
theorem tyX5_ok : ∀ k, k < 9 → parseFieldDescriptor (TX5 k).2.2.1 = some (tyX5 k) := by decide +kernel
abbrev cX5_init : ByteArray := prog_7_method_1_code
def yX5_init : MethodName := ⟨RX5, "<init>", "(LPedlarPack$Goods;)V"⟩
abbrev cX5_weighGains : ByteArray := prog_7_method_2_code
def yX5_weighGains : MethodName := ⟨RX5, "weighGains", "([J)V"⟩
abbrev cX5_gainOf : ByteArray := prog_7_method_3_code
def yX5_gainOf : MethodName := ⟨RX5, "gainOf", "([I)J"⟩
abbrev cX5_peakGain : ByteArray := prog_7_method_4_code
def yX5_peakGain : MethodName := ⟨RX5, "peakGain", "()J"⟩
abbrev cX5_peaksFit : ByteArray := prog_7_method_5_code
def yX5_peaksFit : MethodName := ⟨RX5, "peaksFit", "(I)Z"⟩
abbrev cX5_mostGain : ByteArray := prog_7_method_6_code
def yX5_mostGain : MethodName := ⟨RX5, "mostGain", "(II)J"⟩
abbrev cX5_fillMost : ByteArray := prog_7_method_7_code
def yX5_fillMost : MethodName := ⟨RX5, "fillMost", "(III)V"⟩
abbrev cX5_chooseBest : ByteArray := prog_7_method_8_code
def yX5_chooseBest : MethodName := ⟨RX5, "chooseBest", "(I)V"⟩
abbrev cX5_leastNumber : ByteArray := prog_7_method_9_code
def yX5_leastNumber : MethodName := ⟨RX5, "leastNumber", "(II)I"⟩
abbrev cX5_stepGain : ByteArray := prog_7_method_10_code
def yX5_stepGain : MethodName := ⟨RX5, "stepGain", "(II)J"⟩
abbrev cX5_chooseLoaded : ByteArray := prog_7_method_11_code
def yX5_chooseLoaded : MethodName := ⟨RX5, "chooseLoaded", "(I)V"⟩
abbrev cX5_nextLoaded : ByteArray := prog_7_method_12_code
def yX5_nextLoaded : MethodName := ⟨RX5, "nextLoaded", "(I)I"⟩
abbrev cX5_findBound : ByteArray := prog_7_method_13_code
def yX5_findBound : MethodName := ⟨RX5, "findBound", "(I)V"⟩
abbrev cX5_nextStep : ByteArray := prog_7_method_14_code
def yX5_nextStep : MethodName := ⟨RX5, "nextStep", "()I"⟩
abbrev cX5_leastBringing : ByteArray := prog_7_method_15_code
def yX5_leastBringing : MethodName := ⟨RX5, "leastBringing", "(I)I"⟩
def RX6 : String := "PedlarPack$Rounds"
def TX6 : u_T := fun k => match k with
  | 0 => ("PedlarPack$Rounds", "land", "LPedlarPack$Land;", true)
  | 1 => ("PedlarPack$Rounds", "doors", "LPedlarPack$Doors;", true)
  | 2 => ("PedlarPack$Rounds", "packer", "LPedlarPack$Packer;", true)
  | 3 => ("PedlarPack$Rounds", "inPack", "[I", true)
  | 4 => ("PedlarPack$Rounds", "most", "[J", true)
  | 5 => ("PedlarPack$Rounds", "codes", "[I", true)
  | 6 => ("PedlarPack$Rounds", "roundsKnown", "Z", false)
  | 7 => ("PedlarPack$Rounds", "withPack", "Z", false)
  | 8 => ("PedlarPack$Rounds", "allowed", "I", false)
  | 9 => ("PedlarPack$Rounds", "start", "I", false)
  | 10 => ("PedlarPack$Rounds", "hoursLeft", "I", false)
  | 11 => ("PedlarPack$Rounds", "limit", "I", false)
  | 12 => ("PedlarPack$Rounds", "firstSet", "I", false)
  | 13 => ("PedlarPack$Rounds", "secondSet", "I", false)
  | _ => ("PedlarPack$Rounds", "bothGain", "J", false)
def tyX6 : Nat → FieldType := fun k => match k with
  | 0 => .object "PedlarPack$Land"
  | 1 => .object "PedlarPack$Doors"
  | 2 => .object "PedlarPack$Packer"
  | 3 => .array .int
  | 4 => .array .long
  | 5 => .array .int
  | 6 => .boolean
  | 7 => .boolean
  | 8 => .int
  | 9 => .int
  | 10 => .int
  | 11 => .int
  | 12 => .int
  | 13 => .int
  | _ => .long
theorem nmX6 : ∀ a, a < 15 → ∀ b, b < 15 → a ≠ b → (TX6 a).2.1 ≠ (TX6 b).2.1 := by decide +kernel
theorem tyX6_ok : ∀ k, k < 15 → parseFieldDescriptor (TX6 k).2.2.1 = some (tyX6 k) := by decide +kernel
abbrev cX6_init : ByteArray := prog_8_method_1_code
def yX6_init : MethodName := ⟨RX6, "<init>", "(LPedlarPack$Land;LPedlarPack$Doors;LPedlarPack$Packer;[I)V"⟩
abbrev cX6_forget : ByteArray := prog_8_method_2_code
def yX6_forget : MethodName := ⟨RX6, "forget", "()V"⟩
abbrev cX6_findRounds : ByteArray := prog_8_method_3_code
def yX6_findRounds : MethodName := ⟨RX6, "findRounds", "(III)V"⟩
abbrev cX6_findOnward : ByteArray := prog_8_method_4_code
def yX6_findOnward : MethodName := ⟨RX6, "findOnward", "(IIII)V"⟩
abbrev cX6_clear : ByteArray := prog_8_method_5_code
def yX6_clear : MethodName := ⟨RX6, "clear", "()V"⟩
abbrev cX6_lengthen : ByteArray := prog_8_method_6_code
def yX6_lengthen : MethodName := ⟨RX6, "lengthen", "(IIIII)V"⟩
abbrev cX6_judge : ByteArray := prog_8_method_7_code
def yX6_judge : MethodName := ⟨RX6, "judge", "(III)V"⟩
abbrev cX6_valueOfPack : ByteArray := prog_8_method_8_code
def yX6_valueOfPack : MethodName := ⟨RX6, "valueOfPack", "([J)J"⟩
abbrev cX6_isBetter : ByteArray := prog_8_method_9_code
def yX6_isBetter : MethodName := ⟨RX6, "isBetter", "(IIJ)Z"⟩
abbrev cX6_keep : ByteArray := prog_8_method_10_code
def yX6_keep : MethodName := ⟨RX6, "keep", "(IIJ)V"⟩
abbrev cX6_bestSet : ByteArray := prog_8_method_11_code
def yX6_bestSet : MethodName := ⟨RX6, "bestSet", "()I"⟩
abbrev cX6_part : ByteArray := prog_8_method_12_code
def yX6_part : MethodName := ⟨RX6, "part", "(I)V"⟩
abbrev cX6_partWith : ByteArray := prog_8_method_13_code
def yX6_partWith : MethodName := ⟨RX6, "partWith", "(II)V"⟩
abbrev cX6_bitOf : ByteArray := prog_8_method_14_code
def yX6_bitOf : MethodName := ⟨RX6, "bitOf", "(I)I"⟩
def RX7 : String := "PedlarPack$Sheets"
def TX7 : u_T := fun k => match k with
  | 0 => ("PedlarPack$Sheets", "items", "[[I", true)
  | 1 => ("PedlarPack$Sheets", "forms", "[I", true)
  | 2 => ("PedlarPack$Sheets", "sizes", "[I", true)
  | _ => ("PedlarPack$Sheets", "latestFinding", "I", false)
def tyX7 : Nat → FieldType := fun k => match k with
  | 0 => .array (.array .int)
  | 1 => .array .int
  | 2 => .array .int
  | _ => .int
theorem nmX7 : ∀ a, a < 4 → ∀ b, b < 4 → a ≠ b → (TX7 a).2.1 ≠ (TX7 b).2.1 := by decide +kernel
theorem tyX7_ok : ∀ k, k < 4 → parseFieldDescriptor (TX7 k).2.2.1 = some (tyX7 k) := by decide +kernel
abbrev cX7_init : ByteArray := prog_9_method_1_code
def yX7_init : MethodName := ⟨RX7, "<init>", "()V"⟩
abbrev cX7_isLost : ByteArray := prog_9_method_2_code
def yX7_isLost : MethodName := ⟨RX7, "isLost", "(I)Z"⟩
abbrev cX7_found : ByteArray := prog_9_method_3_code
def yX7_found : MethodName := ⟨RX7, "found", "(I)I"⟩
abbrev cX7_renew : ByteArray := prog_9_method_4_code
def yX7_renew : MethodName := ⟨RX7, "renew", "(III)V"⟩
abbrev cX7_findingAt : ByteArray := prog_9_method_5_code
def yX7_findingAt : MethodName := ⟨RX7, "findingAt", "(III)I"⟩
abbrev cX7_hasItems : ByteArray := prog_9_method_6_code
def yX7_hasItems : MethodName := ⟨RX7, "hasItems", "(III)Z"⟩
abbrev cX7_lay : ByteArray := prog_9_method_7_code
def yX7_lay : MethodName := ⟨RX7, "lay", "(III)V"⟩
def RX8 : String := "PedlarPack"
def TX8 : u_T := fun k => match k with
  | 0 => ("PedlarPack", "goods", "LPedlarPack$Goods;", true)
  | 1 => ("PedlarPack", "land", "LPedlarPack$Land;", true)
  | 2 => ("PedlarPack", "market", "LPedlarPack$Market;", true)
  | 3 => ("PedlarPack", "line", "LPedlarPack$Line;", true)
  | 4 => ("PedlarPack", "sheets", "LPedlarPack$Sheets;", true)
  | 5 => ("PedlarPack", "doors", "LPedlarPack$Doors;", true)
  | 6 => ("PedlarPack", "packer", "LPedlarPack$Packer;", true)
  | 7 => ("PedlarPack", "farmsInRow", "[I", true)
  | 8 => ("PedlarPack", "inPack", "[I", true)
  | 9 => ("PedlarPack", "search", "LPedlarPack$Rounds;", true)
  | 10 => ("PedlarPack", "rowLength", "I", false)
  | 11 => ("PedlarPack", "dayHours", "I", false)
  | 12 => ("PedlarPack", "packLimit", "I", false)
  | _ => ("PedlarPack", "openFarms", "I", false)
def tyX8 : Nat → FieldType := fun k => match k with
  | 0 => .object "PedlarPack$Goods"
  | 1 => .object "PedlarPack$Land"
  | 2 => .object "PedlarPack$Market"
  | 3 => .object "PedlarPack$Line"
  | 4 => .object "PedlarPack$Sheets"
  | 5 => .object "PedlarPack$Doors"
  | 6 => .object "PedlarPack$Packer"
  | 7 => .array .int
  | 8 => .array .int
  | 9 => .object "PedlarPack$Rounds"
  | 10 => .int
  | 11 => .int
  | 12 => .int
  | _ => .int
theorem nmX8 : ∀ a, a < 14 → ∀ b, b < 14 → a ≠ b → (TX8 a).2.1 ≠ (TX8 b).2.1 := by decide +kernel
theorem tyX8_ok : ∀ k, k < 14 → parseFieldDescriptor (TX8 k).2.2.1 = some (tyX8 k) := by decide +kernel
abbrev cX8_init : ByteArray := prog_1_method_1_code
def yX8_init : MethodName := ⟨RX8, "<init>", "()V"⟩
abbrev cX8_thing : ByteArray := prog_1_method_2_code
def yX8_thing : MethodName := ⟨RX8, "thing", "(III)I"⟩
abbrev cX8_road : ByteArray := prog_1_method_3_code
def yX8_road : MethodName := ⟨RX8, "road", "(III)I"⟩
abbrev cX8_way : ByteArray := prog_1_method_4_code
def yX8_way : MethodName := ⟨RX8, "way", "(II)I"⟩
abbrev cX8_set : ByteArray := prog_1_method_5_code
def yX8_set : MethodName := ⟨RX8, "set", "(II)I"⟩
abbrev cX8_type : ByteArray := prog_1_method_6_code
def yX8_type : MethodName := ⟨RX8, "type", "(I)I"⟩
abbrev cX8_wipe : ByteArray := prog_1_method_7_code
def yX8_wipe : MethodName := ⟨RX8, "wipe", "()I"⟩
abbrev cX8_fault : ByteArray := prog_1_method_8_code
def yX8_fault : MethodName := ⟨RX8, "fault", "()I"⟩
abbrev cX8_wants : ByteArray := prog_1_method_9_code
def yX8_wants : MethodName := ⟨RX8, "wants", "()I"⟩
abbrev cX8_read : ByteArray := prog_1_method_10_code
def yX8_read : MethodName := ⟨RX8, "read", "(II)I"⟩
abbrev cX8_chance : ByteArray := prog_1_method_11_code
def yX8_chance : MethodName := ⟨RX8, "chance", "(III)I"⟩
abbrev cX8_shop : ByteArray := prog_1_method_12_code
def yX8_shop : MethodName := ⟨RX8, "shop", "(II)I"⟩
abbrev cX8_row : ByteArray := prog_1_method_13_code
def yX8_row : MethodName := ⟨RX8, "row", "(I)I"⟩
abbrev cX8_pack : ByteArray := prog_1_method_14_code
def yX8_pack : MethodName := ⟨RX8, "pack", "(I)I"⟩
abbrev cX8_judged : ByteArray := prog_1_method_15_code
def yX8_judged : MethodName := ⟨RX8, "judged", "()I"⟩
abbrev cX8_hours : ByteArray := prog_1_method_16_code
def yX8_hours : MethodName := ⟨RX8, "hours", "()I"⟩
abbrev cX8_sold : ByteArray := prog_1_method_17_code
def yX8_sold : MethodName := ⟨RX8, "sold", "(IIIII)J"⟩
abbrev cX8_ask : ByteArray := prog_1_method_18_code
def yX8_ask : MethodName := ⟨RX8, "ask", "(III)I"⟩
abbrev cX8_value : ByteArray := prog_1_method_19_code
def yX8_value : MethodName := ⟨RX8, "value", "(IIII)J"⟩
abbrev cX8_gain : ByteArray := prog_1_method_20_code
def yX8_gain : MethodName := ⟨RX8, "gain", "(I)J"⟩
abbrev cX8_best : ByteArray := prog_1_method_21_code
def yX8_best : MethodName := ⟨RX8, "best", "(I)I"⟩
abbrev cX8_load : ByteArray := prog_1_method_22_code
def yX8_load : MethodName := ⟨RX8, "load", "(II)J"⟩
abbrev cX8_loaded : ByteArray := prog_1_method_23_code
def yX8_loaded : MethodName := ⟨RX8, "loaded", "(I)I"⟩
abbrev cX8_round : ByteArray := prog_1_method_24_code
def yX8_round : MethodName := ⟨RX8, "round", "(I)I"⟩
abbrev cX8_rounds : ByteArray := prog_1_method_25_code
def yX8_rounds : MethodName := ⟨RX8, "rounds", "(I)J"⟩
abbrev cX8_onward : ByteArray := prog_1_method_26_code
def yX8_onward : MethodName := ⟨RX8, "onward", "(II)I"⟩
abbrev cX8_trust : ByteArray := prog_1_method_27_code
def yX8_trust : MethodName := ⟨RX8, "trust", "(IIIII)I"⟩
abbrev cX8_two : ByteArray := prog_1_method_28_code
def yX8_two : MethodName := ⟨RX8, "two", "(I)I"⟩
abbrev cX8_both : ByteArray := prog_1_method_29_code
def yX8_both : MethodName := ⟨RX8, "both", "(I)J"⟩
abbrev cX8_brings : ByteArray := prog_1_method_30_code
def yX8_brings : MethodName := ⟨RX8, "brings", "(II)J"⟩
abbrev cX8_straps : ByteArray := prog_1_method_31_code
def yX8_straps : MethodName := ⟨RX8, "straps", "()I"⟩
abbrev cX8_sheet : ByteArray := prog_1_method_32_code
def yX8_sheet : MethodName := ⟨RX8, "sheet", "(III)I"⟩
abbrev cX8_lose : ByteArray := prog_1_method_33_code
def yX8_lose : MethodName := ⟨RX8, "lose", "(I)I"⟩
abbrev cX8_put : ByteArray := prog_1_method_34_code
def yX8_put : MethodName := ⟨RX8, "put", "(IIII)I"⟩
abbrev cX8_get : ByteArray := prog_1_method_35_code
def yX8_get : MethodName := ⟨RX8, "get", "(III)I"⟩
abbrev cX8_copy : ByteArray := prog_1_method_36_code
def yX8_copy : MethodName := ⟨RX8, "copy", "(IIIII)I"⟩
abbrev cX8_write : ByteArray := prog_1_method_37_code
def yX8_write : MethodName := ⟨RX8, "write", "(I)I"⟩
abbrev cX8_count : ByteArray := prog_1_method_38_code
def yX8_count : MethodName := ⟨RX8, "count", "(I)I"⟩
abbrev cX8_digest : ByteArray := prog_1_method_39_code
def yX8_digest : MethodName := ⟨RX8, "digest", "()J"⟩
abbrev cX8_within : ByteArray := prog_1_method_40_code
def yX8_within : MethodName := ⟨RX8, "within", "(III)Z"⟩
abbrev cX8_isThing : ByteArray := prog_1_method_41_code
def yX8_isThing : MethodName := ⟨RX8, "isThing", "(I)Z"⟩
abbrev cX8_isLevel : ByteArray := prog_1_method_42_code
def yX8_isLevel : MethodName := ⟨RX8, "isLevel", "(I)Z"⟩
abbrev cX8_isNumber : ByteArray := prog_1_method_43_code
def yX8_isNumber : MethodName := ⟨RX8, "isNumber", "(I)Z"⟩
abbrev cX8_isPlace : ByteArray := prog_1_method_44_code
def yX8_isPlace : MethodName := ⟨RX8, "isPlace", "(I)Z"⟩
abbrev cX8_isFarm : ByteArray := prog_1_method_45_code
def yX8_isFarm : MethodName := ⟨RX8, "isFarm", "(I)Z"⟩
abbrev cX8_isSheet : ByteArray := prog_1_method_46_code
def yX8_isSheet : MethodName := ⟨RX8, "isSheet", "(I)Z"⟩
abbrev cX8_isForm : ByteArray := prog_1_method_47_code
def yX8_isForm : MethodName := ⟨RX8, "isForm", "(I)Z"⟩
abbrev cX8_isTerm : ByteArray := prog_1_method_48_code
def yX8_isTerm : MethodName := ⟨RX8, "isTerm", "(I)Z"⟩
abbrev cX8_refusal : ByteArray := prog_1_method_49_code
def yX8_refusal : MethodName := ⟨RX8, "refusal", "(I)J"⟩
abbrev cX8_term : ByteArray := prog_1_method_50_code
def yX8_term : MethodName := ⟨RX8, "term", "(JJI)J"⟩
abbrev cX8_sharedDivisor : ByteArray := prog_1_method_51_code
def yX8_sharedDivisor : MethodName := ⟨RX8, "sharedDivisor", "(JJ)J"⟩
abbrev cX8_areFarms : ByteArray := prog_1_method_52_code
def yX8_areFarms : MethodName := ⟨RX8, "areFarms", "([II)Z"⟩
abbrev cX8_farmsOf : ByteArray := prog_1_method_53_code
def yX8_farmsOf : MethodName := ⟨RX8, "farmsOf", "(I)I"⟩
abbrev cX8_farmOf : ByteArray := prog_1_method_54_code
def yX8_farmOf : MethodName := ⟨RX8, "farmOf", "(II)I"⟩
abbrev cX8_tooManyOpen : ByteArray := prog_1_method_55_code
def yX8_tooManyOpen : MethodName := ⟨RX8, "tooManyOpen", "()Z"⟩
abbrev cX8_weighUp : ByteArray := prog_1_method_56_code
def yX8_weighUp : MethodName := ⟨RX8, "weighUp", "()V"⟩
abbrev cX8_numberOrWeight : ByteArray := prog_1_method_57_code
def yX8_numberOrWeight : MethodName := ⟨RX8, "numberOrWeight", "([II)I"⟩
abbrev cX8_loadTerm : ByteArray := prog_1_method_58_code
def yX8_loadTerm : MethodName := ⟨RX8, "loadTerm", "(II)J"⟩
def RX9 : String := "PedlarPackModel"
def TX9 : u_T := fun k => match k with
  | 0 => ("PedlarPackModel", "cost", "[I", true)
  | 1 => ("PedlarPackModel", "weight", "[I", true)
  | 2 => ("PedlarPackModel", "loss", "[I", true)
  | 3 => ("PedlarPackModel", "price", "[I", true)
  | 4 => ("PedlarPackModel", "roads", "[I", true)
  | 5 => ("PedlarPackModel", "ways", "[I", true)
  | 6 => ("PedlarPackModel", "day", "I", false)
  | 7 => ("PedlarPackModel", "limit", "I", false)
  | 8 => ("PedlarPackModel", "open", "I", false)
  | 9 => ("PedlarPackModel", "wanted", "[I", true)
  | 10 => ("PedlarPackModel", "shops", "[I", true)
  | 11 => ("PedlarPackModel", "typed", "I", false)
  | 12 => ("PedlarPackModel", "text", "[I", true)
  | 13 => ("PedlarPackModel", "at", "I", false)
  | 14 => ("PedlarPackModel", "fault", "I", false)
  | 15 => ("PedlarPackModel", "parts", "I", false)
  | 16 => ("PedlarPackModel", "partFarm", "[I", true)
  | 17 => ("PedlarPackModel", "partThing", "[I", true)
  | 18 => ("PedlarPackModel", "partChance", "[I", true)
  | 19 => ("PedlarPackModel", "rowMany", "I", false)
  | 20 => ("PedlarPackModel", "rowOf", "[I", true)
  | 21 => ("PedlarPackModel", "pack", "[I", true)
  | 22 => ("PedlarPackModel", "lookMany", "I", false)
  | 23 => ("PedlarPackModel", "look", "[I", true)
  | 24 => ("PedlarPackModel", "worth", "[J", true)
  | 25 => ("PedlarPackModel", "asked", "[I", true)
  | 26 => ("PedlarPackModel", "just", "[J", true)
  | 27 => ("PedlarPackModel", "bestPack", "[I", true)
  | 28 => ("PedlarPackModel", "bestGain", "J", false)
  | 29 => ("PedlarPackModel", "load", "[I", true)
  | 30 => ("PedlarPackModel", "loadWeight", "I", false)
  | 31 => ("PedlarPackModel", "openFarm", "[I", true)
  | 32 => ("PedlarPackModel", "openMany", "I", false)
  | 33 => ("PedlarPackModel", "knap", "[J", true)
  | 34 => ("PedlarPackModel", "roundMany", "I", false)
  | 35 => ("PedlarPackModel", "roundRow", "[I", true)
  | 36 => ("PedlarPackModel", "roundGain", "J", false)
  | 37 => ("PedlarPackModel", "setGain", "[J", true)
  | 38 => ("PedlarPackModel", "bestOne", "I", false)
  | 39 => ("PedlarPackModel", "bestTwo", "I", false)
  | 40 => ("PedlarPackModel", "bestBoth", "J", false)
  | 41 => ("PedlarPackModel", "packed", "[I", true)
  | 42 => ("PedlarPackModel", "isThere", "[Z", true)
  | 43 => ("PedlarPackModel", "forms", "[I", true)
  | 44 => ("PedlarPackModel", "sizes", "[I", true)
  | 45 => ("PedlarPackModel", "items", "[I", true)
  | 46 => ("PedlarPackModel", "moved", "[I", true)
  | _ => ("PedlarPackModel", "finding", "I", false)
def tyX9 : Nat → FieldType := fun k => match k with
  | 0 => .array .int
  | 1 => .array .int
  | 2 => .array .int
  | 3 => .array .int
  | 4 => .array .int
  | 5 => .array .int
  | 6 => .int
  | 7 => .int
  | 8 => .int
  | 9 => .array .int
  | 10 => .array .int
  | 11 => .int
  | 12 => .array .int
  | 13 => .int
  | 14 => .int
  | 15 => .int
  | 16 => .array .int
  | 17 => .array .int
  | 18 => .array .int
  | 19 => .int
  | 20 => .array .int
  | 21 => .array .int
  | 22 => .int
  | 23 => .array .int
  | 24 => .array .long
  | 25 => .array .int
  | 26 => .array .long
  | 27 => .array .int
  | 28 => .long
  | 29 => .array .int
  | 30 => .int
  | 31 => .array .int
  | 32 => .int
  | 33 => .array .long
  | 34 => .int
  | 35 => .array .int
  | 36 => .long
  | 37 => .array .long
  | 38 => .int
  | 39 => .int
  | 40 => .long
  | 41 => .array .int
  | 42 => .array .boolean
  | 43 => .array .int
  | 44 => .array .int
  | 45 => .array .int
  | 46 => .array .int
  | _ => .int
theorem nmX9 : ∀ a, a < 48 → ∀ b, b < 48 → a ≠ b → (TX9 a).2.1 ≠ (TX9 b).2.1 := by decide +kernel
theorem tyX9_ok : ∀ k, k < 48 → parseFieldDescriptor (TX9 k).2.2.1 = some (tyX9 k) := by decide +kernel
abbrev cX9_init : ByteArray := prog_11_method_1_code
def yX9_init : MethodName := ⟨RX9, "<init>", "()V"⟩
abbrev cX9_in : ByteArray := prog_11_method_3_code
def yX9_in : MethodName := ⟨RX9, "in", "(III)Z"⟩
abbrev cX9_no : ByteArray := prog_11_method_4_code
def yX9_no : MethodName := ⟨RX9, "no", "(I)J"⟩
abbrev cX9_lowest : ByteArray := prog_11_method_5_code
def yX9_lowest : MethodName := ⟨RX9, "lowest", "(JJI)J"⟩
abbrev cX9_sixteen : ByteArray := prog_11_method_6_code
def yX9_sixteen : MethodName := ⟨RX9, "sixteen", "(I)J"⟩
abbrev cX9_isThing : ByteArray := prog_11_method_8_code
def yX9_isThing : MethodName := ⟨RX9, "isThing", "(I)Z"⟩
abbrev cX9_isPlace : ByteArray := prog_11_method_9_code
def yX9_isPlace : MethodName := ⟨RX9, "isPlace", "(I)Z"⟩
abbrev cX9_isFarm : ByteArray := prog_11_method_10_code
def yX9_isFarm : MethodName := ⟨RX9, "isFarm", "(I)Z"⟩
abbrev cX9_thingNow : ByteArray := prog_11_method_11_code
def yX9_thingNow : MethodName := ⟨RX9, "thingNow", "(II)I"⟩
abbrev cX9_thing : ByteArray := prog_11_method_12_code
def yX9_thing : MethodName := ⟨RX9, "thing", "(III)I"⟩
abbrev cX9_road : ByteArray := prog_11_method_13_code
def yX9_road : MethodName := ⟨RX9, "road", "(III)I"⟩
abbrev cX9_laysWays : ByteArray := prog_11_method_14_code
def yX9_laysWays : MethodName := ⟨RX9, "laysWays", "()V"⟩
abbrev cX9_way : ByteArray := prog_11_method_15_code
def yX9_way : MethodName := ⟨RX9, "way", "(II)I"⟩
abbrev cX9_set : ByteArray := prog_11_method_16_code
def yX9_set : MethodName := ⟨RX9, "set", "(II)I"⟩
abbrev cX9_type : ByteArray := prog_11_method_17_code
def yX9_type : MethodName := ⟨RX9, "type", "(I)I"⟩
abbrev cX9_wipe : ByteArray := prog_11_method_18_code
def yX9_wipe : MethodName := ⟨RX9, "wipe", "()I"⟩
abbrev cX9_byteNow : ByteArray := prog_11_method_19_code
def yX9_byteNow : MethodName := ⟨RX9, "byteNow", "()I"⟩
abbrev cX9_expects : ByteArray := prog_11_method_20_code
def yX9_expects : MethodName := ⟨RX9, "expects", "(I)V"⟩
abbrev cX9_number : ByteArray := prog_11_method_21_code
def yX9_number : MethodName := ⟨RX9, "number", "(III)I"⟩
abbrev cX9_part : ByteArray := prog_11_method_22_code
def yX9_part : MethodName := ⟨RX9, "part", "()V"⟩
abbrev cX9_faultNow : ByteArray := prog_11_method_23_code
def yX9_faultNow : MethodName := ⟨RX9, "faultNow", "()I"⟩
abbrev cX9_fault : ByteArray := prog_11_method_24_code
def yX9_fault : MethodName := ⟨RX9, "fault", "()I"⟩
abbrev cX9_place : ByteArray := prog_11_method_25_code
def yX9_place : MethodName := ⟨RX9, "place", "(II)I"⟩
abbrev cX9_wants : ByteArray := prog_11_method_26_code
def yX9_wants : MethodName := ⟨RX9, "wants", "()I"⟩
abbrev cX9_read : ByteArray := prog_11_method_27_code
def yX9_read : MethodName := ⟨RX9, "read", "(II)I"⟩
abbrev cX9_chanceNow : ByteArray := prog_11_method_28_code
def yX9_chanceNow : MethodName := ⟨RX9, "chanceNow", "(III)I"⟩
abbrev cX9_chance : ByteArray := prog_11_method_29_code
def yX9_chance : MethodName := ⟨RX9, "chance", "(III)I"⟩
abbrev cX9_shop : ByteArray := prog_11_method_30_code
def yX9_shop : MethodName := ⟨RX9, "shop", "(II)I"⟩
abbrev cX9_row : ByteArray := prog_11_method_31_code
def yX9_row : MethodName := ⟨RX9, "row", "(I)I"⟩
abbrev cX9_packWeight : ByteArray := prog_11_method_32_code
def yX9_packWeight : MethodName := ⟨RX9, "packWeight", "()I"⟩
abbrev cX9_pack : ByteArray := prog_11_method_33_code
def yX9_pack : MethodName := ⟨RX9, "pack", "(I)I"⟩
abbrev cX9_spot : ByteArray := prog_11_method_34_code
def yX9_spot : MethodName := ⟨RX9, "spot", "(III)I"⟩
abbrev cX9_looksAtRow : ByteArray := prog_11_method_35_code
def yX9_looksAtRow : MethodName := ⟨RX9, "looksAtRow", "()V"⟩
abbrev cX9_laysWorth : ByteArray := prog_11_method_36_code
def yX9_laysWorth : MethodName := ⟨RX9, "laysWorth", "()V"⟩
abbrev cX9_hoursFrom : ByteArray := prog_11_method_37_code
def yX9_hoursFrom : MethodName := ⟨RX9, "hoursFrom", "(I)I"⟩
abbrev cX9_hoursNow : ByteArray := prog_11_method_38_code
def yX9_hoursNow : MethodName := ⟨RX9, "hoursNow", "()I"⟩
abbrev cX9_hours : ByteArray := prog_11_method_39_code
def yX9_hours : MethodName := ⟨RX9, "hours", "()I"⟩
abbrev cX9_judgedNow : ByteArray := prog_11_method_40_code
def yX9_judgedNow : MethodName := ⟨RX9, "judgedNow", "()I"⟩
abbrev cX9_judged : ByteArray := prog_11_method_41_code
def yX9_judged : MethodName := ⟨RX9, "judged", "()I"⟩
abbrev cX9_sold : ByteArray := prog_11_method_42_code
def yX9_sold : MethodName := ⟨RX9, "sold", "(IIIII)J"⟩
abbrev cX9_ask : ByteArray := prog_11_method_43_code
def yX9_ask : MethodName := ⟨RX9, "ask", "(III)I"⟩
abbrev cX9_value : ByteArray := prog_11_method_44_code
def yX9_value : MethodName := ⟨RX9, "value", "(IIII)J"⟩
abbrev cX9_gainOf : ByteArray := prog_11_method_45_code
def yX9_gainOf : MethodName := ⟨RX9, "gainOf", "(II)J"⟩
abbrev cX9_gainNow : ByteArray := prog_11_method_46_code
def yX9_gainNow : MethodName := ⟨RX9, "gainNow", "()J"⟩
abbrev cX9_gain : ByteArray := prog_11_method_47_code
def yX9_gain : MethodName := ⟨RX9, "gain", "(I)J"⟩
abbrev cX9_packs : ByteArray := prog_11_method_48_code
def yX9_packs : MethodName := ⟨RX9, "packs", "(I)V"⟩
abbrev cX9_weightOf : ByteArray := prog_11_method_49_code
def yX9_weightOf : MethodName := ⟨RX9, "weightOf", "(II)I"⟩
abbrev cX9_bestNow : ByteArray := prog_11_method_50_code
def yX9_bestNow : MethodName := ⟨RX9, "bestNow", "(I)I"⟩
abbrev cX9_best : ByteArray := prog_11_method_51_code
def yX9_best : MethodName := ⟨RX9, "best", "(I)I"⟩
abbrev cX9_loads : ByteArray := prog_11_method_52_code
def yX9_loads : MethodName := ⟨RX9, "loads", "()V"⟩
abbrev cX9_loadedNow : ByteArray := prog_11_method_53_code
def yX9_loadedNow : MethodName := ⟨RX9, "loadedNow", "(I)I"⟩
abbrev cX9_loaded : ByteArray := prog_11_method_54_code
def yX9_loaded : MethodName := ⟨RX9, "loaded", "(I)I"⟩
abbrev cX9_boundNow : ByteArray := prog_11_method_55_code
def yX9_boundNow : MethodName := ⟨RX9, "boundNow", "(I)J"⟩
abbrev cX9_loadNow : ByteArray := prog_11_method_56_code
def yX9_loadNow : MethodName := ⟨RX9, "loadNow", "(II)J"⟩
abbrev cX9_load : ByteArray := prog_11_method_57_code
def yX9_load : MethodName := ⟨RX9, "load", "(II)J"⟩
abbrev cX9_gathers : ByteArray := prog_11_method_58_code
def yX9_gathers : MethodName := ⟨RX9, "gathers", "()Z"⟩
abbrev cX9_looksAt : ByteArray := prog_11_method_59_code
def yX9_looksAt : MethodName := ⟨RX9, "looksAt", "(II)I"⟩
abbrev cX9_mostGain : ByteArray := prog_11_method_60_code
def yX9_mostGain : MethodName := ⟨RX9, "mostGain", "()J"⟩
abbrev cX9_fives : ByteArray := prog_11_method_61_code
def yX9_fives : MethodName := ⟨RX9, "fives", "(I)I"⟩
abbrev cX9_goesRound : ByteArray := prog_11_method_62_code
def yX9_goesRound : MethodName := ⟨RX9, "goesRound", "()V"⟩
abbrev cX9_round : ByteArray := prog_11_method_63_code
def yX9_round : MethodName := ⟨RX9, "round", "(I)I"⟩
abbrev cX9_rounds : ByteArray := prog_11_method_64_code
def yX9_rounds : MethodName := ⟨RX9, "rounds", "(I)J"⟩
abbrev cX9_onward : ByteArray := prog_11_method_65_code
def yX9_onward : MethodName := ⟨RX9, "onward", "(II)I"⟩
abbrev cX9_trust : ByteArray := prog_11_method_66_code
def yX9_trust : MethodName := ⟨RX9, "trust", "(IIIII)I"⟩
abbrev cX9_parted : ByteArray := prog_11_method_67_code
def yX9_parted : MethodName := ⟨RX9, "parted", "()V"⟩
abbrev cX9_two : ByteArray := prog_11_method_68_code
def yX9_two : MethodName := ⟨RX9, "two", "(I)I"⟩
abbrev cX9_both : ByteArray := prog_11_method_69_code
def yX9_both : MethodName := ⟨RX9, "both", "(I)J"⟩
abbrev cX9_bringsNow : ByteArray := prog_11_method_70_code
def yX9_bringsNow : MethodName := ⟨RX9, "bringsNow", "(I)J"⟩
abbrev cX9_brings : ByteArray := prog_11_method_71_code
def yX9_brings : MethodName := ⟨RX9, "brings", "(II)J"⟩
abbrev cX9_strapsNow : ByteArray := prog_11_method_72_code
def yX9_strapsNow : MethodName := ⟨RX9, "strapsNow", "()I"⟩
abbrev cX9_straps : ByteArray := prog_11_method_73_code
def yX9_straps : MethodName := ⟨RX9, "straps", "()I"⟩
abbrev cX9_meets : ByteArray := prog_11_method_74_code
def yX9_meets : MethodName := ⟨RX9, "meets", "(I)I"⟩
abbrev cX9_isSheet : ByteArray := prog_11_method_75_code
def yX9_isSheet : MethodName := ⟨RX9, "isSheet", "(I)Z"⟩
abbrev cX9_sheet : ByteArray := prog_11_method_76_code
def yX9_sheet : MethodName := ⟨RX9, "sheet", "(III)I"⟩
abbrev cX9_lose : ByteArray := prog_11_method_77_code
def yX9_lose : MethodName := ⟨RX9, "lose", "(I)I"⟩
abbrev cX9_lacks : ByteArray := prog_11_method_78_code
def yX9_lacks : MethodName := ⟨RX9, "lacks", "(III)I"⟩
abbrev cX9_keep : ByteArray := prog_11_method_79_code
def yX9_keep : MethodName := ⟨RX9, "keep", "(III)V"⟩
abbrev cX9_put : ByteArray := prog_11_method_80_code
def yX9_put : MethodName := ⟨RX9, "put", "(IIII)I"⟩
abbrev cX9_get : ByteArray := prog_11_method_81_code
def yX9_get : MethodName := ⟨RX9, "get", "(III)I"⟩
abbrev cX9_copy : ByteArray := prog_11_method_82_code
def yX9_copy : MethodName := ⟨RX9, "copy", "(IIIII)I"⟩
abbrev cX9_write : ByteArray := prog_11_method_83_code
def yX9_write : MethodName := ⟨RX9, "write", "(I)I"⟩
abbrev cX9_countNow : ByteArray := prog_11_method_84_code
def yX9_countNow : MethodName := ⟨RX9, "countNow", "(I)I"⟩
abbrev cX9_count : ByteArray := prog_11_method_85_code
def yX9_count : MethodName := ⟨RX9, "count", "(I)I"⟩
abbrev cX9_digest : ByteArray := prog_11_method_86_code
def yX9_digest : MethodName := ⟨RX9, "digest", "()J"⟩
def RJ6 : String := "java/lang/Integer"
def TJ6 : u_T := fun k => match k with
  | _ => ("", "", "", false)
def tyJ6 : Nat → FieldType := fun k => match k with
  | _ => .int
abbrev cJ6_bitCount_0f7a4 : ByteArray := prog_12_method_49_code
def yJ6_bitCount_0f7a4 : MethodName := ⟨RJ6, "bitCount", "(I)I"⟩
def RJ9 : String := "java/lang/Math"
def TJ9 : u_T := fun k => match k with
  | _ => ("", "", "", false)
def tyJ9 : Nat → FieldType := fun k => match k with
  | _ => .int
abbrev cJ9_abs_067f4 : ByteArray := prog_13_method_61_code
def yJ9_abs_067f4 : MethodName := ⟨RJ9, "abs", "(J)J"⟩
abbrev cJ9_max_f86c9 : ByteArray := prog_13_method_66_code
def yJ9_max_f86c9 : MethodName := ⟨RJ9, "max", "(JJ)J"⟩
abbrev cJ9_min_7cf53 : ByteArray := prog_13_method_69_code
def yJ9_min_7cf53 : MethodName := ⟨RJ9, "min", "(II)I"⟩
def RJ10 : String := "java/lang/System"
def TJ10 : u_T := fun k => match k with
  | _ => ("", "", "", false)
def tyJ10 : Nat → FieldType := fun k => match k with
  | _ => .int
def RL : String := "PedlarPackLaw"
abbrev cL_law : ByteArray := code
/-- the classes whose objects the worlds hold -/
abbrev pp_cl : List vw_C := [(RX0, TX0, 4), (RX1, TX1, 1), (RX2, TX2, 2), (RX3, TX3, 6), (RX4, TX4, 2), (RX5, TX5, 9), (RX6, TX6, 15), (RX7, TX7, 4), (RX8, TX8, 14), (RX9, TX9, 48)]
/-- the words of the tables that a call carries over -/
def pp_tb : List Cond := lw_tbl.filter goodWord
end
section
/-! values (an int, a long, a reference: token, offset, length), memory, worlds -/
abbrev pp_V : Type := Int32 ⊕ Int64 ⊕ (Nat × Nat × Nat)
def ppI (x : Int32) : pp_V := .inl x
def ppL (x : Int64) : pp_V := .inr (.inl x)
def ppR (t o n : Nat) : pp_V := .inr (.inr (t, o, n))
abbrev pp_M : Type := (Nat → Nat → Int32) × (Nat → Nat → Int64)
def ppS (σ : pp_M) (t i : Nat) (x : Int32) : pp_M := (fun a b => if a = t ∧ b = i then x else σ.1 a b, σ.2)
def ppT (σ : pp_M) (t i : Nat) (x : Int64) : pp_M := (σ.1, fun a b => if a = t ∧ b = i then x else σ.2 a b)
/-- n ints of row (t, o) from i on come to row (u, q) from j on -/
def ppC (σ : pp_M) (t o u q i j n : Nat) : pp_M := (fun a b => if a = u ∧ q + j ≤ b ∧ b < q + j + n then σ.1 t (o + i + (b - (q + j))) else σ.1 a b, σ.2)
def ppv (ad : Nat → Nat → Nat) : pp_V → Value
  | .inl x => .int x
  | .inr (.inl x) => .long x
  | .inr (.inr (t, o, _)) => .ref (ad t o)
/-- the static shape of the worlds: kind (0 an object, 1 ints, 2 longs, 3 booleans, 4 and 5 rows of rows), class or rows, width, fields -/
def pp_sh : List (Nat × Nat × Nat × List (Nat × Nat × Nat × Nat)) := [
  (0, 8, 14, [(2, 1, 0, 0), (2, 4, 0, 0), (2, 9, 0, 0), (2, 13, 0, 0), (2, 16, 0, 0), (2, 21, 0, 0), (2, 25, 0, 0), (2, 34, 0, 7), (2, 35, 0, 6), (2, 36, 0, 0), (0, 0, 0, 0), (0, 0, 0, 0), (0, 0, 0, 0), (0, 0, 0, 0)]),
  (0, 1, 1, [(2, 2, 0, 6)]),
  (4, 6, 6, [(3, 0, 0, 0)]),
  (1, 6, 6, []),
  (0, 2, 2, [(2, 5, 0, 8), (2, 7, 0, 8)]),
  (4, 8, 8, [(6, 0, 0, 0)]),
  (1, 8, 8, []),
  (4, 8, 8, [(8, 0, 0, 0)]),
  (1, 8, 8, []),
  (0, 4, 2, [(2, 10, 0, 48), (2, 12, 0, 6)]),
  (4, 48, 3, [(11, 0, 0, 0)]),
  (1, 48, 3, []),
  (1, 1, 6, []),
  (0, 3, 6, [(2, 14, 0, 40), (2, 15, 0, 3), (0, 0, 0, 0), (0, 0, 0, 0), (0, 0, 0, 0), (0, 0, 0, 0)]),
  (1, 1, 40, []),
  (1, 1, 3, []),
  (0, 7, 4, [(2, 17, 0, 4), (2, 19, 0, 4), (2, 20, 0, 4), (0, 0, 0, 0)]),
  (4, 4, 40, [(18, 0, 0, 0)]),
  (1, 4, 40, []),
  (1, 1, 4, []),
  (1, 1, 4, []),
  (0, 0, 4, [(2, 1, 0, 0), (2, 9, 0, 0), (2, 22, 0, 8), (2, 24, 0, 5)]),
  (5, 8, 30, [(23, 0, 0, 0)]),
  (2, 8, 30, []),
  (2, 1, 5, []),
  (0, 5, 9, [(2, 1, 0, 0), (2, 26, 0, 6), (2, 28, 0, 6), (2, 29, 0, 7), (2, 31, 0, 24), (2, 32, 0, 6), (2, 33, 0, 6), (1, 0, 0, 0), (1, 0, 0, 0)]),
  (5, 6, 5, [(27, 0, 0, 0)]),
  (2, 6, 5, []),
  (1, 1, 6, []),
  (5, 7, 101, [(30, 0, 0, 0)]),
  (2, 7, 101, []),
  (3, 1, 24, []),
  (1, 1, 6, []),
  (1, 1, 6, []),
  (1, 1, 7, []),
  (1, 1, 6, []),
  (0, 6, 15, [(2, 4, 0, 0), (2, 21, 0, 0), (2, 25, 0, 0), (2, 35, 0, 6), (2, 37, 0, 128), (2, 38, 0, 128), (0, 0, 0, 0), (0, 0, 0, 0), (0, 0, 0, 0), (0, 0, 0, 0), (0, 0, 0, 0), (0, 0, 0, 0), (0, 0, 0, 0), (0, 0, 0, 0), (1, 0, 0, 0)]),
  (2, 1, 128, []),
  (1, 1, 128, []),
  (9, 0, 0, []),
  (0, 9, 48, [(2, 41, 0, 6), (2, 42, 0, 6), (2, 43, 0, 6), (2, 44, 0, 18), (2, 45, 0, 64), (2, 46, 0, 64), (0, 0, 0, 0), (0, 0, 0, 0), (0, 0, 0, 0), (2, 47, 0, 144), (2, 48, 0, 6), (0, 0, 0, 0), (2, 49, 0, 40), (0, 0, 0, 0), (0, 0, 0, 0), (0, 0, 0, 0), (2, 50, 0, 10), (2, 51, 0, 10), (2, 52, 0, 30), (0, 0, 0, 0), (2, 53, 0, 7), (2, 54, 0, 6), (0, 0, 0, 0), (2, 55, 0, 7), (2, 56, 0, 240), (2, 57, 0, 240), (2, 58, 0, 5), (2, 59, 0, 6), (1, 0, 0, 0), (2, 60, 0, 6), (0, 0, 0, 0), (2, 61, 0, 7), (0, 0, 0, 0), (2, 62, 0, 101), (0, 0, 0, 0), (2, 63, 0, 5), (1, 0, 0, 0), (2, 64, 0, 32), (0, 0, 0, 0), (0, 0, 0, 0), (1, 0, 0, 0), (2, 65, 0, 6), (2, 66, 0, 4), (2, 67, 0, 4), (2, 68, 0, 4), (2, 69, 0, 160), (2, 70, 0, 40), (0, 0, 0, 0)]),
  (1, 1, 6, []),
  (1, 1, 6, []),
  (1, 1, 6, []),
  (1, 1, 18, []),
  (1, 1, 64, []),
  (1, 1, 64, []),
  (1, 1, 144, []),
  (1, 1, 6, []),
  (1, 1, 40, []),
  (1, 1, 10, []),
  (1, 1, 10, []),
  (1, 1, 30, []),
  (1, 1, 7, []),
  (1, 1, 6, []),
  (1, 1, 7, []),
  (2, 1, 240, []),
  (1, 1, 240, []),
  (2, 1, 5, []),
  (1, 1, 6, []),
  (1, 1, 6, []),
  (1, 1, 7, []),
  (2, 1, 101, []),
  (1, 1, 5, []),
  (2, 1, 32, []),
  (1, 1, 6, []),
  (3, 1, 4, []),
  (1, 1, 4, []),
  (1, 1, 4, []),
  (1, 1, 160, []),
  (1, 1, 40, [])]
def dsK : List (Nat × Nat) := [(0, 0), (1, 0), (2, 0), (3, 0), (3, 6), (3, 12), (3, 18), (3, 24), (3, 30), (4, 0), (5, 0), (6, 0), (6, 8), (6, 16), (6, 24), (6, 32), (6, 40), (6, 48), (6, 56), (7, 0), (8, 0), (8, 8), (8, 16), (8, 24), (8, 32), (8, 40), (8, 48), (8, 56), (9, 0), (10, 0), (11, 0), (11, 3), (11, 6), (11, 9), (11, 12), (11, 15), (11, 18), (11, 21), (11, 24), (11, 27), (11, 30), (11, 33), (11, 36), (11, 39), (11, 42), (11, 45), (11, 48), (11, 51), (11, 54), (11, 57), (11, 60), (11, 63), (11, 66), (11, 69), (11, 72), (11, 75), (11, 78), (11, 81), (11, 84), (11, 87), (11, 90), (11, 93), (11, 96), (11, 99), (11, 102), (11, 105), (11, 108), (11, 111), (11, 114), (11, 117), (11, 120), (11, 123), (11, 126), (11, 129), (11, 132), (11, 135), (11, 138), (11, 141), (12, 0), (13, 0), (14, 0), (15, 0), (16, 0), (17, 0), (18, 0), (18, 40), (18, 80), (18, 120), (19, 0), (20, 0), (21, 0), (22, 0), (23, 0), (23, 30), (23, 60), (23, 90), (23, 120), (23, 150), (23, 180), (23, 210), (24, 0), (25, 0), (26, 0), (27, 0), (27, 5), (27, 10), (27, 15), (27, 20), (27, 25), (28, 0), (29, 0), (30, 0), (30, 101), (30, 202), (30, 303), (30, 404), (30, 505), (30, 606), (31, 0), (32, 0), (33, 0), (34, 0), (35, 0), (36, 0), (37, 0), (38, 0)]
def dsM : List (Nat × Nat) := [(40, 0), (41, 0), (42, 0), (43, 0), (44, 0), (45, 0), (46, 0), (47, 0), (48, 0), (49, 0), (50, 0), (51, 0), (52, 0), (53, 0), (54, 0), (55, 0), (56, 0), (57, 0), (58, 0), (59, 0), (60, 0), (61, 0), (62, 0), (63, 0), (64, 0), (65, 0), (66, 0), (67, 0), (68, 0), (69, 0), (70, 0)]
def dsG : List (Nat × Nat) := [(1, 0), (2, 0), (3, 0), (3, 6), (3, 12), (3, 18), (3, 24), (3, 30)]
def dsN : List (Nat × Nat) := [(4, 0), (5, 0), (6, 0), (6, 8), (6, 16), (6, 24), (6, 32), (6, 40), (6, 48), (6, 56), (7, 0), (8, 0), (8, 8), (8, 16), (8, 24), (8, 32), (8, 40), (8, 48), (8, 56)]
def dsQ : List (Nat × Nat) := [(9, 0), (10, 0), (11, 0), (11, 3), (11, 6), (11, 9), (11, 12), (11, 15), (11, 18), (11, 21), (11, 24), (11, 27), (11, 30), (11, 33), (11, 36), (11, 39), (11, 42), (11, 45), (11, 48), (11, 51), (11, 54), (11, 57), (11, 60), (11, 63), (11, 66), (11, 69), (11, 72), (11, 75), (11, 78), (11, 81), (11, 84), (11, 87), (11, 90), (11, 93), (11, 96), (11, 99), (11, 102), (11, 105), (11, 108), (11, 111), (11, 114), (11, 117), (11, 120), (11, 123), (11, 126), (11, 129), (11, 132), (11, 135), (11, 138), (11, 141), (12, 0)]
def dsI : List (Nat × Nat) := [(13, 0), (14, 0), (15, 0)]
def dsH : List (Nat × Nat) := [(16, 0), (17, 0), (18, 0), (18, 40), (18, 80), (18, 120), (19, 0), (20, 0)]
def dsD : List (Nat × Nat) := [(1, 0), (9, 0), (21, 0), (22, 0), (23, 0), (23, 30), (23, 60), (23, 90), (23, 120), (23, 150), (23, 180), (23, 210), (24, 0)]

def pp_e (t : Nat) : Nat × Nat × Nat × List (Nat × Nat × Nat × Nat) := pp_sh.getD t (9, 0, 0, [])
/-- class numbers, slots, addresses; the classes of int[], long[], boolean[], int[][], long[][] -/
abbrev pp_X : Type := (Nat → ClassId) × (Nat → Nat → Nat) × (Nat → Nat → Nat) × ClassId × ClassId × ClassId × ClassId × ClassId
def pp_ty (X : pp_X) : List (ClassId × FieldType) := [(X.2.2.2.1, .int), (X.2.2.2.2.1, .long), (X.2.2.2.2.2.1, .boolean), (X.2.2.2.2.2.2.1, .array .int), (X.2.2.2.2.2.2.2, .array .long)]
def pp_fv (ad : Nat → Nat → Nat) (σ : pp_M) (t j : Nat) (f : Nat × Nat × Nat × Nat) : Value := match f.1 with
  | 0 => .int (σ.1 t j)
  | 1 => .long (σ.2 t j)
  | _ => .ref (ad f.2.1 f.2.2.1)
def pp_fl (ad : Nat → Nat → Nat) (σ : pp_M) (t : Nat) : Nat → List (Nat × Nat × Nat × Nat) → List Value
  | _, [] => []
  | j, f :: l => pp_fv ad σ t j f :: pp_fl ad σ t (j + 1) l
def pp_cellOf (X : pp_X) (σ : pp_M) (t o : Nat) (q : Nat × Nat × Nat × List (Nat × Nat × Nat × Nat)) : va_E := match q.1 with
  | 0 => .inr (q.2.1, pp_fl X.2.2.1 σ t 0 q.2.2.2)
  | 1 => .inl (X.2.2.2.1, q.2.2.1, .inl (fun j => if j < q.2.2.1 then σ.1 t (o + j) else 0))
  | 2 => .inl (X.2.2.2.2.1, q.2.2.1, .inr (.inl (fun j => if j < q.2.2.1 then σ.2 t (o + j) else 0)))
  | 3 => .inl (X.2.2.2.2.2.1, q.2.2.1, .inl (fun j => if j < q.2.2.1 then σ.1 t (o + j) else 0))
  | 4 => .inl (X.2.2.2.2.2.2.1, q.2.1, .inr (.inr (.inr (.inr (fun i => if i < q.2.1 then some (X.2.2.1 (q.2.2.2.getD 0 (0, 0, 0, 0)).1 (i * q.2.2.1)) else none)))))
  | _ => .inl (X.2.2.2.2.2.2.2, q.2.1, .inr (.inr (.inr (.inr (fun i => if i < q.2.1 then some (X.2.2.1 (q.2.2.2.getD 0 (0, 0, 0, 0)).1 (i * q.2.2.1)) else none)))))
def pp_cell (X : pp_X) (σ : pp_M) (t o : Nat) : va_E := pp_cellOf X σ t o (pp_e t)
def pp_wd (X : pp_X) (ds : List (Nat × Nat)) (σ : pp_M) : va_W := ds.map (fun d => (X.2.2.1 d.1 d.2, pp_cell X σ d.1 d.2))
def pp_A (X : pp_X) (ds : List (Nat × Nat)) : Nat → Prop := fun q => ∃ d ∈ ds, q = X.2.2.1 d.1 d.2
/-- different cells have different addresses; no cell stands twice in the list -/
def pp_inj (X : pp_X) (ds : List (Nat × Nat)) : Prop := ∀ (i j : Nat) (d d' : Nat × Nat), ds[i]? = some d → ds[j]? = some d' → X.2.2.1 d.1 d.2 = X.2.2.1 d'.1 d'.2 → i = j
/-- rows of a token lie at its multiples of the width -/
def pp_row (d : Nat × Nat) : Prop := d.2 % (pp_e d.1).2.2.1 = 0
theorem pp_wd_at {X : pp_X} {ds : List (Nat × Nat)} {σ : pp_M} {t o : Nat} (h : (t, o) ∈ ds) : ∃ k : Nat, ds[k]? = some (t, o) ∧ (pp_wd X ds σ)[k]? = some (X.2.2.1 t o, pp_cell X σ t o) := by
  obtain ⟨k, hk⟩ := List.getElem?_of_mem h
  exact ⟨k, hk, by unfold pp_wd; rw [List.getElem?_map, hk]; rfl⟩
theorem pp_wd_D {X : pp_X} {ds : List (Nat × Nat)} {σ : pp_M} {A : Nat → Prop} (hi : pp_inj X ds) (hA : ∀ q, pp_A X ds q → A q) : va_D A (pp_wd X ds σ) := by
  have key : ∀ (k : Nat) (q : Nat × va_E), (pp_wd X ds σ)[k]? = some q → ∃ d, ds[k]? = some d ∧ q.1 = X.2.2.1 d.1 d.2 := by
    intro k q hk
    unfold pp_wd at hk
    rw [List.getElem?_map] at hk
    cases hd : ds[k]? with
    | none => rw [hd] at hk; cases hk
    | some d => rw [hd] at hk; cases hk; exact ⟨d, rfl, rfl⟩
  refine ⟨fun i j p q h1 h2 h3 => ?_, fun k q hk => ?_⟩
  · obtain ⟨d, e1, e2⟩ := key i p h1
    obtain ⟨d', e3, e4⟩ := key j q h2
    exact hi i j d d' e1 e3 (e2.symm.trans (h3.trans e4))
  · obtain ⟨d, e1, e2⟩ := key k q hk
    exact hA q.1 ⟨d, List.mem_of_getElem? e1, e2⟩
/-- one cell changes: the world with the memory that tells so -/
theorem pp_wd_set {X : pp_X} {ds : List (Nat × Nat)} {σ σ' : pp_M} {t o k : Nat} {a : Nat} {e : va_E} (hk : ds[k]? = some (t, o)) (hi : pp_inj X ds) (ha : a = X.2.2.1 t o) (he : e = pp_cell X σ' t o) (ho : ∀ d ∈ ds, d ≠ (t, o) → pp_cell X σ' d.1 d.2 = pp_cell X σ d.1 d.2) : (pp_wd X ds σ).set k (a, e) = pp_wd X ds σ' := by
  have hl := (List.getElem?_eq_some_iff.mp hk).1
  apply List.ext_getElem?
  intro j
  by_cases hj : j = k
  · subst hj
    rw [List.getElem?_set_self (by unfold pp_wd; rw [List.length_map]; exact hl)]
    unfold pp_wd
    rw [List.getElem?_map, hk, ha, he]
    rfl
  · rw [List.getElem?_set_ne (Ne.symm hj)]
    unfold pp_wd
    rw [List.getElem?_map, List.getElem?_map]
    cases hd : ds[j]? with
    | none => rfl
    | some d =>
      have hne : d ≠ (t, o) := fun h => hj (hi j k d (t, o) hd hk (by rw [h]))
      simp only [Option.map_some]
      rw [ho d (List.mem_of_getElem? hd) hne]
theorem pp_fl_at (ad : Nat → Nat → Nat) (σ : pp_M) (t : Nat) : ∀ (l : List (Nat × Nat × Nat × Nat)) (j k : Nat), (pp_fl ad σ t j l)[k]? = (l[k]?).map (pp_fv ad σ t (j + k))
  | [], j, k => by simp [pp_fl]
  | f :: l, j, 0 => by simp [pp_fl]
  | f :: l, j, k + 1 => by
    simp only [pp_fl, List.getElem?_cons_succ]
    rw [pp_fl_at ad σ t l (j + 1) k]
    rw [show j + 1 + k = j + (k + 1) by omega]
theorem pp_fl_len (ad : Nat → Nat → Nat) (σ : pp_M) (t : Nat) : ∀ (l : List (Nat × Nat × Nat × Nat)) (j : Nat), (pp_fl ad σ t j l).length = l.length
  | [], j => rfl
  | f :: l, j => by simp only [pp_fl, List.length_cons]; rw [pp_fl_len ad σ t l (j + 1)]
end
section
/-! the judgement pp_E: a method's body at a place, with locals, stack and memory in my own words; a rule an instruction -/
/-- the machine: program .. code, the end, cells and slots made so far, what may change -/
abbrev pp_Y : Type := Program × Launch × Env × Room × State × MethodId × Array Value × List Frame × Method × Code × (State → Prop) × Nat × Nat × (Nat → Prop)
abbrev pp_G : Type := pp_Y × pp_X
def pp_ok (ds : List (Nat × Nat)) : Prop := ∀ d ∈ ds, ((pp_e d.1).1 = 0 → d.2 = 0) ∧ d.2 % (pp_e d.1).2.2.1 = 0
def pp_nb : List (String × Nat × MethodName) := [("PedlarPack", 27, ⟨"PedlarPack$Market", "<init>", "()V"⟩), ("PedlarPack", 34, ⟨"PedlarPack$Line", "<init>", "()V"⟩), ("PedlarPack$Goods", 16, ⟨"PedlarPack", "within", "(III)Z"⟩), ("PedlarPack$Line", 58, ⟨"PedlarPack", "within", "(III)Z"⟩), ("PedlarPack$Line", 44, ⟨"PedlarPack", "isFarm", "(I)Z"⟩), ("PedlarPack$Line", 52, ⟨"PedlarPack", "isThing", "(I)Z"⟩), ("PedlarPack$Market", 20, ⟨"PedlarPack", "within", "(III)Z"⟩), ("PedlarPack$Sheets", 31, ⟨"PedlarPack", "within", "(III)Z"⟩)]
/-- links to private members of nest mates -/
def pp_Nw (U : State) : Prop := ∀ q ∈ pp_nb, va_Nw (.methodLinkNest q.1 q.2.1 q.2.2 "PedlarPack") U
theorem pp_Nw.warm {s U : State} (hW : s.WarmedH U.vm) (h : pp_Nw s) : pp_Nw U := fun q hq => va_Nw.warmM hW (h q hq)
theorem pp_Nw.same {u U : State} (e : u.vm = U.vm) (h : pp_Nw u) : pp_Nw U := fun q hq => va_Nw.same rfl e (h q hq)
def pp_lv (X : pp_X) (lv : List (Nat × pp_V)) : List (Nat × Value) := lv.map (fun q => (q.1, ppv X.2.2.1 q.2))
def pp_Fx (Γ : pp_G) (ds : List (Nat × Nat)) (cc : ByteArray) (nL : Nat) (own : String) (F L : Nat) : Prop := match Γ with
  | ((p, l, e, R, s, m, args, below, meth, c, Q, cl, sl, A), X) => p.tables.exec = Jvm.exec ∧ c.code = cc ∧ c.maxLocals = nL ∧ s.vm.findClass own = some m.cls ∧ (∀ w ∈ pp_tb, w.before args s = true) ∧ va_K (X.1, X.2.1) pp_cl (pp_ty X) s ∧ (pp_inj X ds ∧ pp_ok ds ∧ ∀ q, pp_A X ds q → A q) ∧ (F ≤ R.frames ∧ L ≤ R.locals) ∧ (cl ≤ R.cells ∧ sl ≤ R.slots) ∧ meth.locks = false ∧ pp_Nw s
def pp_E (Γ : pp_G) (ds : List (Nat × Nat)) (cc : ByteArray) (nL : Nat) (pc : Nat) (lv : List (Nat × pp_V)) (st : List pp_V) (σ : pp_M) : Prop := match Γ with
  | ((p, l, e, R, s, m, args, below, meth, c, Q, cl, sl, A), X) => ∀ (H : Heap) (locs : List Loc) (ls : Array Slot), va_P (X.1, X.2.1) pp_cl (pp_wd X ds σ) H → va_S A s.heap H locs → lv_has ls nL (pp_lv X lv) → W p l e R s m args below meth c H locs cl sl Q (F0 m pc ls (st.map (ppv X.2.2.1)))
def pp_Qc (X : pp_X) (ds : List (Nat × Nat)) (A : Nat → Prop) (r : Option pp_V) (σ : pp_M) : Array Value → State → Outcome → State → Prop := fun _ st oc t => oc = .returned (r.map (ppv X.2.2.1)) ∧ va_P (X.1, X.2.1) pp_cl (pp_wd X ds σ) t.heap ∧ va_K (X.1, X.2.1) pp_cl (pp_ty X) t ∧ va_F A st t
/-- the end that is due: the answer r, the memory σ -/
def pp_Rt (Γ : pp_G) (ds : List (Nat × Nat)) (ret : Option FieldType) (r : Option pp_V) (σ : pp_M) : Prop := match Γ with
  | ((p, l, e, R, s, m, args, below, meth, c, Q, cl, sl, A), X) => meth.sig.returnType = ret ∧ Q = MQ below (pp_Qc X ds A r σ) args s cl sl A
-- locals
def pp_at : List (Nat × pp_V) → Nat → Option pp_V
  | [], _ => none
  | q :: l, i => cond (Nat.beq q.1 i) (some q.2) (pp_at l i)
def pp_isL : pp_V → Bool
  | .inr (.inl _) => true
  | _ => false
def pp_kp (i : Nat) (b : Bool) (q : Nat × pp_V) : Bool := !(Nat.beq q.1 i) && (!(b && Nat.beq q.1 (i + 1)) && !(Nat.beq (q.1 + 1) i && pp_isL q.2))
def pp_ins (i : Nat) (v : pp_V) : List (Nat × pp_V) → List (Nat × pp_V)
  | [] => [(i, v)]
  | q :: l => cond (Nat.blt q.1 i) (q :: pp_ins i v l) ((i, v) :: q :: l)
def pp_put (i : Nat) (v : pp_V) (lv : List (Nat × pp_V)) : List (Nat × pp_V) := pp_ins i v (lv.filter (pp_kp i (pp_isL v)))
theorem pp_bq (a b : Nat) : (a == b) = Nat.beq a b := by
  by_cases e : a = b
  · subst e; rw [beq_self_eq_true]; exact (Nat.beq_refl a).symm
  · rw [beq_eq_false_iff_ne.mpr e]
    cases h : Nat.beq a b with
    | false => rfl
    | true => exact absurd (Nat.eq_of_beq_eq_true h) e
theorem pp_at_mem : ∀ {lv : List (Nat × pp_V)} {i : Nat} {v : pp_V}, pp_at lv i = some v → (i, v) ∈ lv
  | [], i, v, h => by simp [pp_at] at h
  | q :: l, i, v, h => by
    unfold pp_at at h
    cases hb : Nat.beq q.1 i with
    | true =>
      rw [hb] at h
      have e : q.1 = i := Nat.eq_of_beq_eq_true hb
      have e2 : q.2 = v := Option.some.inj h
      rw [← e, ← e2]
      exact List.mem_cons_self
    | false =>
      rw [hb] at h
      exact List.mem_cons_of_mem _ (pp_at_mem h)
theorem pp_ins_mem {i : Nat} {v : pp_V} : ∀ {l : List (Nat × pp_V)} {q : Nat × pp_V}, q ∈ pp_ins i v l → q = (i, v) ∨ q ∈ l
  | [], q, h => Or.inl (List.mem_singleton.mp h)
  | x :: l, q, h => by
    unfold pp_ins at h
    cases hb : Nat.blt x.1 i with
    | true =>
      rw [hb] at h
      rcases List.mem_cons.mp h with h | h
      · exact Or.inr (by rw [h]; exact List.mem_cons_self)
      · rcases pp_ins_mem h with h | h
        · exact Or.inl h
        · exact Or.inr (List.mem_cons_of_mem _ h)
    | false =>
      rw [hb] at h
      rcases List.mem_cons.mp h with h | h
      · exact Or.inl h
      · exact Or.inr h
theorem pp_has_sub {ls : Array Slot} {n : Nat} {l l' : List (Nat × Value)} (h : lv_has ls n l) (hs : ∀ q ∈ l', q ∈ l) : lv_has ls n l' := ⟨h.1, h.2.1, fun q hq => h.2.2 q (hs q hq)⟩
theorem pp_has_at {ls : Array Slot} {n : Nat} {X : pp_X} {lv : List (Nat × pp_V)} {i : Nat} {v : pp_V} (h : lv_has ls n (pp_lv X lv)) (hv : pp_at lv i = some v) : ls[i]? = some (.val (ppv X.2.2.1 v)) := h.2.2 (i, ppv X.2.2.1 v) (List.mem_map.mpr ⟨(i, v), pp_at_mem hv, rfl⟩)
theorem pp_cat (ad : Nat → Nat → Nat) (v : pp_V) : ((ppv ad v).category == 2) = pp_isL v := by
  rcases v with x | x | ⟨t, o, n⟩ <;> rfl
theorem pp_put1 {ls : Array Slot} {n : Nat} {X : pp_X} {lv lv' : List (Nat × pp_V)} {i : Nat} {v : pp_V} (hv : pp_isL v = false) (hl : pp_put i v lv = lv') (h : lv_has ls n ((i, ppv X.2.2.1 v) :: (pp_lv X lv).filter (fun q => !(q.1 == i) && !(q.1 + 1 == i && q.2.category == 2)))) : lv_has ls n (pp_lv X lv') := by
  refine pp_has_sub h (fun q hq => ?_)
  subst hl
  obtain ⟨q0, h0, rfl⟩ := List.mem_map.mp hq
  rcases pp_ins_mem h0 with h1 | h1
  · subst h1; exact List.mem_cons_self
  · obtain ⟨h2, h3⟩ := List.mem_filter.mp h1
    refine List.mem_cons_of_mem _ (List.mem_filter.mpr ⟨List.mem_map.mpr ⟨q0, h2, rfl⟩, ?_⟩)
    unfold pp_kp at h3
    rw [hv] at h3
    simp only [Bool.false_and, Bool.not_false, Bool.true_and] at h3
    show (!(q0.1 == i) && !(q0.1 + 1 == i && ((ppv X.2.2.1 q0.2).category == 2))) = true
    rw [pp_cat, pp_bq, pp_bq]
    exact h3
theorem pp_put2 {ls : Array Slot} {n : Nat} {X : pp_X} {lv lv' : List (Nat × pp_V)} {i : Nat} {v : pp_V} (hv : pp_isL v = true) (hl : pp_put i v lv = lv') (h : lv_has ls n ((i, ppv X.2.2.1 v) :: (pp_lv X lv).filter (fun q => !(q.1 == i) && (!(q.1 == i + 1) && !(q.1 + 1 == i && q.2.category == 2))))) : lv_has ls n (pp_lv X lv') := by
  refine pp_has_sub h (fun q hq => ?_)
  subst hl
  obtain ⟨q0, h0, rfl⟩ := List.mem_map.mp hq
  rcases pp_ins_mem h0 with h1 | h1
  · subst h1; exact List.mem_cons_self
  · obtain ⟨h2, h3⟩ := List.mem_filter.mp h1
    refine List.mem_cons_of_mem _ (List.mem_filter.mpr ⟨List.mem_map.mpr ⟨q0, h2, rfl⟩, ?_⟩)
    unfold pp_kp at h3
    rw [hv] at h3
    simp only [Bool.true_and] at h3
    show (!(q0.1 == i) && (!(q0.1 == i + 1) && !(q0.1 + 1 == i && ((ppv X.2.2.1 q0.2).category == 2)))) = true
    rw [pp_cat, pp_bq, pp_bq, pp_bq]
    exact h3
section PPE
variable {Γ : pp_G} {ds : List (Nat × Nat)} {cc : ByteArray} {nL : Nat} {own : String} {F L pc : Nat} {lv lv' : List (Nat × pp_V)} {st : List pp_V} {σ : pp_M}
theorem pp_iconst {n : Int} {v : Int32} (hF : pp_Fx Γ ds cc nL own F L) (d : decode cc pc = .ok (.iconst n, 1)) (hv : Int32.ofInt n = v) (k : pp_E Γ ds cc nL (pc + 1) lv (ppI v :: st) σ) : pp_E Γ ds cc nL pc lv st σ := by
  obtain ⟨⟨p, l, e, R, s, m, args, below, meth, c, Q, cl, sl, A⟩, X⟩ := Γ
  intro H locs ls hP hS hl
  exact lv_iconst hF.1 hF.2.1 d hv (k H locs ls hP hS hl)
theorem pp_bipush {n : Int} {v : Int32} (hF : pp_Fx Γ ds cc nL own F L) (d : decode cc pc = .ok (.bipush n, 2)) (hv : (Int8.ofInt n).toInt32 = v) (k : pp_E Γ ds cc nL (pc + 2) lv (ppI v :: st) σ) : pp_E Γ ds cc nL pc lv st σ := by
  obtain ⟨⟨p, l, e, R, s, m, args, below, meth, c, Q, cl, sl, A⟩, X⟩ := Γ
  intro H locs ls hP hS hl
  exact lv_bipush hF.1 hF.2.1 d hv (k H locs ls hP hS hl)
theorem pp_sipush {n : Int} {v : Int32} (hF : pp_Fx Γ ds cc nL own F L) (d : decode cc pc = .ok (.sipush n, 3)) (hv : (Int16.ofInt n).toInt32 = v) (k : pp_E Γ ds cc nL (pc + 3) lv (ppI v :: st) σ) : pp_E Γ ds cc nL pc lv st σ := by
  obtain ⟨⟨p, l, e, R, s, m, args, below, meth, c, Q, cl, sl, A⟩, X⟩ := Γ
  intro H locs ls hP hS hl
  exact lv_sipush hF.1 hF.2.1 d hv (k H locs ls hP hS hl)
theorem pp_lconst {n : Fin 2} {v : Int64} (hF : pp_Fx Γ ds cc nL own F L) (d : decode cc pc = .ok (.lconst n, 1)) (hv : Int64.ofNat (n : Nat) = v) (k : pp_E Γ ds cc nL (pc + 1) lv (ppL v :: st) σ) : pp_E Γ ds cc nL pc lv st σ := by
  obtain ⟨⟨p, l, e, R, s, m, args, below, meth, c, Q, cl, sl, A⟩, X⟩ := Γ
  intro H locs ls hP hS hl
  exact lv_lconst hF.1 hF.2.1 d hv (k H locs ls hP hS hl)
theorem pp_ldcw {i : Nat} {v : Int32} (hF : pp_Fx Γ ds cc nL own F L) (hw : Cond.constant own i v ∈ pp_tb) (d : decode cc pc = .ok (.ldc_w i, 3)) (k : pp_E Γ ds cc nL (pc + 3) lv (ppI v :: st) σ) : pp_E Γ ds cc nL pc lv st σ := by
  obtain ⟨⟨p, l, e, R, s, m, args, below, meth, c, Q, cl, sl, A⟩, X⟩ := Γ
  intro H locs ls hP hS hl
  exact lv_ldcw hF.1 hF.2.1 hF.2.2.2.1 (hF.2.2.2.2.1 _ hw) d (k H locs ls hP hS hl)
theorem pp_ldc2 {i : Nat} {v : Int64} (hF : pp_Fx Γ ds cc nL own F L) (hw : Cond.constantLong own i v ∈ pp_tb) (d : decode cc pc = .ok (.ldc2_w i, 3)) (k : pp_E Γ ds cc nL (pc + 3) lv (ppL v :: st) σ) : pp_E Γ ds cc nL pc lv st σ := by
  obtain ⟨⟨p, l, e, R, s, m, args, below, meth, c, Q, cl, sl, A⟩, X⟩ := Γ
  intro H locs ls hP hS hl
  exact lv_ldc2 hF.1 hF.2.1 hF.2.2.2.1 (hF.2.2.2.2.1 _ hw) d (k H locs ls hP hS hl)
theorem pp_iload_n {j : Fin 4} {i : Nat} {x : Int32} (hF : pp_Fx Γ ds cc nL own F L) (d : decode cc pc = .ok (.iload_n j, 1)) (hi : (j : Nat) = i) (ha : pp_at lv i = some (ppI x)) (k : pp_E Γ ds cc nL (pc + 1) lv (ppI x :: st) σ) : pp_E Γ ds cc nL pc lv st σ := by
  obtain ⟨⟨p, l, e, R, s, m, args, below, meth, c, Q, cl, sl, A⟩, X⟩ := Γ
  intro H locs ls hP hS hl
  exact lv_iload_n hF.1 hF.2.1 d hi (pp_has_at hl ha) (k H locs ls hP hS hl)
theorem pp_iload {i : Nat} {x : Int32} (hF : pp_Fx Γ ds cc nL own F L) (d : decode cc pc = .ok (.iload i, 2)) (ha : pp_at lv i = some (ppI x)) (k : pp_E Γ ds cc nL (pc + 2) lv (ppI x :: st) σ) : pp_E Γ ds cc nL pc lv st σ := by
  obtain ⟨⟨p, l, e, R, s, m, args, below, meth, c, Q, cl, sl, A⟩, X⟩ := Γ
  intro H locs ls hP hS hl
  exact lv_iload hF.1 hF.2.1 d (pp_has_at hl ha) (k H locs ls hP hS hl)
theorem pp_lload_n {j : Fin 4} {i : Nat} {x : Int64} (hF : pp_Fx Γ ds cc nL own F L) (d : decode cc pc = .ok (.lload_n j, 1)) (hi : (j : Nat) = i) (ha : pp_at lv i = some (ppL x)) (k : pp_E Γ ds cc nL (pc + 1) lv (ppL x :: st) σ) : pp_E Γ ds cc nL pc lv st σ := by
  obtain ⟨⟨p, l, e, R, s, m, args, below, meth, c, Q, cl, sl, A⟩, X⟩ := Γ
  intro H locs ls hP hS hl
  exact lv_lload_n hF.1 hF.2.1 d hi (pp_has_at hl ha) (k H locs ls hP hS hl)
theorem pp_lload {i : Nat} {x : Int64} (hF : pp_Fx Γ ds cc nL own F L) (d : decode cc pc = .ok (.lload i, 2)) (ha : pp_at lv i = some (ppL x)) (k : pp_E Γ ds cc nL (pc + 2) lv (ppL x :: st) σ) : pp_E Γ ds cc nL pc lv st σ := by
  obtain ⟨⟨p, l, e, R, s, m, args, below, meth, c, Q, cl, sl, A⟩, X⟩ := Γ
  intro H locs ls hP hS hl
  exact lv_lload hF.1 hF.2.1 d (pp_has_at hl ha) (k H locs ls hP hS hl)
theorem pp_aload_n {j : Fin 4} {i t o n : Nat} (hF : pp_Fx Γ ds cc nL own F L) (d : decode cc pc = .ok (.aload_n j, 1)) (hi : (j : Nat) = i) (ha : pp_at lv i = some (ppR t o n)) (k : pp_E Γ ds cc nL (pc + 1) lv (ppR t o n :: st) σ) : pp_E Γ ds cc nL pc lv st σ := by
  obtain ⟨⟨p, l, e, R, s, m, args, below, meth, c, Q, cl, sl, A⟩, X⟩ := Γ
  intro H locs ls hP hS hl
  exact lv_aload_n hF.1 hF.2.1 d hi (pp_has_at hl ha) (k H locs ls hP hS hl)
theorem pp_aload {i t o n : Nat} (hF : pp_Fx Γ ds cc nL own F L) (d : decode cc pc = .ok (.aload i, 2)) (ha : pp_at lv i = some (ppR t o n)) (k : pp_E Γ ds cc nL (pc + 2) lv (ppR t o n :: st) σ) : pp_E Γ ds cc nL pc lv st σ := by
  obtain ⟨⟨p, l, e, R, s, m, args, below, meth, c, Q, cl, sl, A⟩, X⟩ := Γ
  intro H locs ls hP hS hl
  exact lv_aload hF.1 hF.2.1 d (pp_has_at hl ha) (k H locs ls hP hS hl)
theorem pp_istore_n {j : Fin 4} {i : Nat} {x : Int32} (hF : pp_Fx Γ ds cc nL own F L) (d : decode cc pc = .ok (.istore_n j, 1)) (hi : (j : Nat) = i) (hn : i < nL) (hp : pp_put i (ppI x) lv = lv') (k : pp_E Γ ds cc nL (pc + 1) lv' st σ) : pp_E Γ ds cc nL pc lv (ppI x :: st) σ := by
  obtain ⟨⟨p, l, e, R, s, m, args, below, meth, c, Q, cl, sl, A⟩, X⟩ := Γ
  intro H locs ls hP hS hl
  exact lv_istore_n hF.1 hF.2.1 d hi hl hn rfl (fun ls' hl' => k H locs ls' hP hS (pp_put1 rfl hp hl'))
theorem pp_istore {i : Nat} {x : Int32} (hF : pp_Fx Γ ds cc nL own F L) (d : decode cc pc = .ok (.istore i, 2)) (hn : i < nL) (hp : pp_put i (ppI x) lv = lv') (k : pp_E Γ ds cc nL (pc + 2) lv' st σ) : pp_E Γ ds cc nL pc lv (ppI x :: st) σ := by
  obtain ⟨⟨p, l, e, R, s, m, args, below, meth, c, Q, cl, sl, A⟩, X⟩ := Γ
  intro H locs ls hP hS hl
  exact lv_istore hF.1 hF.2.1 d hl hn rfl (fun ls' hl' => k H locs ls' hP hS (pp_put1 rfl hp hl'))
theorem pp_lstore_n {j : Fin 4} {i : Nat} {x : Int64} (hF : pp_Fx Γ ds cc nL own F L) (d : decode cc pc = .ok (.lstore_n j, 1)) (hi : (j : Nat) = i) (hn : i + 1 < nL) (hp : pp_put i (ppL x) lv = lv') (k : pp_E Γ ds cc nL (pc + 1) lv' st σ) : pp_E Γ ds cc nL pc lv (ppL x :: st) σ := by
  obtain ⟨⟨p, l, e, R, s, m, args, below, meth, c, Q, cl, sl, A⟩, X⟩ := Γ
  intro H locs ls hP hS hl
  exact lv_lstore_n hF.1 hF.2.1 d hi hl hn rfl (fun ls' hl' => k H locs ls' hP hS (pp_put2 rfl hp hl'))
theorem pp_lstore {i : Nat} {x : Int64} (hF : pp_Fx Γ ds cc nL own F L) (d : decode cc pc = .ok (.lstore i, 2)) (hn : i + 1 < nL) (hp : pp_put i (ppL x) lv = lv') (k : pp_E Γ ds cc nL (pc + 2) lv' st σ) : pp_E Γ ds cc nL pc lv (ppL x :: st) σ := by
  obtain ⟨⟨p, l, e, R, s, m, args, below, meth, c, Q, cl, sl, A⟩, X⟩ := Γ
  intro H locs ls hP hS hl
  exact lv_lstore hF.1 hF.2.1 d hl hn rfl (fun ls' hl' => k H locs ls' hP hS (pp_put2 rfl hp hl'))
theorem pp_astore_n {j : Fin 4} {i : Nat} {t o n : Nat} (hF : pp_Fx Γ ds cc nL own F L) (d : decode cc pc = .ok (.astore_n j, 1)) (hi : (j : Nat) = i) (hn : i < nL) (hp : pp_put i (ppR t o n) lv = lv') (k : pp_E Γ ds cc nL (pc + 1) lv' st σ) : pp_E Γ ds cc nL pc lv (ppR t o n :: st) σ := by
  obtain ⟨⟨p, l, e, R, s, m, args, below, meth, c, Q, cl, sl, A⟩, X⟩ := Γ
  intro H locs ls hP hS hl
  exact lv_astore_n hF.1 hF.2.1 d hi hl hn rfl (fun ls' hl' => k H locs ls' hP hS (pp_put1 rfl hp hl'))
theorem pp_astore {i : Nat} {t o n : Nat} (hF : pp_Fx Γ ds cc nL own F L) (d : decode cc pc = .ok (.astore i, 2)) (hn : i < nL) (hp : pp_put i (ppR t o n) lv = lv') (k : pp_E Γ ds cc nL (pc + 2) lv' st σ) : pp_E Γ ds cc nL pc lv (ppR t o n :: st) σ := by
  obtain ⟨⟨p, l, e, R, s, m, args, below, meth, c, Q, cl, sl, A⟩, X⟩ := Γ
  intro H locs ls hP hS hl
  exact lv_astore hF.1 hF.2.1 d hl hn rfl (fun ls' hl' => k H locs ls' hP hS (pp_put1 rfl hp hl'))
theorem pp_iinc {i : Nat} {n : Int} {x v : Int32} (hF : pp_Fx Γ ds cc nL own F L) (d : decode cc pc = .ok (.iinc i n, 3)) (ha : pp_at lv i = some (ppI x)) (hv : x + Int32.ofInt n = v) (hn : i < nL) (hp : pp_put i (ppI v) lv = lv') (k : pp_E Γ ds cc nL (pc + 3) lv' st σ) : pp_E Γ ds cc nL pc lv st σ := by
  obtain ⟨⟨p, l, e, R, s, m, args, below, meth, c, Q, cl, sl, A⟩, X⟩ := Γ
  intro H locs ls hP hS hl
  have hm : ((i, Value.int x) : Nat × Value) ∈ pp_lv X lv := List.mem_map.mpr ⟨(i, ppI x), pp_at_mem ha, rfl⟩
  obtain ⟨q, hq⟩ := List.getElem?_of_mem hm
  exact lv_iinc (k := q) hF.1 hF.2.1 d hl hq hv hn rfl (fun ls' hl' => k H locs ls' hP hS (pp_put1 rfl hp hl'))
theorem pp_iadd {x y : Int32} (hF : pp_Fx Γ ds cc nL own F L) (d : decode cc pc = .ok (.iadd, 1)) (k : pp_E Γ ds cc nL (pc + 1) lv (ppI (x + y) :: st) σ) : pp_E Γ ds cc nL pc lv (ppI y :: ppI x :: st) σ := by
  obtain ⟨⟨p, l, e, R, s, m, args, below, meth, c, Q, cl, sl, A⟩, X⟩ := Γ
  intro H locs ls hP hS hl
  exact lv_iadd hF.1 hF.2.1 d (k H locs ls hP hS hl)
theorem pp_isub {x y : Int32} (hF : pp_Fx Γ ds cc nL own F L) (d : decode cc pc = .ok (.isub, 1)) (k : pp_E Γ ds cc nL (pc + 1) lv (ppI (x - y) :: st) σ) : pp_E Γ ds cc nL pc lv (ppI y :: ppI x :: st) σ := by
  obtain ⟨⟨p, l, e, R, s, m, args, below, meth, c, Q, cl, sl, A⟩, X⟩ := Γ
  intro H locs ls hP hS hl
  exact lv_isub hF.1 hF.2.1 d (k H locs ls hP hS hl)
theorem pp_imul {x y : Int32} (hF : pp_Fx Γ ds cc nL own F L) (d : decode cc pc = .ok (.imul, 1)) (k : pp_E Γ ds cc nL (pc + 1) lv (ppI (x * y) :: st) σ) : pp_E Γ ds cc nL pc lv (ppI y :: ppI x :: st) σ := by
  obtain ⟨⟨p, l, e, R, s, m, args, below, meth, c, Q, cl, sl, A⟩, X⟩ := Γ
  intro H locs ls hP hS hl
  exact lv_imul hF.1 hF.2.1 d (k H locs ls hP hS hl)
theorem pp_iand {x y : Int32} (hF : pp_Fx Γ ds cc nL own F L) (d : decode cc pc = .ok (.iand, 1)) (k : pp_E Γ ds cc nL (pc + 1) lv (ppI (x &&& y) :: st) σ) : pp_E Γ ds cc nL pc lv (ppI y :: ppI x :: st) σ := by
  obtain ⟨⟨p, l, e, R, s, m, args, below, meth, c, Q, cl, sl, A⟩, X⟩ := Γ
  intro H locs ls hP hS hl
  exact lv_iand hF.1 hF.2.1 d (k H locs ls hP hS hl)
theorem pp_ior {x y : Int32} (hF : pp_Fx Γ ds cc nL own F L) (d : decode cc pc = .ok (.ior, 1)) (k : pp_E Γ ds cc nL (pc + 1) lv (ppI (x ||| y) :: st) σ) : pp_E Γ ds cc nL pc lv (ppI y :: ppI x :: st) σ := by
  obtain ⟨⟨p, l, e, R, s, m, args, below, meth, c, Q, cl, sl, A⟩, X⟩ := Γ
  intro H locs ls hP hS hl
  exact lv_ior hF.1 hF.2.1 d (k H locs ls hP hS hl)
theorem pp_ixor {x y : Int32} (hF : pp_Fx Γ ds cc nL own F L) (d : decode cc pc = .ok (.ixor, 1)) (k : pp_E Γ ds cc nL (pc + 1) lv (ppI (x ^^^ y) :: st) σ) : pp_E Γ ds cc nL pc lv (ppI y :: ppI x :: st) σ := by
  obtain ⟨⟨p, l, e, R, s, m, args, below, meth, c, Q, cl, sl, A⟩, X⟩ := Γ
  intro H locs ls hP hS hl
  exact lv_ixor hF.1 hF.2.1 d (k H locs ls hP hS hl)
theorem pp_ishl {x y : Int32} (hF : pp_Fx Γ ds cc nL own F L) (d : decode cc pc = .ok (.ishl, 1)) (k : pp_E Γ ds cc nL (pc + 1) lv (ppI (x <<< (y &&& 31)) :: st) σ) : pp_E Γ ds cc nL pc lv (ppI y :: ppI x :: st) σ := by
  obtain ⟨⟨p, l, e, R, s, m, args, below, meth, c, Q, cl, sl, A⟩, X⟩ := Γ
  intro H locs ls hP hS hl
  exact lv_ishl hF.1 hF.2.1 d (k H locs ls hP hS hl)
theorem pp_ishr {x y : Int32} (hF : pp_Fx Γ ds cc nL own F L) (d : decode cc pc = .ok (.ishr, 1)) (k : pp_E Γ ds cc nL (pc + 1) lv (ppI (x >>> (y &&& 31)) :: st) σ) : pp_E Γ ds cc nL pc lv (ppI y :: ppI x :: st) σ := by
  obtain ⟨⟨p, l, e, R, s, m, args, below, meth, c, Q, cl, sl, A⟩, X⟩ := Γ
  intro H locs ls hP hS hl
  exact lv_ishr hF.1 hF.2.1 d (k H locs ls hP hS hl)
theorem pp_iushr {x y : Int32} (hF : pp_Fx Γ ds cc nL own F L) (d : decode cc pc = .ok (.iushr, 1)) (k : pp_E Γ ds cc nL (pc + 1) lv (ppI ((x.toUInt32 >>> (y.toUInt32 &&& Int32.toUInt32 31)).toInt32) :: st) σ) : pp_E Γ ds cc nL pc lv (ppI y :: ppI x :: st) σ := by
  obtain ⟨⟨p, l, e, R, s, m, args, below, meth, c, Q, cl, sl, A⟩, X⟩ := Γ
  intro H locs ls hP hS hl
  exact lv_iushr hF.1 hF.2.1 d rfl (k H locs ls hP hS hl)
theorem pp_idiv {x y : Int32} (hF : pp_Fx Γ ds cc nL own F L) (d : decode cc pc = .ok (.idiv, 1)) (hne : ¬ y = 0) (k : pp_E Γ ds cc nL (pc + 1) lv (ppI (x / y) :: st) σ) : pp_E Γ ds cc nL pc lv (ppI y :: ppI x :: st) σ := by
  obtain ⟨⟨p, l, e, R, s, m, args, below, meth, c, Q, cl, sl, A⟩, X⟩ := Γ
  intro H locs ls hP hS hl
  exact lv_idiv hF.1 hF.2.1 d hne (k H locs ls hP hS hl)
theorem pp_irem {x y : Int32} (hF : pp_Fx Γ ds cc nL own F L) (d : decode cc pc = .ok (.irem, 1)) (hne : ¬ y = 0) (k : pp_E Γ ds cc nL (pc + 1) lv (ppI (x - x / y * y) :: st) σ) : pp_E Γ ds cc nL pc lv (ppI y :: ppI x :: st) σ := by
  obtain ⟨⟨p, l, e, R, s, m, args, below, meth, c, Q, cl, sl, A⟩, X⟩ := Γ
  intro H locs ls hP hS hl
  exact lv_irem hF.1 hF.2.1 d hne (k H locs ls hP hS hl)
theorem pp_ladd {x y : Int64} (hF : pp_Fx Γ ds cc nL own F L) (d : decode cc pc = .ok (.ladd, 1)) (k : pp_E Γ ds cc nL (pc + 1) lv (ppL (x + y) :: st) σ) : pp_E Γ ds cc nL pc lv (ppL y :: ppL x :: st) σ := by
  obtain ⟨⟨p, l, e, R, s, m, args, below, meth, c, Q, cl, sl, A⟩, X⟩ := Γ
  intro H locs ls hP hS hl
  exact lv_ladd hF.1 hF.2.1 d (k H locs ls hP hS hl)
theorem pp_lsub {x y : Int64} (hF : pp_Fx Γ ds cc nL own F L) (d : decode cc pc = .ok (.lsub, 1)) (k : pp_E Γ ds cc nL (pc + 1) lv (ppL (x - y) :: st) σ) : pp_E Γ ds cc nL pc lv (ppL y :: ppL x :: st) σ := by
  obtain ⟨⟨p, l, e, R, s, m, args, below, meth, c, Q, cl, sl, A⟩, X⟩ := Γ
  intro H locs ls hP hS hl
  exact lv_lsub hF.1 hF.2.1 d (k H locs ls hP hS hl)
theorem pp_lmul {x y : Int64} (hF : pp_Fx Γ ds cc nL own F L) (d : decode cc pc = .ok (.lmul, 1)) (k : pp_E Γ ds cc nL (pc + 1) lv (ppL (x * y) :: st) σ) : pp_E Γ ds cc nL pc lv (ppL y :: ppL x :: st) σ := by
  obtain ⟨⟨p, l, e, R, s, m, args, below, meth, c, Q, cl, sl, A⟩, X⟩ := Γ
  intro H locs ls hP hS hl
  exact lv_lmul hF.1 hF.2.1 d (k H locs ls hP hS hl)
theorem pp_ldiv {x y : Int64} (hF : pp_Fx Γ ds cc nL own F L) (d : decode cc pc = .ok (.ldiv, 1)) (hne : ¬ y = 0) (k : pp_E Γ ds cc nL (pc + 1) lv (ppL (x / y) :: st) σ) : pp_E Γ ds cc nL pc lv (ppL y :: ppL x :: st) σ := by
  obtain ⟨⟨p, l, e, R, s, m, args, below, meth, c, Q, cl, sl, A⟩, X⟩ := Γ
  intro H locs ls hP hS hl
  exact lv_ldiv hF.1 hF.2.1 d hne (k H locs ls hP hS hl)
theorem pp_lrem {x y : Int64} (hF : pp_Fx Γ ds cc nL own F L) (d : decode cc pc = .ok (.lrem, 1)) (hne : ¬ y = 0) (k : pp_E Γ ds cc nL (pc + 1) lv (ppL (x - x / y * y) :: st) σ) : pp_E Γ ds cc nL pc lv (ppL y :: ppL x :: st) σ := by
  obtain ⟨⟨p, l, e, R, s, m, args, below, meth, c, Q, cl, sl, A⟩, X⟩ := Γ
  intro H locs ls hP hS hl
  exact lv_lrem hF.1 hF.2.1 d hne (k H locs ls hP hS hl)
theorem pp_lneg {x : Int64} (hF : pp_Fx Γ ds cc nL own F L) (d : decode cc pc = .ok (.lneg, 1)) (k : pp_E Γ ds cc nL (pc + 1) lv (ppL (-x) :: st) σ) : pp_E Γ ds cc nL pc lv (ppL x :: st) σ := by
  obtain ⟨⟨p, l, e, R, s, m, args, below, meth, c, Q, cl, sl, A⟩, X⟩ := Γ
  intro H locs ls hP hS hl
  exact lv_lneg hF.1 hF.2.1 d (k H locs ls hP hS hl)
theorem pp_lshl {x : Int64} {y : Int32} (hF : pp_Fx Γ ds cc nL own F L) (d : decode cc pc = .ok (.lshl, 1)) (k : pp_E Γ ds cc nL (pc + 1) lv (ppL (x <<< (y.toInt64 &&& 63)) :: st) σ) : pp_E Γ ds cc nL pc lv (ppI y :: ppL x :: st) σ := by
  obtain ⟨⟨p, l, e, R, s, m, args, below, meth, c, Q, cl, sl, A⟩, X⟩ := Γ
  intro H locs ls hP hS hl
  exact lv_lshl hF.1 hF.2.1 d rfl (k H locs ls hP hS hl)
theorem pp_i2l {x : Int32} (hF : pp_Fx Γ ds cc nL own F L) (d : decode cc pc = .ok (.i2l, 1)) (k : pp_E Γ ds cc nL (pc + 1) lv (ppL x.toInt64 :: st) σ) : pp_E Γ ds cc nL pc lv (ppI x :: st) σ := by
  obtain ⟨⟨p, l, e, R, s, m, args, below, meth, c, Q, cl, sl, A⟩, X⟩ := Γ
  intro H locs ls hP hS hl
  exact lv_i2l hF.1 hF.2.1 d rfl (k H locs ls hP hS hl)
theorem pp_i2b {x : Int32} (hF : pp_Fx Γ ds cc nL own F L) (d : decode cc pc = .ok (.i2b, 1)) (k : pp_E Γ ds cc nL (pc + 1) lv (ppI x.toInt8.toInt32 :: st) σ) : pp_E Γ ds cc nL pc lv (ppI x :: st) σ := by
  obtain ⟨⟨p, l, e, R, s, m, args, below, meth, c, Q, cl, sl, A⟩, X⟩ := Γ
  intro H locs ls hP hS hl
  exact lv_i2b hF.1 hF.2.1 d rfl (k H locs ls hP hS hl)
theorem pp_i2s {x : Int32} (hF : pp_Fx Γ ds cc nL own F L) (d : decode cc pc = .ok (.i2s, 1)) (k : pp_E Γ ds cc nL (pc + 1) lv (ppI x.toInt16.toInt32 :: st) σ) : pp_E Γ ds cc nL pc lv (ppI x :: st) σ := by
  obtain ⟨⟨p, l, e, R, s, m, args, below, meth, c, Q, cl, sl, A⟩, X⟩ := Γ
  intro H locs ls hP hS hl
  exact lv_i2s hF.1 hF.2.1 d rfl (k H locs ls hP hS hl)
theorem pp_popI {x : Int32} (hF : pp_Fx Γ ds cc nL own F L) (d : decode cc pc = .ok (.pop, 1)) (k : pp_E Γ ds cc nL (pc + 1) lv st σ) : pp_E Γ ds cc nL pc lv (ppI x :: st) σ := by
  obtain ⟨⟨p, l, e, R, s, m, args, below, meth, c, Q, cl, sl, A⟩, X⟩ := Γ
  intro H locs ls hP hS hl
  exact lv_pop hF.1 hF.2.1 d rfl (k H locs ls hP hS hl)
theorem pp_dupR {t o n : Nat} (hF : pp_Fx Γ ds cc nL own F L) (d : decode cc pc = .ok (.dup, 1)) (k : pp_E Γ ds cc nL (pc + 1) lv (ppR t o n :: ppR t o n :: st) σ) : pp_E Γ ds cc nL pc lv (ppR t o n :: st) σ := by
  obtain ⟨⟨p, l, e, R, s, m, args, below, meth, c, Q, cl, sl, A⟩, X⟩ := Γ
  intro H locs ls hP hS hl
  exact lv_dup hF.1 hF.2.1 d rfl (k H locs ls hP hS hl)
theorem pp_dup2 {x : Int32} {t o n : Nat} (hF : pp_Fx Γ ds cc nL own F L) (d : decode cc pc = .ok (.dup2, 1)) (k : pp_E Γ ds cc nL (pc + 1) lv (ppI x :: ppR t o n :: ppI x :: ppR t o n :: st) σ) : pp_E Γ ds cc nL pc lv (ppI x :: ppR t o n :: st) σ := by
  obtain ⟨⟨p, l, e, R, s, m, args, below, meth, c, Q, cl, sl, A⟩, X⟩ := Γ
  intro H locs ls hP hS hl
  exact lv_dup2_11 hF.1 hF.2.1 d rfl rfl (k H locs ls hP hS hl)
theorem pp_goto {off : Int} {tgt : Nat} (hF : pp_Fx Γ ds cc nL own F L) (d : decode cc pc = .ok (.goto off, 3)) (ht : (pc : Int) + off = (tgt : Int)) (k : pp_E Γ ds cc nL tgt lv st σ) : pp_E Γ ds cc nL pc lv st σ := by
  obtain ⟨⟨p, l, e, R, s, m, args, below, meth, c, Q, cl, sl, A⟩, X⟩ := Γ
  intro H locs ls hP hS hl
  exact lv_goto hF.1 hF.2.1 d ht (k H locs ls hP hS hl)
theorem pp_nlt {x y : Int32} (h : y ≤ x) : ¬ x < y := fun q => by
  rw [Int32.le_iff_toInt_le] at h
  rw [Int32.lt_iff_toInt_lt] at q
  omega
theorem pp_nle {x y : Int32} (h : ¬ y ≤ x) : x < y := by
  rw [Int32.le_iff_toInt_le] at h
  rw [Int32.lt_iff_toInt_lt]
  omega
theorem pp_icmp_eq {x y : Int32} {off : Int} {tgt : Nat} (hF : pp_Fx Γ ds cc nL own F L) (d : decode cc pc = .ok (.if_icmp .eq off, 3)) (ht : (pc : Int) + off = (tgt : Int)) (kt : (x = y) → pp_E Γ ds cc nL tgt lv st σ) (kf : ¬ (x = y) → pp_E Γ ds cc nL (pc + 3) lv st σ) : pp_E Γ ds cc nL pc lv (ppI y :: ppI x :: st) σ := by
  obtain ⟨⟨p, l, e, R, s, m, args, below, meth, c, Q, cl, sl, A⟩, X⟩ := Γ
  intro H locs ls hP hS hl
  exact lv_icmp_eq hF.1 hF.2.1 d ht (fun h => kt h H locs ls hP hS hl) (fun h => kf h H locs ls hP hS hl)
theorem pp_if_eq {x : Int32} {off : Int} {tgt : Nat} (hF : pp_Fx Γ ds cc nL own F L) (d : decode cc pc = .ok (.ifCond .eq off, 3)) (ht : (pc : Int) + off = (tgt : Int)) (kt : (x = 0) → pp_E Γ ds cc nL tgt lv st σ) (kf : ¬ (x = 0) → pp_E Γ ds cc nL (pc + 3) lv st σ) : pp_E Γ ds cc nL pc lv (ppI x :: st) σ := by
  obtain ⟨⟨p, l, e, R, s, m, args, below, meth, c, Q, cl, sl, A⟩, X⟩ := Γ
  intro H locs ls hP hS hl
  exact lv_if_eq hF.1 hF.2.1 d ht (fun h => kt h H locs ls hP hS hl) (fun h => kf h H locs ls hP hS hl)
theorem pp_icmp_ne {x y : Int32} {off : Int} {tgt : Nat} (hF : pp_Fx Γ ds cc nL own F L) (d : decode cc pc = .ok (.if_icmp .ne off, 3)) (ht : (pc : Int) + off = (tgt : Int)) (kt : (x = y) → pp_E Γ ds cc nL (pc + 3) lv st σ) (kf : ¬ (x = y) → pp_E Γ ds cc nL tgt lv st σ) : pp_E Γ ds cc nL pc lv (ppI y :: ppI x :: st) σ := by
  obtain ⟨⟨p, l, e, R, s, m, args, below, meth, c, Q, cl, sl, A⟩, X⟩ := Γ
  intro H locs ls hP hS hl
  exact lv_icmp_ne hF.1 hF.2.1 d ht (fun h => kf h H locs ls hP hS hl) (fun h => kt h H locs ls hP hS hl)
theorem pp_if_ne {x : Int32} {off : Int} {tgt : Nat} (hF : pp_Fx Γ ds cc nL own F L) (d : decode cc pc = .ok (.ifCond .ne off, 3)) (ht : (pc : Int) + off = (tgt : Int)) (kt : (x = 0) → pp_E Γ ds cc nL (pc + 3) lv st σ) (kf : ¬ (x = 0) → pp_E Γ ds cc nL tgt lv st σ) : pp_E Γ ds cc nL pc lv (ppI x :: st) σ := by
  obtain ⟨⟨p, l, e, R, s, m, args, below, meth, c, Q, cl, sl, A⟩, X⟩ := Γ
  intro H locs ls hP hS hl
  exact lv_if_ne hF.1 hF.2.1 d ht (fun h => kf h H locs ls hP hS hl) (fun h => kt h H locs ls hP hS hl)
theorem pp_icmp_lt {x y : Int32} {off : Int} {tgt : Nat} (hF : pp_Fx Γ ds cc nL own F L) (d : decode cc pc = .ok (.if_icmp .lt off, 3)) (ht : (pc : Int) + off = (tgt : Int)) (kt : (x < y) → pp_E Γ ds cc nL tgt lv st σ) (kf : ¬ (x < y) → pp_E Γ ds cc nL (pc + 3) lv st σ) : pp_E Γ ds cc nL pc lv (ppI y :: ppI x :: st) σ := by
  obtain ⟨⟨p, l, e, R, s, m, args, below, meth, c, Q, cl, sl, A⟩, X⟩ := Γ
  intro H locs ls hP hS hl
  exact lv_icmp_lt hF.1 hF.2.1 d ht (fun h => kt h H locs ls hP hS hl) (fun h => kf h H locs ls hP hS hl)
theorem pp_if_lt {x : Int32} {off : Int} {tgt : Nat} (hF : pp_Fx Γ ds cc nL own F L) (d : decode cc pc = .ok (.ifCond .lt off, 3)) (ht : (pc : Int) + off = (tgt : Int)) (kt : (x < 0) → pp_E Γ ds cc nL tgt lv st σ) (kf : ¬ (x < 0) → pp_E Γ ds cc nL (pc + 3) lv st σ) : pp_E Γ ds cc nL pc lv (ppI x :: st) σ := by
  obtain ⟨⟨p, l, e, R, s, m, args, below, meth, c, Q, cl, sl, A⟩, X⟩ := Γ
  intro H locs ls hP hS hl
  exact lv_if_lt hF.1 hF.2.1 d ht (fun h => kt h H locs ls hP hS hl) (fun h => kf h H locs ls hP hS hl)
theorem pp_icmp_ge {x y : Int32} {off : Int} {tgt : Nat} (hF : pp_Fx Γ ds cc nL own F L) (d : decode cc pc = .ok (.if_icmp .ge off, 3)) (ht : (pc : Int) + off = (tgt : Int)) (kt : (x < y) → pp_E Γ ds cc nL (pc + 3) lv st σ) (kf : ¬ (x < y) → pp_E Γ ds cc nL tgt lv st σ) : pp_E Γ ds cc nL pc lv (ppI y :: ppI x :: st) σ := by
  obtain ⟨⟨p, l, e, R, s, m, args, below, meth, c, Q, cl, sl, A⟩, X⟩ := Γ
  intro H locs ls hP hS hl
  exact lv_icmp_ge hF.1 hF.2.1 d ht (fun h => kf (pp_nlt h) H locs ls hP hS hl) (fun h => kt (pp_nle h) H locs ls hP hS hl)
theorem pp_if_ge {x : Int32} {off : Int} {tgt : Nat} (hF : pp_Fx Γ ds cc nL own F L) (d : decode cc pc = .ok (.ifCond .ge off, 3)) (ht : (pc : Int) + off = (tgt : Int)) (kt : (x < 0) → pp_E Γ ds cc nL (pc + 3) lv st σ) (kf : ¬ (x < 0) → pp_E Γ ds cc nL tgt lv st σ) : pp_E Γ ds cc nL pc lv (ppI x :: st) σ := by
  obtain ⟨⟨p, l, e, R, s, m, args, below, meth, c, Q, cl, sl, A⟩, X⟩ := Γ
  intro H locs ls hP hS hl
  exact lv_if_ge hF.1 hF.2.1 d ht (fun h => kf (pp_nlt h) H locs ls hP hS hl) (fun h => kt (pp_nle h) H locs ls hP hS hl)
theorem pp_icmp_gt {x y : Int32} {off : Int} {tgt : Nat} (hF : pp_Fx Γ ds cc nL own F L) (d : decode cc pc = .ok (.if_icmp .gt off, 3)) (ht : (pc : Int) + off = (tgt : Int)) (kt : (y < x) → pp_E Γ ds cc nL tgt lv st σ) (kf : ¬ (y < x) → pp_E Γ ds cc nL (pc + 3) lv st σ) : pp_E Γ ds cc nL pc lv (ppI y :: ppI x :: st) σ := by
  obtain ⟨⟨p, l, e, R, s, m, args, below, meth, c, Q, cl, sl, A⟩, X⟩ := Γ
  intro H locs ls hP hS hl
  exact lv_icmp_gt hF.1 hF.2.1 d ht (fun h => kt h H locs ls hP hS hl) (fun h => kf h H locs ls hP hS hl)
theorem pp_if_gt {x : Int32} {off : Int} {tgt : Nat} (hF : pp_Fx Γ ds cc nL own F L) (d : decode cc pc = .ok (.ifCond .gt off, 3)) (ht : (pc : Int) + off = (tgt : Int)) (kt : (0 < x) → pp_E Γ ds cc nL tgt lv st σ) (kf : ¬ (0 < x) → pp_E Γ ds cc nL (pc + 3) lv st σ) : pp_E Γ ds cc nL pc lv (ppI x :: st) σ := by
  obtain ⟨⟨p, l, e, R, s, m, args, below, meth, c, Q, cl, sl, A⟩, X⟩ := Γ
  intro H locs ls hP hS hl
  exact lv_if_gt hF.1 hF.2.1 d ht (fun h => kt h H locs ls hP hS hl) (fun h => kf h H locs ls hP hS hl)
theorem pp_icmp_le {x y : Int32} {off : Int} {tgt : Nat} (hF : pp_Fx Γ ds cc nL own F L) (d : decode cc pc = .ok (.if_icmp .le off, 3)) (ht : (pc : Int) + off = (tgt : Int)) (kt : (y < x) → pp_E Γ ds cc nL (pc + 3) lv st σ) (kf : ¬ (y < x) → pp_E Γ ds cc nL tgt lv st σ) : pp_E Γ ds cc nL pc lv (ppI y :: ppI x :: st) σ := by
  obtain ⟨⟨p, l, e, R, s, m, args, below, meth, c, Q, cl, sl, A⟩, X⟩ := Γ
  intro H locs ls hP hS hl
  exact lv_icmp_le hF.1 hF.2.1 d ht (fun h => kf (pp_nlt h) H locs ls hP hS hl) (fun h => kt (pp_nle h) H locs ls hP hS hl)
theorem pp_if_le {x : Int32} {off : Int} {tgt : Nat} (hF : pp_Fx Γ ds cc nL own F L) (d : decode cc pc = .ok (.ifCond .le off, 3)) (ht : (pc : Int) + off = (tgt : Int)) (kt : (0 < x) → pp_E Γ ds cc nL (pc + 3) lv st σ) (kf : ¬ (0 < x) → pp_E Γ ds cc nL tgt lv st σ) : pp_E Γ ds cc nL pc lv (ppI x :: st) σ := by
  obtain ⟨⟨p, l, e, R, s, m, args, below, meth, c, Q, cl, sl, A⟩, X⟩ := Γ
  intro H locs ls hP hS hl
  exact lv_if_le hF.1 hF.2.1 d ht (fun h => kf (pp_nlt h) H locs ls hP hS hl) (fun h => kt (pp_nle h) H locs ls hP hS hl)
theorem pp_lg_eq {x y : Int64} : lg_cmp x y = 0 ↔ x = y := by
  unfold lg_cmp
  by_cases h1 : y < x
  · have : ¬ x = y := fun h => by subst h; exact absurd h1 (by rw [Int64.lt_iff_toInt_lt]; omega)
    simp [h1, this]
  · by_cases h2 : x = y
    · simp [h2]
    · simp [h1, h2]
theorem pp_lg_lt {x y : Int64} : lg_cmp x y < 0 ↔ x < y := by
  have e : x < y ↔ x.toInt < y.toInt := Int64.lt_iff_toInt_lt
  have e' : y < x ↔ y.toInt < x.toInt := Int64.lt_iff_toInt_lt
  have e2 : x = y ↔ x.toInt = y.toInt := Int64.toInt_inj.symm
  unfold lg_cmp
  by_cases h1 : y < x
  · have h3 : ¬ x < y := by rw [e]; rw [e'] at h1; omega
    simp only [h1, h3, if_true, iff_false]; decide
  · by_cases h2 : x = y
    · have h3 : ¬ x < y := by rw [e]; rw [e2] at h2; omega
      simp only [h1, h2, if_false, if_true]
      rw [h2] at h3
      simp only [h3, iff_false]; decide
    · have h3 : x < y := by rw [e]; rw [e'] at h1; rw [e2] at h2; omega
      simp only [h1, h2, h3, if_false, iff_true]; decide
theorem pp_lg_gt {x y : Int64} : 0 < lg_cmp x y ↔ y < x := by
  have e : x < y ↔ x.toInt < y.toInt := Int64.lt_iff_toInt_lt
  have e' : y < x ↔ y.toInt < x.toInt := Int64.lt_iff_toInt_lt
  unfold lg_cmp
  by_cases h1 : y < x
  · simp only [h1, if_true, iff_true]; decide
  · by_cases h2 : x = y
    · simp only [h1, h2, if_false, if_true]
      rw [h2] at h1
      simp only [h1, iff_false]; decide
    · simp only [h1, h2, if_false, iff_false]; decide
theorem pp_lcmp_eq {x y : Int64} {off : Int} {tgt : Nat} (hF : pp_Fx Γ ds cc nL own F L) (d1 : decode cc pc = .ok (.lcmp, 1)) (d : decode cc (pc + 1) = .ok (.ifCond .eq off, 3)) (ht : ((pc + 1 : Nat) : Int) + off = (tgt : Int)) (kt : (x = y) → pp_E Γ ds cc nL tgt lv st σ) (kf : ¬ (x = y) → pp_E Γ ds cc nL (pc + 1 + 3) lv st σ) : pp_E Γ ds cc nL pc lv (ppL y :: ppL x :: st) σ := by
  have h0 : pp_E Γ ds cc nL (pc + 1) lv (ppI (lg_cmp x y) :: st) σ := pp_if_eq hF d ht (fun h => kt (pp_lg_eq.mp h)) (fun h => kf (fun q => h (pp_lg_eq.mpr q)))
  obtain ⟨⟨p, l, e, R, s, m, args, below, meth, c, Q, cl, sl, A⟩, X⟩ := Γ
  intro H locs ls hP hS hl
  exact W.lcmp hF.1 hF.2.1 d1 (h0 H locs ls hP hS hl)
theorem pp_lcmp_ne {x y : Int64} {off : Int} {tgt : Nat} (hF : pp_Fx Γ ds cc nL own F L) (d1 : decode cc pc = .ok (.lcmp, 1)) (d : decode cc (pc + 1) = .ok (.ifCond .ne off, 3)) (ht : ((pc + 1 : Nat) : Int) + off = (tgt : Int)) (kt : (x = y) → pp_E Γ ds cc nL (pc + 1 + 3) lv st σ) (kf : ¬ (x = y) → pp_E Γ ds cc nL tgt lv st σ) : pp_E Γ ds cc nL pc lv (ppL y :: ppL x :: st) σ := by
  have h0 : pp_E Γ ds cc nL (pc + 1) lv (ppI (lg_cmp x y) :: st) σ := pp_if_ne hF d ht (fun h => kt (pp_lg_eq.mp h)) (fun h => kf (fun q => h (pp_lg_eq.mpr q)))
  obtain ⟨⟨p, l, e, R, s, m, args, below, meth, c, Q, cl, sl, A⟩, X⟩ := Γ
  intro H locs ls hP hS hl
  exact W.lcmp hF.1 hF.2.1 d1 (h0 H locs ls hP hS hl)
theorem pp_lcmp_lt {x y : Int64} {off : Int} {tgt : Nat} (hF : pp_Fx Γ ds cc nL own F L) (d1 : decode cc pc = .ok (.lcmp, 1)) (d : decode cc (pc + 1) = .ok (.ifCond .lt off, 3)) (ht : ((pc + 1 : Nat) : Int) + off = (tgt : Int)) (kt : (x < y) → pp_E Γ ds cc nL tgt lv st σ) (kf : ¬ (x < y) → pp_E Γ ds cc nL (pc + 1 + 3) lv st σ) : pp_E Γ ds cc nL pc lv (ppL y :: ppL x :: st) σ := by
  have h0 : pp_E Γ ds cc nL (pc + 1) lv (ppI (lg_cmp x y) :: st) σ := pp_if_lt hF d ht (fun h => kt (pp_lg_lt.mp h)) (fun h => kf (fun q => h (pp_lg_lt.mpr q)))
  obtain ⟨⟨p, l, e, R, s, m, args, below, meth, c, Q, cl, sl, A⟩, X⟩ := Γ
  intro H locs ls hP hS hl
  exact W.lcmp hF.1 hF.2.1 d1 (h0 H locs ls hP hS hl)
theorem pp_lcmp_ge {x y : Int64} {off : Int} {tgt : Nat} (hF : pp_Fx Γ ds cc nL own F L) (d1 : decode cc pc = .ok (.lcmp, 1)) (d : decode cc (pc + 1) = .ok (.ifCond .ge off, 3)) (ht : ((pc + 1 : Nat) : Int) + off = (tgt : Int)) (kt : (x < y) → pp_E Γ ds cc nL (pc + 1 + 3) lv st σ) (kf : ¬ (x < y) → pp_E Γ ds cc nL tgt lv st σ) : pp_E Γ ds cc nL pc lv (ppL y :: ppL x :: st) σ := by
  have h0 : pp_E Γ ds cc nL (pc + 1) lv (ppI (lg_cmp x y) :: st) σ := pp_if_ge hF d ht (fun h => kt (pp_lg_lt.mp h)) (fun h => kf (fun q => h (pp_lg_lt.mpr q)))
  obtain ⟨⟨p, l, e, R, s, m, args, below, meth, c, Q, cl, sl, A⟩, X⟩ := Γ
  intro H locs ls hP hS hl
  exact W.lcmp hF.1 hF.2.1 d1 (h0 H locs ls hP hS hl)
theorem pp_lcmp_gt {x y : Int64} {off : Int} {tgt : Nat} (hF : pp_Fx Γ ds cc nL own F L) (d1 : decode cc pc = .ok (.lcmp, 1)) (d : decode cc (pc + 1) = .ok (.ifCond .gt off, 3)) (ht : ((pc + 1 : Nat) : Int) + off = (tgt : Int)) (kt : (y < x) → pp_E Γ ds cc nL tgt lv st σ) (kf : ¬ (y < x) → pp_E Γ ds cc nL (pc + 1 + 3) lv st σ) : pp_E Γ ds cc nL pc lv (ppL y :: ppL x :: st) σ := by
  have h0 : pp_E Γ ds cc nL (pc + 1) lv (ppI (lg_cmp x y) :: st) σ := pp_if_gt hF d ht (fun h => kt (pp_lg_gt.mp h)) (fun h => kf (fun q => h (pp_lg_gt.mpr q)))
  obtain ⟨⟨p, l, e, R, s, m, args, below, meth, c, Q, cl, sl, A⟩, X⟩ := Γ
  intro H locs ls hP hS hl
  exact W.lcmp hF.1 hF.2.1 d1 (h0 H locs ls hP hS hl)
theorem pp_lcmp_le {x y : Int64} {off : Int} {tgt : Nat} (hF : pp_Fx Γ ds cc nL own F L) (d1 : decode cc pc = .ok (.lcmp, 1)) (d : decode cc (pc + 1) = .ok (.ifCond .le off, 3)) (ht : ((pc + 1 : Nat) : Int) + off = (tgt : Int)) (kt : (y < x) → pp_E Γ ds cc nL (pc + 1 + 3) lv st σ) (kf : ¬ (y < x) → pp_E Γ ds cc nL tgt lv st σ) : pp_E Γ ds cc nL pc lv (ppL y :: ppL x :: st) σ := by
  have h0 : pp_E Γ ds cc nL (pc + 1) lv (ppI (lg_cmp x y) :: st) σ := pp_if_le hF d ht (fun h => kt (pp_lg_gt.mp h)) (fun h => kf (fun q => h (pp_lg_gt.mpr q)))
  obtain ⟨⟨p, l, e, R, s, m, args, below, meth, c, Q, cl, sl, A⟩, X⟩ := Γ
  intro H locs ls hP hS hl
  exact W.lcmp hF.1 hF.2.1 d1 (h0 H locs ls hP hS hl)
end PPE
end
section
/-! rules for the heap: arrays, fields; ends; calls -/
def pp_k (t : Nat) : Nat × Nat := ((pp_e t).1, (pp_e t).2.2.1)
/-- a row of ints, of longs, of booleans -/
def pp_ai (ds : List (Nat × Nat)) (t o n : Nat) : Prop := (t, o) ∈ ds ∧ pp_k t = (1, n)
def pp_al (ds : List (Nat × Nat)) (t o n : Nat) : Prop := (t, o) ∈ ds ∧ pp_k t = (2, n)
def pp_az (ds : List (Nat × Nat)) (t o n : Nat) : Prop := (t, o) ∈ ds ∧ pp_k t = (3, n)
def pp_oi (ds : List (Nat × Nat)) (t n w g : Nat) : Prop := (t, 0) ∈ ds ∧ pp_e t = (4, n, w, [(g, 0, 0, 0)])
def pp_ol (ds : List (Nat × Nat)) (t n w g : Nat) : Prop := (t, 0) ∈ ds ∧ pp_e t = (5, n, w, [(g, 0, 0, 0)])
theorem vp_lt {i : Int32} {n : Nat} (h : vp_in i n) : i.toNatClampNeg < n := Nat.not_le.mp fun q => h (Or.inr q)
theorem pp_cell_i {X : pp_X} {σ : pp_M} {t o n : Nat} (h : pp_k t = (1, n)) : pp_cell X σ t o = .inl (X.2.2.2.1, n, .inl (fun j => if j < n then σ.1 t (o + j) else 0)) := by
  unfold pp_k at h
  have h1 : (pp_e t).1 = 1 := congrArg Prod.fst h
  have h2 : (pp_e t).2.2.1 = n := congrArg Prod.snd h
  subst h2
  unfold pp_cell pp_cellOf
  rw [h1]
  rfl
theorem pp_cell_l {X : pp_X} {σ : pp_M} {t o n : Nat} (h : pp_k t = (2, n)) : pp_cell X σ t o = .inl (X.2.2.2.2.1, n, .inr (.inl (fun j => if j < n then σ.2 t (o + j) else 0))) := by
  unfold pp_k at h
  have h1 : (pp_e t).1 = 2 := congrArg Prod.fst h
  have h2 : (pp_e t).2.2.1 = n := congrArg Prod.snd h
  subst h2
  unfold pp_cell pp_cellOf
  rw [h1]
  rfl
theorem pp_cell_z {X : pp_X} {σ : pp_M} {t o n : Nat} (h : pp_k t = (3, n)) : pp_cell X σ t o = .inl (X.2.2.2.2.2.1, n, .inl (fun j => if j < n then σ.1 t (o + j) else 0)) := by
  unfold pp_k at h
  have h1 : (pp_e t).1 = 3 := congrArg Prod.fst h
  have h2 : (pp_e t).2.2.1 = n := congrArg Prod.snd h
  subst h2
  unfold pp_cell pp_cellOf
  rw [h1]
  rfl
theorem pp_cell_oi {X : pp_X} {σ : pp_M} {t o n w g : Nat} (h : pp_e t = (4, n, w, [(g, 0, 0, 0)])) : pp_cell X σ t o = .inl (X.2.2.2.2.2.2.1, n, .inr (.inr (.inr (.inr (fun i => if i < n then some (X.2.2.1 g (i * w)) else none))))) := by
  unfold pp_cell pp_cellOf
  rw [h]
  rfl
theorem pp_cell_ol {X : pp_X} {σ : pp_M} {t o n w g : Nat} (h : pp_e t = (5, n, w, [(g, 0, 0, 0)])) : pp_cell X σ t o = .inl (X.2.2.2.2.2.2.2, n, .inr (.inr (.inr (.inr (fun i => if i < n then some (X.2.2.1 g (i * w)) else none))))) := by
  unfold pp_cell pp_cellOf
  rw [h]
  rfl
theorem pp_cell_o {X : pp_X} {σ : pp_M} {t ci N : Nat} {fs : List (Nat × Nat × Nat × Nat)} (h : pp_e t = (0, ci, N, fs)) : pp_cell X σ t 0 = .inr (ci, pp_fl X.2.2.1 σ t 0 fs) := by
  unfold pp_cell pp_cellOf
  rw [h]
  rfl
theorem pp_fl_cong (ad : Nat → Nat → Nat) {σ σ' : pp_M} {t : Nat} (h1 : ∀ j, σ'.1 t j = σ.1 t j) (h2 : ∀ j, σ'.2 t j = σ.2 t j) : ∀ (l : List (Nat × Nat × Nat × Nat)) (j : Nat), pp_fl ad σ' t j l = pp_fl ad σ t j l
  | [], j => rfl
  | f :: l, j => by
    simp only [pp_fl]
    rw [pp_fl_cong ad h1 h2 l (j + 1)]
    unfold pp_fv
    rw [h1, h2]
theorem pp_cell_cong {X : pp_X} {σ σ' : pp_M} {t o : Nat} (h1 : ∀ j, σ'.1 t j = σ.1 t j) (h2 : ∀ j, σ'.2 t j = σ.2 t j) : pp_cell X σ' t o = pp_cell X σ t o := by
  unfold pp_cell pp_cellOf
  simp only [h1, h2, pp_fl_cong X.2.2.1 h1 h2]
theorem pp_row_ne {w o o' i j : Nat} (h1 : o % w = 0) (h2 : o' % w = 0) (hi : i < w) (hj : j < w) (hn : o' ≠ o) : o' + j ≠ o + i := by
  intro h
  have e1 : (o + i) / w = o / w := by
    have := Nat.div_add_mod o w
    rw [h1, Nat.add_zero] at this
    rw [← this, Nat.mul_add_div (by omega), Nat.mul_div_cancel_left _ (by omega), Nat.div_eq_of_lt hi, Nat.add_zero]
  have e2 : (o' + j) / w = o' / w := by
    have := Nat.div_add_mod o' w
    rw [h2, Nat.add_zero] at this
    rw [← this, Nat.mul_add_div (by omega), Nat.mul_div_cancel_left _ (by omega), Nat.div_eq_of_lt hj, Nat.add_zero]
  rw [h, e1] at e2
  have a1 := Nat.div_add_mod o w
  have a2 := Nat.div_add_mod o' w
  rw [h1] at a1
  rw [h2] at a2
  apply hn
  rw [← a1, ← a2, e2]
/-- a row of ints (or booleans) changes within: the other cells stay -/
theorem pp_other {X : pp_X} {ds : List (Nat × Nat)} {σ σ' : pp_M} {t o n kd : Nat} (hok : pp_ok ds) (hm : (t, o) ∈ ds) (hk : pp_k t = (kd, n)) (hkd : kd = 1 ∨ kd = 3) (h2 : σ'.2 = σ.2) (ho : ∀ a b, ¬ (a = t ∧ o ≤ b ∧ b < o + n) → σ'.1 a b = σ.1 a b) : ∀ d ∈ ds, d ≠ (t, o) → pp_cell X σ' d.1 d.2 = pp_cell X σ d.1 d.2 := by
  intro d hd hne
  obtain ⟨t', o'⟩ := d
  by_cases ht : t' = t
  · subst ht
    have hno : o' ≠ o := fun h => hne (by rw [h])
    have e1 := (hok _ hd).2
    have e2 := (hok _ hm).2
    have hw : (pp_e t').2.2.1 = n := congrArg Prod.snd hk
    simp only [hw] at e1 e2
    have key : (fun j => if j < n then σ'.1 t' (o' + j) else 0) = (fun j => if j < n then σ.1 t' (o' + j) else 0) := by
      funext j
      by_cases hj : j < n
      · rw [if_pos hj, if_pos hj]
        refine ho t' (o' + j) (fun h => ?_)
        exact pp_row_ne (i := o' + j - o) e2 e1 (by omega) hj hno (by omega)
      · rw [if_neg hj, if_neg hj]
    rcases hkd with rfl | rfl
    · rw [pp_cell_i hk, pp_cell_i hk, key]
    · rw [pp_cell_z hk, pp_cell_z hk, key]
  · exact pp_cell_cong (fun j => ho t' j (fun h => ht h.1)) (fun j => by rw [h2])
theorem pp_otherL {X : pp_X} {ds : List (Nat × Nat)} {σ σ' : pp_M} {t o n : Nat} (hok : pp_ok ds) (hm : (t, o) ∈ ds) (hk : pp_k t = (2, n)) (h1 : σ'.1 = σ.1) (ho : ∀ a b, ¬ (a = t ∧ o ≤ b ∧ b < o + n) → σ'.2 a b = σ.2 a b) : ∀ d ∈ ds, d ≠ (t, o) → pp_cell X σ' d.1 d.2 = pp_cell X σ d.1 d.2 := by
  intro d hd hne
  obtain ⟨t', o'⟩ := d
  by_cases ht : t' = t
  · subst ht
    have hno : o' ≠ o := fun h => hne (by rw [h])
    have e1 := (hok _ hd).2
    have e2 := (hok _ hm).2
    have hw : (pp_e t').2.2.1 = n := congrArg Prod.snd hk
    simp only [hw] at e1 e2
    have key : (fun j => if j < n then σ'.2 t' (o' + j) else 0) = (fun j => if j < n then σ.2 t' (o' + j) else 0) := by
      funext j
      by_cases hj : j < n
      · rw [if_pos hj, if_pos hj]
        refine ho t' (o' + j) (fun h => ?_)
        exact pp_row_ne (i := o' + j - o) e2 e1 (by omega) hj hno (by omega)
      · rw [if_neg hj, if_neg hj]
    rw [pp_cell_l hk, pp_cell_l hk, key]
  · exact pp_cell_cong (fun j => by rw [h1]) (fun j => ho t' j (fun h => ht h.1))
section PPH
variable {Γ : pp_G} {ds : List (Nat × Nat)} {cc : ByteArray} {nL : Nat} {own : String} {F L pc : Nat} {lv lv' : List (Nat × pp_V)} {st : List pp_V} {σ : pp_M}
theorem pp_iaload {i : Int32} {t o n : Nat} (hF : pp_Fx Γ ds cc nL own F L) (ha : pp_ai ds t o n) (hin : vp_in i n) (d : decode cc pc = .ok (.iaload, 1)) (k : pp_E Γ ds cc nL (pc + 1) lv (ppI (σ.1 t (o + i.toNatClampNeg)) :: st) σ) : pp_E Γ ds cc nL pc lv (ppI i :: ppR t o n :: st) σ := by
  obtain ⟨⟨p, l, e, R, s, m, args, below, meth, c, Q, cl, sl, A⟩, X⟩ := Γ
  intro H locs ls hP hS hl
  obtain ⟨q, hq, hw⟩ := pp_wd_at (X := X) (σ := σ) ha.1
  rw [pp_cell_i ha.2] at hw
  have k1 := k H locs ls hP hS hl
  have e9 : (if i.toNatClampNeg < n then σ.1 t (o + i.toNatClampNeg) else 0) = σ.1 t (o + i.toNatClampNeg) := if_pos (vp_lt hin)
  refine va_iald hF.1 hF.2.1 hF.2.2.2.2.2.1 hP q 0 hw rfl hin d ?_
  show W _ _ _ _ _ _ _ _ _ _ _ _ _ _ _ (F0 m (pc + 1) ls (.int (if i.toNatClampNeg < n then σ.1 t (o + i.toNatClampNeg) else 0) :: _))
  rw [e9]
  exact k1
theorem pp_laload {i : Int32} {t o n : Nat} (hF : pp_Fx Γ ds cc nL own F L) (ha : pp_al ds t o n) (hin : vp_in i n) (d : decode cc pc = .ok (.laload, 1)) (k : pp_E Γ ds cc nL (pc + 1) lv (ppL (σ.2 t (o + i.toNatClampNeg)) :: st) σ) : pp_E Γ ds cc nL pc lv (ppI i :: ppR t o n :: st) σ := by
  obtain ⟨⟨p, l, e, R, s, m, args, below, meth, c, Q, cl, sl, A⟩, X⟩ := Γ
  intro H locs ls hP hS hl
  obtain ⟨q, hq, hw⟩ := pp_wd_at (X := X) (σ := σ) ha.1
  rw [pp_cell_l ha.2] at hw
  have k1 := k H locs ls hP hS hl
  have e9 : (if i.toNatClampNeg < n then σ.2 t (o + i.toNatClampNeg) else 0) = σ.2 t (o + i.toNatClampNeg) := if_pos (vp_lt hin)
  refine va_lald hF.1 hF.2.1 hF.2.2.2.2.2.1 hP q 1 hw rfl hin d ?_
  show W _ _ _ _ _ _ _ _ _ _ _ _ _ _ _ (F0 m (pc + 1) ls (.long (if i.toNatClampNeg < n then σ.2 t (o + i.toNatClampNeg) else 0) :: _))
  rw [e9]
  exact k1
theorem pp_baload {i : Int32} {t o n : Nat} (hF : pp_Fx Γ ds cc nL own F L) (ha : pp_az ds t o n) (hin : vp_in i n) (d : decode cc pc = .ok (.baload, 1)) (k : pp_E Γ ds cc nL (pc + 1) lv (ppI (σ.1 t (o + i.toNatClampNeg)) :: st) σ) : pp_E Γ ds cc nL pc lv (ppI i :: ppR t o n :: st) σ := by
  obtain ⟨⟨p, l, e, R, s, m, args, below, meth, c, Q, cl, sl, A⟩, X⟩ := Γ
  intro H locs ls hP hS hl
  obtain ⟨q, hq, hw⟩ := pp_wd_at (X := X) (σ := σ) ha.1
  rw [pp_cell_z ha.2] at hw
  have k1 := k H locs ls hP hS hl
  have e9 : (if i.toNatClampNeg < n then σ.1 t (o + i.toNatClampNeg) else 0) = σ.1 t (o + i.toNatClampNeg) := if_pos (vp_lt hin)
  refine va_zald hF.1 hF.2.1 hF.2.2.2.2.2.1 hP q 2 hw rfl hin d ?_
  show W _ _ _ _ _ _ _ _ _ _ _ _ _ _ _ (F0 m (pc + 1) ls (.int (if i.toNatClampNeg < n then σ.1 t (o + i.toNatClampNeg) else 0) :: _))
  rw [e9]
  exact k1
theorem pp_aaloadI {i : Int32} {t n w g : Nat} (hF : pp_Fx Γ ds cc nL own F L) (ha : pp_oi ds t n w g) (hin : vp_in i n) (d : decode cc pc = .ok (.aaload, 1)) (k : pp_E Γ ds cc nL (pc + 1) lv (ppR g (i.toNatClampNeg * w) w :: st) σ) : pp_E Γ ds cc nL pc lv (ppI i :: ppR t 0 n :: st) σ := by
  obtain ⟨⟨p, l, e, R, s, m, args, below, meth, c, Q, cl, sl, A⟩, X⟩ := Γ
  intro H locs ls hP hS hl
  obtain ⟨q, hq, hw⟩ := pp_wd_at (X := X) (σ := σ) ha.1
  rw [pp_cell_oi ha.2] at hw
  have hlt := vp_lt hin
  refine W.aald (v := .ref (X.2.2.1 g (i.toNatClampNeg * w))) (ty := .array .int) hF.1 hF.2.1 (hP q _ hw) ((hF.2.2.2.2.2.1.2 3 _ rfl).1 n (fun j => va_rf (if j < n then some (X.2.2.1 g (j * w)) else none))) rfl (fun q => by cases q) (by show ¬ (i < 0 ∨ (arrV _ _ _).slots.size ≤ _); rw [arrV_size]; exact hin) (by show (arrV _ _ _).slots[_]? = _; rw [arrV_read _ _ hlt]; show some (va_rf (if i.toNatClampNeg < n then some (X.2.2.1 g (i.toNatClampNeg * w)) else none)) = _; rw [if_pos hlt]; rfl) rfl rfl d (k H locs ls hP hS hl)
theorem pp_aaloadL {i : Int32} {t n w g : Nat} (hF : pp_Fx Γ ds cc nL own F L) (ha : pp_ol ds t n w g) (hin : vp_in i n) (d : decode cc pc = .ok (.aaload, 1)) (k : pp_E Γ ds cc nL (pc + 1) lv (ppR g (i.toNatClampNeg * w) w :: st) σ) : pp_E Γ ds cc nL pc lv (ppI i :: ppR t 0 n :: st) σ := by
  obtain ⟨⟨p, l, e, R, s, m, args, below, meth, c, Q, cl, sl, A⟩, X⟩ := Γ
  intro H locs ls hP hS hl
  obtain ⟨q, hq, hw⟩ := pp_wd_at (X := X) (σ := σ) ha.1
  rw [pp_cell_ol ha.2] at hw
  have hlt := vp_lt hin
  refine W.aald (v := .ref (X.2.2.1 g (i.toNatClampNeg * w))) (ty := .array .long) hF.1 hF.2.1 (hP q _ hw) ((hF.2.2.2.2.2.1.2 4 _ rfl).1 n (fun j => va_rf (if j < n then some (X.2.2.1 g (j * w)) else none))) rfl (fun q => by cases q) (by show ¬ (i < 0 ∨ (arrV _ _ _).slots.size ≤ _); rw [arrV_size]; exact hin) (by show (arrV _ _ _).slots[_]? = _; rw [arrV_read _ _ hlt]; show some (va_rf (if i.toNatClampNeg < n then some (X.2.2.1 g (i.toNatClampNeg * w)) else none)) = _; rw [if_pos hlt]; rfl) rfl rfl d (k H locs ls hP hS hl)
theorem pp_iastore {i x : Int32} {t o n : Nat} (hF : pp_Fx Γ ds cc nL own F L) (ha : pp_ai ds t o n) (hin : vp_in i n) (d : decode cc pc = .ok (.iastore, 1)) (k : pp_E Γ ds cc nL (pc + 1) lv st (ppS σ t (o + i.toNatClampNeg) x)) : pp_E Γ ds cc nL pc lv (ppI x :: ppI i :: ppR t o n :: st) σ := by
  obtain ⟨⟨p, l, e, R, s, m, args, below, meth, c, Q, cl, sl, A⟩, X⟩ := Γ
  intro H locs ls hP hS hl
  obtain ⟨q, hq, hw⟩ := pp_wd_at (X := X) (σ := σ) ha.1
  rw [pp_cell_i ha.2] at hw
  have hlt := vp_lt hin
  obtain ⟨hI, hok, hA⟩ := hF.2.2.2.2.2.2.1
  refine va_iast hF.1 hF.2.1 hF.2.2.2.2.2.1 hP (pp_wd_D hI hA) hS q 0 hw rfl hin d (fun H1 locs1 hP1 _ hS1 => k H1 locs1 ls ?_ hS1 hl)
  rw [pp_wd_set (σ := σ) (σ' := ppS σ t (o + i.toNatClampNeg) x) hq hI rfl ?_ (pp_other hok ha.1 ha.2 (Or.inl rfl) rfl ?_)] at hP1
  · exact hP1
  · rw [pp_cell_i ha.2]
    congr 4
    funext j
    unfold upd ppS
    by_cases hj : j = i.toNatClampNeg
    · subst hj
      simp [hlt]
    · by_cases hjn : j < n
      · simp [hj, hjn]
      · simp [hj, hjn]
  · intro a b hab
    unfold ppS
    refine if_neg (fun h => hab ⟨h.1, ?_⟩)
    omega
theorem pp_bastore {i x : Int32} {t o n : Nat} (hF : pp_Fx Γ ds cc nL own F L) (ha : pp_az ds t o n) (hin : vp_in i n) (hx : vp_nar .boolean x = x) (d : decode cc pc = .ok (.bastore, 1)) (k : pp_E Γ ds cc nL (pc + 1) lv st (ppS σ t (o + i.toNatClampNeg) x)) : pp_E Γ ds cc nL pc lv (ppI x :: ppI i :: ppR t o n :: st) σ := by
  obtain ⟨⟨p, l, e, R, s, m, args, below, meth, c, Q, cl, sl, A⟩, X⟩ := Γ
  intro H locs ls hP hS hl
  obtain ⟨q, hq, hw⟩ := pp_wd_at (X := X) (σ := σ) ha.1
  rw [pp_cell_z ha.2] at hw
  have hlt := vp_lt hin
  obtain ⟨hI, hok, hA⟩ := hF.2.2.2.2.2.2.1
  refine va_zast hF.1 hF.2.1 hF.2.2.2.2.2.1 hP (pp_wd_D hI hA) hS q 2 hw rfl hin d (fun H1 locs1 hP1 _ hS1 => k H1 locs1 ls ?_ hS1 hl)
  rw [hx] at hP1
  rw [pp_wd_set (σ := σ) (σ' := ppS σ t (o + i.toNatClampNeg) x) hq hI rfl ?_ (pp_other hok ha.1 ha.2 (Or.inr rfl) rfl ?_)] at hP1
  · exact hP1
  · rw [pp_cell_z ha.2]
    congr 4
    funext j
    unfold upd ppS
    by_cases hj : j = i.toNatClampNeg
    · subst hj
      simp [hlt]
    · by_cases hjn : j < n
      · simp [hj, hjn]
      · simp [hj, hjn]
  · intro a b hab
    unfold ppS
    refine if_neg (fun h => hab ⟨h.1, ?_⟩)
    omega
theorem pp_lastore {i : Int32} {x : Int64} {t o n : Nat} (hF : pp_Fx Γ ds cc nL own F L) (ha : pp_al ds t o n) (hin : vp_in i n) (d : decode cc pc = .ok (.lastore, 1)) (k : pp_E Γ ds cc nL (pc + 1) lv st (ppT σ t (o + i.toNatClampNeg) x)) : pp_E Γ ds cc nL pc lv (ppL x :: ppI i :: ppR t o n :: st) σ := by
  obtain ⟨⟨p, l, e, R, s, m, args, below, meth, c, Q, cl, sl, A⟩, X⟩ := Γ
  intro H locs ls hP hS hl
  obtain ⟨q, hq, hw⟩ := pp_wd_at (X := X) (σ := σ) ha.1
  rw [pp_cell_l ha.2] at hw
  have hlt := vp_lt hin
  obtain ⟨hI, hok, hA⟩ := hF.2.2.2.2.2.2.1
  refine va_last hF.1 hF.2.1 hF.2.2.2.2.2.1 hP (pp_wd_D hI hA) hS q 1 hw rfl hin d (fun H1 locs1 hP1 _ hS1 => k H1 locs1 ls ?_ hS1 hl)
  rw [pp_wd_set (σ := σ) (σ' := ppT σ t (o + i.toNatClampNeg) x) hq hI rfl ?_ (pp_otherL hok ha.1 ha.2 rfl ?_)] at hP1
  · exact hP1
  · rw [pp_cell_l ha.2]
    congr 5
    funext j
    unfold vp_updL ppT
    by_cases hj : j = i.toNatClampNeg
    · subst hj
      simp [hlt]
    · by_cases hjn : j < n
      · simp [hj, hjn]
      · simp [hj, hjn]
  · intro a b hab
    unfold ppT
    refine if_neg (fun h => hab ⟨h.1, ?_⟩)
    omega
/-- field k of the object t, as the class own names it by idx -/
def pp_Fd (ds : List (Nat × Nat)) (own : String) (idx t k : Nat) (f : Nat × Nat × Nat × Nat) : Prop := ∃ (C : String) (T : u_T) (N ci : Nat) (fs : List (Nat × Nat × Nat × Nat)), (t, 0) ∈ ds ∧ pp_cl[ci]? = some (C, T, N) ∧ (∀ w ∈ u_ws C T N, w ∈ pp_tb) ∧ pp_e t = (0, ci, N, fs) ∧ k < N ∧ fs[k]? = some f ∧ (T k).1 = C ∧ Cond.fieldLink own idx C (T k).2.1 (T k).2.2.1 ∈ pp_tb
/-- .. and may be written, with values of its type -/
def pp_Fw (ds : List (Nat × Nat)) (own : String) (idx t k : Nat) (f : Nat × Nat × Nat × Nat) (ty : FieldType) : Prop := ∃ (C : String) (T : u_T) (N ci : Nat) (fs : List (Nat × Nat × Nat × Nat)) (ty0 : Nat → FieldType), (t, 0) ∈ ds ∧ pp_cl[ci]? = some (C, T, N) ∧ (∀ w ∈ u_ws C T N, w ∈ pp_tb) ∧ pp_e t = (0, ci, N, fs) ∧ k < N ∧ fs[k]? = some f ∧ (T k).1 = C ∧ Cond.fieldLink own idx C (T k).2.1 (T k).2.2.1 ∈ pp_tb ∧ (∀ j, j < N → parseFieldDescriptor (T j).2.2.1 = some (ty0 j)) ∧ (∀ a, a < N → ∀ b, b < N → a ≠ b → (T a).2.1 ≠ (T b).2.1) ∧ (T k).2.2.2 = false ∧ parseFieldDescriptor (T k).2.2.1 = some ty
theorem pp_getI {idx t k a1 a2 a3 : Nat} (hF : pp_Fx Γ ds cc nL own F L) (hf : pp_Fd ds own idx t k (0, a1, a2, a3)) (d : decode cc pc = .ok (.getfield idx, 3)) (kk : pp_E Γ ds cc nL (pc + 3) lv (ppI (σ.1 t k) :: st) σ) : pp_E Γ ds cc nL pc lv (ppR t 0 0 :: st) σ := by
  obtain ⟨⟨p, l, e, R, s, m, args, below, meth, c, Q, cl, sl, A⟩, X⟩ := Γ
  intro H locs ls hP hS hl
  obtain ⟨C, T, N, ci, fs, hm, hc, hin, he, hk, hfs, hC, hlk⟩ := hf
  obtain ⟨q, hq, hw⟩ := pp_wd_at (X := X) (σ := σ) hm
  rw [pp_cell_o he] at hw
  refine va_get hF.1 hF.2.1 hF.2.2.2.2.1 hin hF.2.2.2.1 hF.2.2.2.2.2.1 hP q hw hc k hk (hF.2.2.2.2.1 _ hlk) (fun x hx => by rw [hC] at hx; exact hx) ?_ d (kk H locs ls hP hS hl)
  rw [pp_fl_at, hfs, Nat.zero_add]
  rfl
theorem pp_getL {idx t k a1 a2 a3 : Nat} (hF : pp_Fx Γ ds cc nL own F L) (hf : pp_Fd ds own idx t k (1, a1, a2, a3)) (d : decode cc pc = .ok (.getfield idx, 3)) (kk : pp_E Γ ds cc nL (pc + 3) lv (ppL (σ.2 t k) :: st) σ) : pp_E Γ ds cc nL pc lv (ppR t 0 0 :: st) σ := by
  obtain ⟨⟨p, l, e, R, s, m, args, below, meth, c, Q, cl, sl, A⟩, X⟩ := Γ
  intro H locs ls hP hS hl
  obtain ⟨C, T, N, ci, fs, hm, hc, hin, he, hk, hfs, hC, hlk⟩ := hf
  obtain ⟨q, hq, hw⟩ := pp_wd_at (X := X) (σ := σ) hm
  rw [pp_cell_o he] at hw
  refine va_get hF.1 hF.2.1 hF.2.2.2.2.1 hin hF.2.2.2.1 hF.2.2.2.2.2.1 hP q hw hc k hk (hF.2.2.2.2.1 _ hlk) (fun x hx => by rw [hC] at hx; exact hx) ?_ d (kk H locs ls hP hS hl)
  rw [pp_fl_at, hfs, Nat.zero_add]
  rfl
theorem pp_getR {idx t k a1 a2 a3 : Nat} (hF : pp_Fx Γ ds cc nL own F L) (hf : pp_Fd ds own idx t k (2, a1, a2, a3)) (d : decode cc pc = .ok (.getfield idx, 3)) (kk : pp_E Γ ds cc nL (pc + 3) lv (ppR a1 a2 a3 :: st) σ) : pp_E Γ ds cc nL pc lv (ppR t 0 0 :: st) σ := by
  obtain ⟨⟨p, l, e, R, s, m, args, below, meth, c, Q, cl, sl, A⟩, X⟩ := Γ
  intro H locs ls hP hS hl
  obtain ⟨C, T, N, ci, fs, hm, hc, hin, he, hk, hfs, hC, hlk⟩ := hf
  obtain ⟨q, hq, hw⟩ := pp_wd_at (X := X) (σ := σ) hm
  rw [pp_cell_o he] at hw
  refine va_get hF.1 hF.2.1 hF.2.2.2.2.1 hin hF.2.2.2.1 hF.2.2.2.2.2.1 hP q hw hc k hk (hF.2.2.2.2.1 _ hlk) (fun x hx => by rw [hC] at hx; exact hx) ?_ d (kk H locs ls hP hS hl)
  rw [pp_fl_at, hfs, Nat.zero_add]
  rfl
theorem pp_fl_set {ad : Nat → Nat → Nat} {σ σ' : pp_M} {t k : Nat} {v : Value} {f : Nat × Nat × Nat × Nat} {l : List (Nat × Nat × Nat × Nat)} (hf : l[k]? = some f) (hv : pp_fv ad σ' t k f = v) (ho : ∀ j, j ≠ k → σ'.1 t j = σ.1 t j ∧ σ'.2 t j = σ.2 t j) : (pp_fl ad σ t 0 l).set k v = pp_fl ad σ' t 0 l := by
  apply List.ext_getElem?
  intro j
  have hl := (List.getElem?_eq_some_iff.mp hf).1
  by_cases hj : j = k
  · subst hj
    rw [List.getElem?_set_self (by rw [pp_fl_len]; exact hl), pp_fl_at, hf, Nat.zero_add]
    exact congrArg some hv.symm
  · rw [List.getElem?_set_ne (Ne.symm hj), pp_fl_at, pp_fl_at, Nat.zero_add]
    cases hx : l[j]? with
    | none => rfl
    | some g =>
      simp only [Option.map_some]
      congr 1
      unfold pp_fv
      rw [(ho j hj).1, (ho j hj).2]
theorem pp_putI {idx t k a1 a2 a3 : Nat} {x : Int32} (hF : pp_Fx Γ ds cc nL own F L) (hf : pp_Fw ds own idx t k (0, a1, a2, a3) .int) (d : decode cc pc = .ok (.putfield idx, 3)) (kk : pp_E Γ ds cc nL (pc + 3) lv st (ppS σ t k x)) : pp_E Γ ds cc nL pc lv (ppI x :: ppR t 0 0 :: st) σ := by
  obtain ⟨⟨p, l, e, R, s, m, args, below, meth, c, Q, cl, sl, A⟩, X⟩ := Γ
  intro H locs ls hP hS hl
  obtain ⟨C, T, N, ci, fs, ty0, hm, hc, hin, he, hk, hfs, hC, hlk, hty, hnm, hfin, hpd⟩ := hf
  obtain ⟨q, hq, hw⟩ := pp_wd_at (X := X) (σ := σ) hm
  rw [pp_cell_o he] at hw
  obtain ⟨hI, hok, hA⟩ := hF.2.2.2.2.2.2.1
  refine va_put hF.1 hF.2.1 hF.2.2.2.2.1 hin ty0 hty hnm hF.2.2.2.1 hF.2.2.2.2.2.1 hP (pp_wd_D hI hA) hS q hw hc k hk (hF.2.2.2.2.1 _ hlk) (fun z hz => by rw [hC] at hz; exact hz) hfin hpd rfl rfl (by rw [pp_fl_len]; exact (List.getElem?_eq_some_iff.mp hfs).1) d (fun H1 locs1 hP1 _ hS1 => kk H1 locs1 ls ?_ hS1 hl)
  rw [pp_wd_set (σ := σ) (σ' := ppS σ t k x) hq hI rfl ?_ ?_] at hP1
  · exact hP1
  · rw [pp_cell_o he, pp_fl_set (σ' := ppS σ t k x) hfs ?_ ?_]
    · simp [pp_fv, ppS, ppT, ppv, ppI, ppL]
    · intro j hj
      simp [ppS, ppT, hj]
  · intro d2 hd2 hne
    obtain ⟨t2, o2⟩ := d2
    refine pp_cell_cong (fun j => ?_) (fun j => ?_) <;>
    · simp only [ppS, ppT]
      try refine if_neg (fun h => hne ?_)
      try rw [h.1] at hd2
      try have h9 := (hok _ hd2).1 (by rw [he])
      try (rw [h.1]; exact congrArg (Prod.mk t) h9)
theorem pp_putZ {idx t k a1 a2 a3 : Nat} {x : Int32} (hF : pp_Fx Γ ds cc nL own F L) (hf : pp_Fw ds own idx t k (0, a1, a2, a3) .boolean) (hn : narrow .boolean (.int x) = .int x) (hfit : fits .boolean (.int x) = true) (d : decode cc pc = .ok (.putfield idx, 3)) (kk : pp_E Γ ds cc nL (pc + 3) lv st (ppS σ t k x)) : pp_E Γ ds cc nL pc lv (ppI x :: ppR t 0 0 :: st) σ := by
  obtain ⟨⟨p, l, e, R, s, m, args, below, meth, c, Q, cl, sl, A⟩, X⟩ := Γ
  intro H locs ls hP hS hl
  obtain ⟨C, T, N, ci, fs, ty0, hm, hc, hin, he, hk, hfs, hC, hlk, hty, hnm, hfin, hpd⟩ := hf
  obtain ⟨q, hq, hw⟩ := pp_wd_at (X := X) (σ := σ) hm
  rw [pp_cell_o he] at hw
  obtain ⟨hI, hok, hA⟩ := hF.2.2.2.2.2.2.1
  refine va_put hF.1 hF.2.1 hF.2.2.2.2.1 hin ty0 hty hnm hF.2.2.2.1 hF.2.2.2.2.2.1 hP (pp_wd_D hI hA) hS q hw hc k hk (hF.2.2.2.2.1 _ hlk) (fun z hz => by rw [hC] at hz; exact hz) hfin hpd hn hfit (by rw [pp_fl_len]; exact (List.getElem?_eq_some_iff.mp hfs).1) d (fun H1 locs1 hP1 _ hS1 => kk H1 locs1 ls ?_ hS1 hl)
  rw [pp_wd_set (σ := σ) (σ' := ppS σ t k x) hq hI rfl ?_ ?_] at hP1
  · exact hP1
  · rw [pp_cell_o he, pp_fl_set (σ' := ppS σ t k x) hfs ?_ ?_]
    · simp [pp_fv, ppS, ppT, ppv, ppI, ppL]
    · intro j hj
      simp [ppS, ppT, hj]
  · intro d2 hd2 hne
    obtain ⟨t2, o2⟩ := d2
    refine pp_cell_cong (fun j => ?_) (fun j => ?_) <;>
    · simp only [ppS, ppT]
      try refine if_neg (fun h => hne ?_)
      try rw [h.1] at hd2
      try have h9 := (hok _ hd2).1 (by rw [he])
      try (rw [h.1]; exact congrArg (Prod.mk t) h9)
theorem pp_putL {idx t k a1 a2 a3 : Nat} {x : Int64} (hF : pp_Fx Γ ds cc nL own F L) (hf : pp_Fw ds own idx t k (1, a1, a2, a3) .long) (d : decode cc pc = .ok (.putfield idx, 3)) (kk : pp_E Γ ds cc nL (pc + 3) lv st (ppT σ t k x)) : pp_E Γ ds cc nL pc lv (ppL x :: ppR t 0 0 :: st) σ := by
  obtain ⟨⟨p, l, e, R, s, m, args, below, meth, c, Q, cl, sl, A⟩, X⟩ := Γ
  intro H locs ls hP hS hl
  obtain ⟨C, T, N, ci, fs, ty0, hm, hc, hin, he, hk, hfs, hC, hlk, hty, hnm, hfin, hpd⟩ := hf
  obtain ⟨q, hq, hw⟩ := pp_wd_at (X := X) (σ := σ) hm
  rw [pp_cell_o he] at hw
  obtain ⟨hI, hok, hA⟩ := hF.2.2.2.2.2.2.1
  refine va_put hF.1 hF.2.1 hF.2.2.2.2.1 hin ty0 hty hnm hF.2.2.2.1 hF.2.2.2.2.2.1 hP (pp_wd_D hI hA) hS q hw hc k hk (hF.2.2.2.2.1 _ hlk) (fun z hz => by rw [hC] at hz; exact hz) hfin hpd rfl rfl (by rw [pp_fl_len]; exact (List.getElem?_eq_some_iff.mp hfs).1) d (fun H1 locs1 hP1 _ hS1 => kk H1 locs1 ls ?_ hS1 hl)
  rw [pp_wd_set (σ := σ) (σ' := ppT σ t k x) hq hI rfl ?_ ?_] at hP1
  · exact hP1
  · rw [pp_cell_o he, pp_fl_set (σ' := ppT σ t k x) hfs ?_ ?_]
    · simp [pp_fv, ppS, ppT, ppv, ppI, ppL]
    · intro j hj
      simp [ppS, ppT, hj]
  · intro d2 hd2 hne
    obtain ⟨t2, o2⟩ := d2
    refine pp_cell_cong (fun j => ?_) (fun j => ?_) <;>
    · simp only [ppS, ppT]
      try refine if_neg (fun h => hne ?_)
      try rw [h.1] at hd2
      try have h9 := (hok _ hd2).1 (by rw [he])
      try (rw [h.1]; exact congrArg (Prod.mk t) h9)
theorem pp_ialoadJ {i : Int32} {t o n j : Nat} (hF : pp_Fx Γ ds cc nL own F L) (ha : pp_ai ds t o n) (hin : vp_in i n) (hj : o + i.toNatClampNeg = j) (d : decode cc pc = .ok (.iaload, 1)) (k : pp_E Γ ds cc nL (pc + 1) lv (ppI (σ.1 t j) :: st) σ) : pp_E Γ ds cc nL pc lv (ppI i :: ppR t o n :: st) σ := by
  subst hj
  exact pp_iaload hF ha hin d k
theorem pp_laloadJ {i : Int32} {t o n j : Nat} (hF : pp_Fx Γ ds cc nL own F L) (ha : pp_al ds t o n) (hin : vp_in i n) (hj : o + i.toNatClampNeg = j) (d : decode cc pc = .ok (.laload, 1)) (k : pp_E Γ ds cc nL (pc + 1) lv (ppL (σ.2 t j) :: st) σ) : pp_E Γ ds cc nL pc lv (ppI i :: ppR t o n :: st) σ := by
  subst hj
  exact pp_laload hF ha hin d k
theorem pp_baloadJ {i : Int32} {t o n j : Nat} (hF : pp_Fx Γ ds cc nL own F L) (ha : pp_az ds t o n) (hin : vp_in i n) (hj : o + i.toNatClampNeg = j) (d : decode cc pc = .ok (.baload, 1)) (k : pp_E Γ ds cc nL (pc + 1) lv (ppI (σ.1 t j) :: st) σ) : pp_E Γ ds cc nL pc lv (ppI i :: ppR t o n :: st) σ := by
  subst hj
  exact pp_baload hF ha hin d k
theorem pp_iastoreJ {i : Int32} {x : Int32} {t o n j : Nat} (hF : pp_Fx Γ ds cc nL own F L) (ha : pp_ai ds t o n) (hin : vp_in i n) (hj : o + i.toNatClampNeg = j) (d : decode cc pc = .ok (.iastore, 1)) (k : pp_E Γ ds cc nL (pc + 1) lv st (ppS σ t j x)) : pp_E Γ ds cc nL pc lv (ppI x :: ppI i :: ppR t o n :: st) σ := by
  subst hj
  exact pp_iastore hF ha hin d k
theorem pp_lastoreJ {i : Int32} {x : Int64} {t o n j : Nat} (hF : pp_Fx Γ ds cc nL own F L) (ha : pp_al ds t o n) (hin : vp_in i n) (hj : o + i.toNatClampNeg = j) (d : decode cc pc = .ok (.lastore, 1)) (k : pp_E Γ ds cc nL (pc + 1) lv st (ppT σ t j x)) : pp_E Γ ds cc nL pc lv (ppL x :: ppI i :: ppR t o n :: st) σ := by
  subst hj
  exact pp_lastore hF ha hin d k
theorem pp_bastoreJ {i : Int32} {x : Int32} {t o n j : Nat} (hF : pp_Fx Γ ds cc nL own F L) (ha : pp_az ds t o n) (hin : vp_in i n) (hx : vp_nar .boolean x = x) (hj : o + i.toNatClampNeg = j) (d : decode cc pc = .ok (.bastore, 1)) (k : pp_E Γ ds cc nL (pc + 1) lv st (ppS σ t j x)) : pp_E Γ ds cc nL pc lv (ppI x :: ppI i :: ppR t o n :: st) σ := by
  subst hj
  exact pp_bastore hF ha hin hx d k
theorem pp_aaloadIJ {i : Int32} {t n w g j : Nat} (hF : pp_Fx Γ ds cc nL own F L) (ha : pp_oi ds t n w g) (hin : vp_in i n) (hj : i.toNatClampNeg * w = j) (d : decode cc pc = .ok (.aaload, 1)) (k : pp_E Γ ds cc nL (pc + 1) lv (ppR g j w :: st) σ) : pp_E Γ ds cc nL pc lv (ppI i :: ppR t 0 n :: st) σ := by
  subst hj
  exact pp_aaloadI hF ha hin d k
theorem pp_aaloadLJ {i : Int32} {t n w g j : Nat} (hF : pp_Fx Γ ds cc nL own F L) (ha : pp_ol ds t n w g) (hin : vp_in i n) (hj : i.toNatClampNeg * w = j) (d : decode cc pc = .ok (.aaload, 1)) (k : pp_E Γ ds cc nL (pc + 1) lv (ppR g j w :: st) σ) : pp_E Γ ds cc nL pc lv (ppI i :: ppR t 0 n :: st) σ := by
  subst hj
  exact pp_aaloadL hF ha hin d k
theorem pp_tsw9 {x : Int32} {dflt : Int} {len : Nat} {o0 o1 o2 o3 o4 o5 o6 o7 o8 : Int} {t0 t1 t2 t3 t4 t5 t6 t7 t8 td : Nat} (hF : pp_Fx Γ ds cc nL own F L) (d : decode cc pc = .ok (.tableswitch dflt 0 8 #[o0, o1, o2, o3, o4, o5, o6, o7, o8], len)) (h0 : (pc : Int) + o0 = (t0 : Int)) (h1 : (pc : Int) + o1 = (t1 : Int)) (h2 : (pc : Int) + o2 = (t2 : Int)) (h3 : (pc : Int) + o3 = (t3 : Int)) (h4 : (pc : Int) + o4 = (t4 : Int)) (h5 : (pc : Int) + o5 = (t5 : Int)) (h6 : (pc : Int) + o6 = (t6 : Int)) (h7 : (pc : Int) + o7 = (t7 : Int)) (h8 : (pc : Int) + o8 = (t8 : Int)) (hd : (pc : Int) + dflt = (td : Int)) (k0 : x = 0 → pp_E Γ ds cc nL t0 lv st σ) (k1 : x = 1 → pp_E Γ ds cc nL t1 lv st σ) (k2 : x = 2 → pp_E Γ ds cc nL t2 lv st σ) (k3 : x = 3 → pp_E Γ ds cc nL t3 lv st σ) (k4 : x = 4 → pp_E Γ ds cc nL t4 lv st σ) (k5 : x = 5 → pp_E Γ ds cc nL t5 lv st σ) (k6 : x = 6 → pp_E Γ ds cc nL t6 lv st σ) (k7 : x = 7 → pp_E Γ ds cc nL t7 lv st σ) (k8 : x = 8 → pp_E Γ ds cc nL t8 lv st σ) (kd : ¬ x = 0 → ¬ x = 1 → ¬ x = 2 → ¬ x = 3 → ¬ x = 4 → ¬ x = 5 → ¬ x = 6 → ¬ x = 7 → ¬ x = 8 → pp_E Γ ds cc nL td lv st σ) : pp_E Γ ds cc nL pc lv (ppI x :: st) σ := by
  obtain ⟨⟨p, l, e, R, s, m, args, below, meth, c, Q, cl, sl, A⟩, X⟩ := Γ
  intro H locs ls hP hS hl
  by_cases c0 : x = 0
  · subst c0
    exact lv_tableIn (off := o0) hF.1 hF.2.1 d (by decide) (by decide) rfl h0 (k0 rfl H locs ls hP hS hl)
  by_cases c1 : x = 1
  · subst c1
    exact lv_tableIn (off := o1) hF.1 hF.2.1 d (by decide) (by decide) rfl h1 (k1 rfl H locs ls hP hS hl)
  by_cases c2 : x = 2
  · subst c2
    exact lv_tableIn (off := o2) hF.1 hF.2.1 d (by decide) (by decide) rfl h2 (k2 rfl H locs ls hP hS hl)
  by_cases c3 : x = 3
  · subst c3
    exact lv_tableIn (off := o3) hF.1 hF.2.1 d (by decide) (by decide) rfl h3 (k3 rfl H locs ls hP hS hl)
  by_cases c4 : x = 4
  · subst c4
    exact lv_tableIn (off := o4) hF.1 hF.2.1 d (by decide) (by decide) rfl h4 (k4 rfl H locs ls hP hS hl)
  by_cases c5 : x = 5
  · subst c5
    exact lv_tableIn (off := o5) hF.1 hF.2.1 d (by decide) (by decide) rfl h5 (k5 rfl H locs ls hP hS hl)
  by_cases c6 : x = 6
  · subst c6
    exact lv_tableIn (off := o6) hF.1 hF.2.1 d (by decide) (by decide) rfl h6 (k6 rfl H locs ls hP hS hl)
  by_cases c7 : x = 7
  · subst c7
    exact lv_tableIn (off := o7) hF.1 hF.2.1 d (by decide) (by decide) rfl h7 (k7 rfl H locs ls hP hS hl)
  by_cases c8 : x = 8
  · subst c8
    exact lv_tableIn (off := o8) hF.1 hF.2.1 d (by decide) (by decide) rfl h8 (k8 rfl H locs ls hP hS hl)
  have e1 : x.toInt < 0 ∨ 8 < x.toInt := by
    by_cases q1 : x.toInt < 0
    · exact Or.inl q1
    · by_cases q2 : 8 < x.toInt
      · exact Or.inr q2
      · exfalso
        have hh : x.toInt = 0 ∨ x.toInt = 1 ∨ x.toInt = 2 ∨ x.toInt = 3 ∨ x.toInt = 4 ∨ x.toInt = 5 ∨ x.toInt = 6 ∨ x.toInt = 7 ∨ x.toInt = 8 := by omega
        rcases hh with h | h | h | h | h | h | h | h | h
        · exact c0 (Int32.toInt_inj.mp h)
        · exact c1 (Int32.toInt_inj.mp h)
        · exact c2 (Int32.toInt_inj.mp h)
        · exact c3 (Int32.toInt_inj.mp h)
        · exact c4 (Int32.toInt_inj.mp h)
        · exact c5 (Int32.toInt_inj.mp h)
        · exact c6 (Int32.toInt_inj.mp h)
        · exact c7 (Int32.toInt_inj.mp h)
        · exact c8 (Int32.toInt_inj.mp h)
  exact lv_tableOut hF.1 hF.2.1 d e1 hd (kd c0 c1 c2 c3 c4 c5 c6 c7 c8 H locs ls hP hS hl)
end PPH
end
section
/-! ends of methods, contracts, calls -/
def pp_Pc (X : pp_X) (ds : List (Nat × Nat)) (as : List pp_V) (σ : pp_M) : Array Value → State → Prop := va_Pc (as.map (ppv X.2.2.1)) (fun U => va_P (X.1, X.2.1) pp_cl (pp_wd X ds σ) U.heap ∧ va_K (X.1, X.2.1) pp_cl (pp_ty X) U ∧ pp_Nw U)
/-- a method's contract: from memory σ with these arguments it answers r, and leaves σ' -/
def pp_Ct (y : MethodName) (cc : ByteArray) (nL : Nat) (ret : Option FieldType) (F L : Nat) (ds : List (Nat × Nat)) (as : List pp_V) (σ : pp_M) (r : Option pp_V) (σ' : pp_M) : Prop := ∀ (l : Launch) (X : pp_X), pp_inj X ds → Met l y (.code y cc nL ret :: pp_tb) { frames := F, cells := 0, slots := 0, locals := L } (pp_Pc X ds as σ) (pp_Qc X ds (pp_A X ds) r σ') 0 0 (pp_A X ds)
theorem pp_tb_mem {w : Cond} (h : w ∈ lw_tbl) (hg : goodWord w = true) : w ∈ pp_tb := List.mem_filter.mpr ⟨h, hg⟩
theorem pp_tb_good : ∀ w ∈ pp_tb, (w.onTables && w.keeps) = true ∨ ∃ ty, w = .arrayClass ty := fun w h => good_of_word (List.mem_filter.mp h).2
def pp_args : Nat → List pp_V → List (Nat × pp_V)
  | _, [] => []
  | i, v :: l => (i, v) :: pp_args (cond (pp_isL v) (i + 2) (i + 1)) l
def pp_cs : List pp_V → Nat
  | [] => 0
  | v :: l => cond (pp_isL v) 2 1 + pp_cs l
theorem pp_cat1 (ad : Nat → Nat → Nat) (v : pp_V) : (ppv ad v).category = cond (pp_isL v) 2 1 := by
  rcases v with x | x | ⟨t, o, n⟩ <;> rfl
theorem pp_cs_eq (ad : Nat → Nat → Nat) : ∀ l : List pp_V, (((l.map (ppv ad))).map fun v => v.category).sum = pp_cs l
  | [] => rfl
  | v :: l => by simp only [List.map_cons, List.sum_cons, pp_cs, pp_cat1]; rw [← pp_cs_eq ad l]
theorem pp_sl_len (ad : Nat → Nat → Nat) : ∀ l : List pp_V, (lg_sl (l.map (ppv ad))).length = pp_cs l
  | [] => rfl
  | v :: l => by
    have ih := pp_sl_len ad l
    unfold lg_sl at ih ⊢
    simp only [List.map_cons, List.flatMap_cons, List.length_append, pp_cs, ih]
    rw [pp_cat1]
    cases pp_isL v <;> rfl
theorem pp_args_eq (X : pp_X) : ∀ (l : List pp_V) (i : Nat), lv_args i (l.map (ppv X.2.2.1)) = pp_lv X (pp_args i l)
  | [], i => rfl
  | v :: l, i => by
    simp only [List.map_cons, lv_args, pp_args, pp_lv]
    rw [pp_args_eq X l, pp_cat1]
    unfold pp_lv
    cases pp_isL v <;> rfl
section PPC
variable {Γ : pp_G} {ds : List (Nat × Nat)} {cc : ByteArray} {nL : Nat} {own : String} {F L pc : Nat} {lv lv' : List (Nat × pp_V)} {st : List pp_V} {σ : pp_M}
theorem pp_ireturn {v : Int32} (hF : pp_Fx Γ ds cc nL own F L) (hR : pp_Rt Γ ds (some .int) (some (ppI v)) σ) (d : decode cc pc = .ok (.ireturn, 1)) : pp_E Γ ds cc nL pc lv [ppI v] σ := by
  obtain ⟨⟨p, l, e, R, s, m, args, below, meth, c, Q, cl, sl, A⟩, X⟩ := Γ
  intro H locs ls hP hS hl
  obtain ⟨hr, rfl⟩ := hR
  exact W.iret hF.1 hF.2.1 hr (fun t ht hW => ⟨rfl, by rw [ht]; exact hP, va_K.moved hW.alike hF.2.2.2.2.2.1, hS.F ht⟩) hS.2.2 d hF.2.2.2.2.2.2.2.2.2.1
theorem pp_zreturn {v : Int32} (hF : pp_Fx Γ ds cc nL own F L) (hR : pp_Rt Γ ds (some .boolean) (some (ppI v)) σ) (hn : narrow .boolean (.int v) = .int v) (d : decode cc pc = .ok (.ireturn, 1)) : pp_E Γ ds cc nL pc lv [ppI v] σ := by
  obtain ⟨⟨p, l, e, R, s, m, args, below, meth, c, Q, cl, sl, A⟩, X⟩ := Γ
  intro H locs ls hP hS hl
  obtain ⟨hr, rfl⟩ := hR
  exact W.zret hF.1 hF.2.1 hr hn (fun t ht hW => ⟨rfl, by rw [ht]; exact hP, va_K.moved hW.alike hF.2.2.2.2.2.1, hS.F ht⟩) hS.2.2 d hF.2.2.2.2.2.2.2.2.2.1
theorem pp_lreturn {v : Int64} (hF : pp_Fx Γ ds cc nL own F L) (hR : pp_Rt Γ ds (some .long) (some (ppL v)) σ) (d : decode cc pc = .ok (.lreturn, 1)) : pp_E Γ ds cc nL pc lv [ppL v] σ := by
  obtain ⟨⟨p, l, e, R, s, m, args, below, meth, c, Q, cl, sl, A⟩, X⟩ := Γ
  intro H locs ls hP hS hl
  obtain ⟨hr, rfl⟩ := hR
  exact W.lret hF.1 hF.2.1 hr (fun t ht hW => ⟨rfl, by rw [ht]; exact hP, va_K.moved hW.alike hF.2.2.2.2.2.1, hS.F ht⟩) hS.2.2 d hF.2.2.2.2.2.2.2.2.2.1
theorem pp_return (hF : pp_Fx Γ ds cc nL own F L) (hR : pp_Rt Γ ds none none σ) (d : decode cc pc = .ok (.return_, 1)) : pp_E Γ ds cc nL pc lv [] σ := by
  obtain ⟨⟨p, l, e, R, s, m, args, below, meth, c, Q, cl, sl, A⟩, X⟩ := Γ
  intro H locs ls hP hS hl
  obtain ⟨hr, rfl⟩ := hR
  exact W.vret hF.1 hF.2.1 hr (fun t ht hW => ⟨rfl, by rw [ht]; exact hP, va_K.moved hW.alike hF.2.2.2.2.2.1, hS.F ht⟩) hS.2.2 d hF.2.2.2.2.2.2.2.2.2.1
/-- fewer locals -/
theorem pp_sub (hs : ∀ q ∈ lv', q ∈ lv) (k : pp_E Γ ds cc nL pc lv' st σ) : pp_E Γ ds cc nL pc lv st σ := by
  obtain ⟨⟨p, l, e, R, s, m, args, below, meth, c, Q, cl, sl, A⟩, X⟩ := Γ
  intro H locs ls hP hS hl
  exact k H locs ls hP hS (pp_has_sub hl (fun q hq => by
    obtain ⟨q0, h0, rfl⟩ := List.mem_map.mp hq
    exact List.mem_map.mpr ⟨q0, hs q0 h0, rfl⟩))
def pp_pick (l : List (Nat × pp_V)) : List Nat → List (Nat × pp_V)
  | [] => []
  | k :: ks => match l[k]? with
    | some q => q :: pp_pick l ks
    | none => pp_pick l ks
theorem pp_pick_mem {l : List (Nat × pp_V)} : ∀ {ks : List Nat} {q : Nat × pp_V}, q ∈ pp_pick l ks → q ∈ l
  | [], q, h => by simp [pp_pick] at h
  | k :: ks, q, h => by
    unfold pp_pick at h
    cases hk : l[k]? with
    | none => rw [hk] at h; exact pp_pick_mem h
    | some x =>
      rw [hk] at h
      rcases List.mem_cons.mp h with h | h
      · rw [h]; exact List.mem_of_getElem? hk
      · exact pp_pick_mem h
theorem pp_few (ks : List Nat) (hs : pp_pick lv ks = lv') (k : pp_E Γ ds cc nL pc lv' st σ) : pp_E Γ ds cc nL pc lv st σ := pp_sub (fun _ hq => pp_pick_mem (by rw [hs]; exact hq)) k
/-- a contract out of the walk of a body -/
theorem pp_met {y : MethodName} {ret : Option FieldType} {as : List pp_V} {σ' : pp_M} {r : Option pp_V} (hy : plainName y.cls = true) (hown : y.cls = own) (hok : pp_ok ds) (hn : pp_cs as ≤ nL) (hlv : pp_args 0 as = lv)
    (body : ∀ Γ : pp_G, pp_Fx Γ ds cc nL own F L → pp_Rt Γ ds ret r σ' → pp_E Γ ds cc nL 0 lv [] σ) : pp_Ct y cc nL ret F L ds as σ r σ' := by
  intro l X hI
  subst hown
  refine Met.ofW (cc := cc) (maxL := nL) (ret := ret) hy rfl ?_
  intro p e s m args below meth c s₁ B hml hv
  obtain ⟨rfl, hP, hK, hNw⟩ := hv
  have hts := atoms_spec (ws := .code y cc nL ret :: pp_tb) B.pre
  rw [lg_entry_eq]
  have hl := lv_entry (as.map (ppv X.2.2.1)) (n := nL) (by rw [pp_sl_len]; exact hn)
  rw [pp_args_eq, hlv] at hl
  exact body ((p, l, e, _, s, m, _, below, meth, c, MQ below (pp_Qc X ds (pp_A X ds) r σ') _ s 0 0 (pp_A X ds), 0, 0, pp_A X ds), X) ⟨B.exec, B.bytes, hml, findClass_of_methodNamed B.named, fun w hw => hts w (List.mem_cons_of_mem _ hw), hK, ⟨hI, hok, fun _ h => h⟩, ⟨Nat.le_refl _, Nat.le_refl _⟩, ⟨Nat.zero_le _, Nat.zero_le _⟩, B.notSynchronized, hNw⟩ ⟨B.returns, rfl⟩ s.heap [] _ hP va_S.rf hl
/-- what a call of an instance method needs of the tables; of a static one -/
def pp_MV (y : MethodName) (cc : ByteArray) (nL : Nat) (ret : Option FieldType) (n : Nat) : Prop := Cond.code y cc nL ret ∈ pp_tb ∧ Cond.initialized y.cls ∈ pp_tb ∧ (y.cls ≠ "java/lang/invoke/MethodHandle" ∧ y.cls ≠ "java/lang/invoke/VarHandle" ∧ (parseMethodDescriptor y.desc).map (fun d => d.parameters.length) = some n) ∧ Cond.instanceMethod y ∈ pp_tb ∧ Cond.selects y.cls y y ∈ pp_tb
def pp_MS (y : MethodName) (cc : ByteArray) (nL : Nat) (ret : Option FieldType) (n : Nat) : Prop := Cond.code y cc nL ret ∈ pp_tb ∧ Cond.initialized y.cls ∈ pp_tb ∧ (y.cls ≠ "java/lang/invoke/MethodHandle" ∧ y.cls ≠ "java/lang/invoke/VarHandle" ∧ (parseMethodDescriptor y.desc).map (fun d => d.parameters.length) = some n) ∧ Cond.static y ∈ pp_tb
/-- how the class own names the method y by idx -/
def pp_Lk (own : String) (idx : Nat) (y : MethodName) : Prop := Cond.methodLink own idx y ∈ pp_tb ∨ (own, idx, y) ∈ pp_nb
theorem pp_goodIn {y : MethodName} {ret : Option FieldType} (h : Cond.code y cc nL ret ∈ pp_tb) : GoodIn pp_tb (.code y cc nL ret :: pp_tb) := fun w hw => by
  rcases List.mem_cons.mp hw with h1 | h1
  · subst h1; exact ⟨h, pp_tb_good _ h⟩
  · exact ⟨h1, pp_tb_good _ h1⟩
theorem pp_blind {X : pp_X} {as : List pp_V} : FrameBlind (pp_Pc X ds as σ) := fun a U g mk q => ⟨q.1, q.2.1, va_K.moved (u := U) (U := U.calling g mk a) (Vm.Alike.refl U.vm) q.2.2.1, pp_Nw.same (u := U) (U := U.calling g mk a) rfl q.2.2.2⟩
/-- behind a call -/
theorem pp_run {p : Program} {l : Launch} {e : Env} {R : Room} {s : State} {m : MethodId} {args : Array Value} {below : List Frame} {meth : Method} {c : Code} {Q : State → Prop} {cl sl : Nat} {A : Nat → Prop} {X : pp_X} {H : Heap} {locs : List Loc} {ls : Array Slot} {stk : List Value} {rest : List pp_V} {r : Option pp_V} {σ' : pp_M} {a : Array Value}
    (hr : va_Run p l e R s m args below meth c H locs cl sl 0 0 (F0 m pc ls stk) (rest.map (ppv X.2.2.1)) (pp_Qc X ds (pp_A X ds) r σ' a) (pp_A X ds)) (hA : ∀ q, pp_A X ds q → A q) (hS : va_S A s.heap H locs) (hl : lv_has ls nL (pp_lv X lv))
    (kk : pp_E ((p, l, e, R, s, m, args, below, meth, c, Q, cl, sl, A), X) ds cc nL (pc + 3) lv (r.toList ++ rest) σ') : W p l e R s m args below meth c H locs cl sl Q (F0 m pc ls stk) := by
  intro T hT Xs
  obtain ⟨v, st₀, t, T', L', h0, X', hL, e1, e2, ⟨hv, hP1, hK1, hz, hk⟩, stp⟩ := hr T hT Xs
  cases hv
  rw [h0] at hz hk
  have k1 := kk T'.heap (locs ++ L') ls (by rw [e1]; exact hP1) ⟨Nat.le_trans hS.1 (by rw [e1]; exact hz), fun q h1 h2 => by rw [e1, hk q (Nat.lt_of_lt_of_le h1 hS.1) (fun z => h2 (hA q z))]; exact hS.2.1 q h1 h2, fun q hq => by
      rcases List.mem_append.mp hq with h | h
      · exact hS.2.2 q h
      · exact hA _ (hL q h)⟩ hl T' rfl X'
  obtain ⟨t2, a1, b1⟩ := k1
  refine ⟨t2, stp t2 ?_, b1⟩
  rw [List.map_append] at a1
  cases r <;> exact a1
/-- the token t is an object of the class C -/
def pp_ob (ds : List (Nat × Nat)) (t : Nat) (C : String) : Prop := ∃ (ci N : Nat) (T : u_T) (fs : List (Nat × Nat × Nat × Nat)), (t, 0) ∈ ds ∧ pp_cl[ci]? = some (C, T, N) ∧ pp_e t = (0, ci, N, fs)
theorem pp_callV {y : MethodName} {cc' : ByteArray} {nL' F' L' n idx t : Nat} {ret : Option FieldType} {as stk rest : List pp_V} {r : Option pp_V} {σ' : pp_M} (hF : pp_Fx Γ ds cc nL own F L) (hC : pp_Ct y cc' nL' ret F' L' ds (ppR t 0 0 :: as) σ r σ') (hM : pp_MV y cc' nL' ret n) (hk : pp_Lk own idx y) (hO : pp_ob ds t y.cls)
    (hn : as.length = n) (hst : stk = as.reverse ++ ppR t 0 0 :: rest) (hroom : F' + 1 ≤ F ∧ 8 + (nL' + 11) + L' ≤ L) (hcs : pp_cs rest ≤ 8) (d : decode cc pc = .ok (.invokevirtual idx, 3)) (kk : pp_E Γ ds cc nL (pc + 3) lv (r.toList ++ rest) σ') : pp_E Γ ds cc nL pc lv stk σ := by
  obtain ⟨⟨p, l, e, R, s, m, args, below, meth, c, Q, cl, sl, A⟩, X⟩ := Γ
  intro H locs ls hP hS hl
  subst hst
  obtain ⟨hx, hb, hml, hown, hts, hK, ⟨hI, hok, hA⟩, hrm, hcl0, hlocks, hNw⟩ := hF
  obtain ⟨m1, m2, m3, m4, m5⟩ := hM
  obtain ⟨ci, N, T, fs, ht, hcl, he⟩ := hO
  obtain ⟨q, hq, hw⟩ := pp_wd_at (X := X) (σ := σ) ht
  rw [pp_cell_o he] at hw
  have hrv : ∃ cellB : Cell, H[X.2.2.1 t 0]? = some cellB ∧ cellB.vm.isStatics = false ∧ s.vm.findClass y.cls = some cellB.cls := va_recv hK hP (ci := ci) (q0 := q) hcl hw
  have hpre : PreV s H y.cls (X.2.2.1 t 0) (pp_Pc X ds (ppR t 0 0 :: as) σ) (as.map (ppv X.2.2.1)) := ⟨pp_blind, hrv, fun U hU hW => ⟨rfl, by rw [hU]; exact hP, va_K.moved hW.alike hK, hNw.warm hW⟩⟩
  have hR' : F' + 1 ≤ R.frames ∧ 8 + (nL' + 11) + L' ≤ R.locals := ⟨Nat.le_trans hroom.1 hrm.1, Nat.le_trans hroom.2 hrm.2⟩
  have hcs' : 2 * (F0 m pc ls ((as.reverse ++ ppR t 0 0 :: rest).map (ppv X.2.2.1))).monitorRoom + ((rest.map (ppv X.2.2.1)).map fun v => v.category).sum ≤ 8 := lv_room (by rw [pp_cs_eq]; exact hcs)
  refine pp_run (a := (Value.ref (X.2.2.1 t 0) :: as.map (ppv X.2.2.1)).toArray) ?_ hA hS hl kk
  rcases hk with hk | hk
  · exact va_runV (As := as.map (ppv X.2.2.1)) (rest := rest.map (ppv X.2.2.1)) ⟨hx, hb, hml, hown, hts⟩ (hC l X hI) ⟨callB_of n hts (pp_goodIn m1) rfl rfl rfl (hts _ m2) (hts _ hk) m3 hR', hts _ m4, hts _ m5⟩ hpre rfl (by rw [List.length_map]; exact hn) hl.1 (by simp [ppv, ppR]) hcs' d hcl0
  · exact va_runVN (As := as.map (ppv X.2.2.1)) (rest := rest.map (ppv X.2.2.1)) ⟨hx, hb, hml, hown, hts⟩ (hC l X hI) ⟨⟨⟨rfl, rfl, hR'.1, hR'.2, pay_in hts (pp_goodIn m1), List.mem_cons_self⟩, hts _ m1, hts _ m2, ⟨m3.1, m3.2.1⟩, (fun sig h => by have h2 := m3.2.2; rw [h] at h2; exact (Option.some.inj h2).symm), va_Nw.use rfl (hNw _ hk)⟩, hts _ m4, hts _ m5⟩ hpre rfl (by rw [List.length_map]; exact hn) hl.1 (by simp [ppv, ppR]) hcs' d hcl0
theorem pp_callS {y : MethodName} {cc' : ByteArray} {nL' F' L' n idx : Nat} {ret : Option FieldType} {as stk rest : List pp_V} {r : Option pp_V} {σ' : pp_M} (hF : pp_Fx Γ ds cc nL own F L) (hC : pp_Ct y cc' nL' ret F' L' ds as σ r σ') (hM : pp_MS y cc' nL' ret n) (hk : pp_Lk own idx y)
    (hn : as.length = n) (hst : stk = as.reverse ++ rest) (hroom : F' + 1 ≤ F ∧ 8 + (nL' + 11) + L' ≤ L) (hcs : pp_cs rest ≤ 8) (d : decode cc pc = .ok (.invokestatic idx, 3)) (kk : pp_E Γ ds cc nL (pc + 3) lv (r.toList ++ rest) σ') : pp_E Γ ds cc nL pc lv stk σ := by
  obtain ⟨⟨p, l, e, R, s, m, args, below, meth, c, Q, cl, sl, A⟩, X⟩ := Γ
  intro H locs ls hP hS hl
  subst hst
  obtain ⟨hx, hb, hml, hown, hts, hK, ⟨hI, hok, hA⟩, hrm, hcl0, hlocks, hNw⟩ := hF
  obtain ⟨m1, m2, m3, m4⟩ := hM
  have hpre : PreS s H (pp_Pc X ds as σ) (as.map (ppv X.2.2.1)) := ⟨pp_blind, fun U hU hW => ⟨rfl, by rw [hU]; exact hP, va_K.moved hW.alike hK, hNw.warm hW⟩⟩
  have hR' : F' + 1 ≤ R.frames ∧ 8 + (nL' + 11) + L' ≤ R.locals := ⟨Nat.le_trans hroom.1 hrm.1, Nat.le_trans hroom.2 hrm.2⟩
  have hcs' : 2 * (F0 m pc ls ((as.reverse ++ rest).map (ppv X.2.2.1))).monitorRoom + ((rest.map (ppv X.2.2.1)).map fun v => v.category).sum ≤ 8 := lv_room (by rw [pp_cs_eq]; exact hcs)
  refine pp_run (a := (as.map (ppv X.2.2.1)).toArray) ?_ hA hS hl kk
  rcases hk with hk | hk
  · exact va_runS (As := as.map (ppv X.2.2.1)) (rest := rest.map (ppv X.2.2.1)) ⟨hx, hb, hml, hown, hts⟩ (hC l X hI) ⟨callB_of n hts (pp_goodIn m1) rfl rfl rfl (hts _ m2) (hts _ hk) m3 hR', hts _ m4⟩ hpre rfl (by rw [List.length_map]; exact hn) hl.1 (by simp [ppv, ppR]) hcs' d hcl0
  · exact va_runSN (As := as.map (ppv X.2.2.1)) (rest := rest.map (ppv X.2.2.1)) ⟨hx, hb, hml, hown, hts⟩ (hC l X hI) ⟨⟨⟨rfl, rfl, hR'.1, hR'.2, pay_in hts (pp_goodIn m1), List.mem_cons_self⟩, hts _ m1, hts _ m2, ⟨m3.1, m3.2.1⟩, (fun sig h => by have h2 := m3.2.2; rw [h] at h2; exact (Option.some.inj h2).symm), va_Nw.use rfl (hNw _ hk)⟩, hts _ m4, trivial⟩ hpre rfl (by rw [List.length_map]; exact hn) hl.1 (by simp [ppv, ppR]) hcs' d hcl0
theorem pp_callVi {y : MethodName} {cc' : ByteArray} {nL' F' L' n idx t : Nat} {ret : Option FieldType} {as stk rest : List pp_V} {v : Int32} {σ' : pp_M} (hF : pp_Fx Γ ds cc nL own F L) (hC : pp_Ct y cc' nL' ret F' L' ds (ppR t 0 0 :: as) σ (some (ppI v)) σ') (hM : pp_MV y cc' nL' ret n) (hk : pp_Lk own idx y) (hO : pp_ob ds t y.cls) (hn : as.length = n) (hst : stk = as.reverse ++ ppR t 0 0 :: rest) (hroom : F' + 1 ≤ F ∧ 8 + (nL' + 11) + L' ≤ L) (hcs : pp_cs rest ≤ 8) (d : decode cc pc = .ok (.invokevirtual idx, 3)) (kk : pp_E Γ ds cc nL (pc + 3) lv (ppI v :: rest) σ') : pp_E Γ ds cc nL pc lv stk σ := pp_callV hF hC hM hk hO hn hst hroom hcs d kk
theorem pp_callSi {y : MethodName} {cc' : ByteArray} {nL' F' L' n idx : Nat} {ret : Option FieldType} {as stk rest : List pp_V} {v : Int32} {σ' : pp_M} (hF : pp_Fx Γ ds cc nL own F L) (hC : pp_Ct y cc' nL' ret F' L' ds as σ (some (ppI v)) σ') (hM : pp_MS y cc' nL' ret n) (hk : pp_Lk own idx y) (hn : as.length = n) (hst : stk = as.reverse ++ rest) (hroom : F' + 1 ≤ F ∧ 8 + (nL' + 11) + L' ≤ L) (hcs : pp_cs rest ≤ 8) (d : decode cc pc = .ok (.invokestatic idx, 3)) (kk : pp_E Γ ds cc nL (pc + 3) lv (ppI v :: rest) σ') : pp_E Γ ds cc nL pc lv stk σ := pp_callS hF hC hM hk hn hst hroom hcs d kk
theorem pp_callVl {y : MethodName} {cc' : ByteArray} {nL' F' L' n idx t : Nat} {ret : Option FieldType} {as stk rest : List pp_V} {v : Int64} {σ' : pp_M} (hF : pp_Fx Γ ds cc nL own F L) (hC : pp_Ct y cc' nL' ret F' L' ds (ppR t 0 0 :: as) σ (some (ppL v)) σ') (hM : pp_MV y cc' nL' ret n) (hk : pp_Lk own idx y) (hO : pp_ob ds t y.cls) (hn : as.length = n) (hst : stk = as.reverse ++ ppR t 0 0 :: rest) (hroom : F' + 1 ≤ F ∧ 8 + (nL' + 11) + L' ≤ L) (hcs : pp_cs rest ≤ 8) (d : decode cc pc = .ok (.invokevirtual idx, 3)) (kk : pp_E Γ ds cc nL (pc + 3) lv (ppL v :: rest) σ') : pp_E Γ ds cc nL pc lv stk σ := pp_callV hF hC hM hk hO hn hst hroom hcs d kk
theorem pp_callSl {y : MethodName} {cc' : ByteArray} {nL' F' L' n idx : Nat} {ret : Option FieldType} {as stk rest : List pp_V} {v : Int64} {σ' : pp_M} (hF : pp_Fx Γ ds cc nL own F L) (hC : pp_Ct y cc' nL' ret F' L' ds as σ (some (ppL v)) σ') (hM : pp_MS y cc' nL' ret n) (hk : pp_Lk own idx y) (hn : as.length = n) (hst : stk = as.reverse ++ rest) (hroom : F' + 1 ≤ F ∧ 8 + (nL' + 11) + L' ≤ L) (hcs : pp_cs rest ≤ 8) (d : decode cc pc = .ok (.invokestatic idx, 3)) (kk : pp_E Γ ds cc nL (pc + 3) lv (ppL v :: rest) σ') : pp_E Γ ds cc nL pc lv stk σ := pp_callS hF hC hM hk hn hst hroom hcs d kk
theorem pp_callVv {y : MethodName} {cc' : ByteArray} {nL' F' L' n idx t : Nat} {ret : Option FieldType} {as stk rest : List pp_V} {σ' : pp_M} (hF : pp_Fx Γ ds cc nL own F L) (hC : pp_Ct y cc' nL' ret F' L' ds (ppR t 0 0 :: as) σ none σ') (hM : pp_MV y cc' nL' ret n) (hk : pp_Lk own idx y) (hO : pp_ob ds t y.cls) (hn : as.length = n) (hst : stk = as.reverse ++ ppR t 0 0 :: rest) (hroom : F' + 1 ≤ F ∧ 8 + (nL' + 11) + L' ≤ L) (hcs : pp_cs rest ≤ 8) (d : decode cc pc = .ok (.invokevirtual idx, 3)) (kk : pp_E Γ ds cc nL (pc + 3) lv (rest) σ') : pp_E Γ ds cc nL pc lv stk σ := pp_callV hF hC hM hk hO hn hst hroom hcs d kk
theorem pp_callSv {y : MethodName} {cc' : ByteArray} {nL' F' L' n idx : Nat} {ret : Option FieldType} {as stk rest : List pp_V} {σ' : pp_M} (hF : pp_Fx Γ ds cc nL own F L) (hC : pp_Ct y cc' nL' ret F' L' ds as σ none σ') (hM : pp_MS y cc' nL' ret n) (hk : pp_Lk own idx y) (hn : as.length = n) (hst : stk = as.reverse ++ rest) (hroom : F' + 1 ≤ F ∧ 8 + (nL' + 11) + L' ≤ L) (hcs : pp_cs rest ≤ 8) (d : decode cc pc = .ok (.invokestatic idx, 3)) (kk : pp_E Γ ds cc nL (pc + 3) lv (rest) σ') : pp_E Γ ds cc nL pc lv stk σ := pp_callS hF hC hM hk hn hst hroom hcs d kk
/-- System.arraycopy of ints -/
abbrev pp_cpOk (sp dp n : Int32) (w w' : Nat) : Prop := ¬ sp < 0 ∧ ¬ dp < 0 ∧ ¬ n < 0 ∧ sp.toNatClampNeg + n.toNatClampNeg ≤ w ∧ dp.toNatClampNeg + n.toNatClampNeg ≤ w'
theorem pp_acopy {sp dp n : Int32} {t o w u q w' idx : Nat} {rest : List pp_V} (hF : pp_Fx Γ ds cc nL own F L) (ha : pp_ai ds t o w) (hb : pp_ai ds u q w') (hc : pp_cpOk sp dp n w w') (hk : Cond.methodLink own idx arraycopyName ∈ pp_tb) (hnat : Cond.native arraycopyName ∈ pp_tb) (hstat : Cond.static arraycopyName ∈ pp_tb) (hini : Cond.initialized "java/lang/System" ∈ pp_tb) (hroom : 1 ≤ F ∧ 8 + (nativeFrameWords "java/lang/System" "arraycopy" 5 + 11) ≤ L) (hcs : pp_cs rest ≤ 8) (d : decode cc pc = .ok (.invokestatic idx, 3)) (kk : pp_E Γ ds cc nL (pc + 3) lv rest (ppC σ t o u q sp.toNatClampNeg dp.toNatClampNeg n.toNatClampNeg)) : pp_E Γ ds cc nL pc lv (ppI n :: ppI dp :: ppR u q w' :: ppI sp :: ppR t o w :: rest) σ := by
  obtain ⟨⟨p, l, e, R, s, m, args, below, meth, c, Q, cl, sl, A⟩, X⟩ := Γ
  intro H locs ls hP hS hl
  obtain ⟨hx, hbc, hml, hown, hts, hK, ⟨hI, hok, hA⟩, hrm, hcl0, hlocks, hNw⟩ := hF
  obtain ⟨k0, hk0, hw0⟩ := pp_wd_at (X := X) (σ := σ) ha.1
  obtain ⟨k1, hk1, hw1⟩ := pp_wd_at (X := X) (σ := σ) hb.1
  rw [pp_cell_i ha.2] at hw0
  rw [pp_cell_i hb.2] at hw1
  obtain ⟨h1, h2, h3, h4, h5⟩ := hc
  refine va_copyi hx hbc (hml.trans hl.1.symm) hown (hts _ hk) (hts _ hnat) (hts _ hstat) (hts _ hini) hK hP (pp_wd_D hI hA) hS k0 k1 0 0 hw0 hw1 rfl rfl rfl h1 h2 h3 h4 h5 (fun _ _ => rfl) (Nat.le_trans hroom.1 hrm.1) (by rw [pp_cs_eq]; have := hrm.2; have := hroom.2; omega) d (fun H1 locs1 hP1 _ hS1 => kk H1 locs1 ls ?_ hS1 hl)
  rw [pp_wd_set (σ := σ) (σ' := ppC σ t o u q sp.toNatClampNeg dp.toNatClampNeg n.toNatClampNeg) hk1 hI rfl ?_ (pp_other hok hb.1 hb.2 (Or.inl rfl) rfl ?_)] at hP1
  · exact hP1
  · rw [pp_cell_i hb.2]
    congr 4
    funext j
    unfold va_cpy ppC
    by_cases hj : dp.toNatClampNeg ≤ j ∧ j < dp.toNatClampNeg + n.toNatClampNeg
    · have a1 : sp.toNatClampNeg + (j - dp.toNatClampNeg) < w := by omega
      have a2 : j < w' := by omega
      have a3 : q + dp.toNatClampNeg ≤ q + j ∧ q + j < q + dp.toNatClampNeg + n.toNatClampNeg := ⟨by omega, by omega⟩
      simp only [if_pos hj, if_pos a1, if_pos a2, true_and, if_pos a3]
      rw [show q + j - (q + dp.toNatClampNeg) = j - dp.toNatClampNeg by omega, Nat.add_assoc]
    · have a3 : ¬ (q + dp.toNatClampNeg ≤ q + j ∧ q + j < q + dp.toNatClampNeg + n.toNatClampNeg) := fun h => hj ⟨by omega, by omega⟩
      simp only [if_neg hj, true_and, if_neg a3]
  · intro a b hab
    unfold ppC
    refine if_neg (fun h => hab ⟨h.1, ?_⟩)
    omega
end PPC
abbrev pp_ix (i : Int32) (n : Nat) : Prop := ¬ (i < 0 ∨ n ≤ i.toNatClampNeg)
abbrev pp_b (v : Int32) : Prop := v = 0 ∨ v = 1
theorem pp_bn {v : Int32} (h : pp_b v) : narrow .boolean (.int v) = .int v := by
  rcases h with rfl | rfl <;> rfl
/-! the shapes of the functions: a test that must hold, a call -/
theorem pp_ck {α : Type} {c : Prop} [Decidable c] {a : Option α} {r : α} (h : (if c then a else none) = some r) : c ∧ a = some r := by
  by_cases hc : c
  · rw [if_pos hc] at h; exact ⟨hc, h⟩
  · rw [if_neg hc] at h; cases h
theorem pp_bd {α β : Type} {a : Option α} {f : α → Option β} {r : β} (h : a.bind f = some r) : ∃ x, a = some x ∧ f x = some r := by
  cases a with
  | none => cases h
  | some x => exact ⟨x, rfl, h⟩
end
section
/-! literals, words of the tables, fields, methods: each by its place -/
theorem bc_n10 : (Int8.ofInt (-10)).toInt32 = (-10 : Int32) := by decide
theorem bc_n4 : (Int8.ofInt (-4)).toInt32 = (-4 : Int32) := by decide
theorem bc_n3 : (Int8.ofInt (-3)).toInt32 = (-3 : Int32) := by decide
theorem bc_n2 : (Int8.ofInt (-2)).toInt32 = (-2 : Int32) := by decide
theorem bc_6 : (Int8.ofInt (6)).toInt32 = (6 : Int32) := by decide
theorem bc_7 : (Int8.ofInt (7)).toInt32 = (7 : Int32) := by decide
theorem bc_8 : (Int8.ofInt (8)).toInt32 = (8 : Int32) := by decide
theorem bc_10 : (Int8.ofInt (10)).toInt32 = (10 : Int32) := by decide
theorem bc_16 : (Int8.ofInt (16)).toInt32 = (16 : Int32) := by decide
theorem bc_18 : (Int8.ofInt (18)).toInt32 = (18 : Int32) := by decide
theorem bc_20 : (Int8.ofInt (20)).toInt32 = (20 : Int32) := by decide
theorem bc_24 : (Int8.ofInt (24)).toInt32 = (24 : Int32) := by decide
theorem bc_32 : (Int8.ofInt (32)).toInt32 = (32 : Int32) := by decide
theorem bc_40 : (Int8.ofInt (40)).toInt32 = (40 : Int32) := by decide
theorem bc_44 : (Int8.ofInt (44)).toInt32 = (44 : Int32) := by decide
theorem bc_48 : (Int8.ofInt (48)).toInt32 = (48 : Int32) := by decide
theorem bc_57 : (Int8.ofInt (57)).toInt32 = (57 : Int32) := by decide
theorem bc_58 : (Int8.ofInt (58)).toInt32 = (58 : Int32) := by decide
theorem bc_59 : (Int8.ofInt (59)).toInt32 = (59 : Int32) := by decide
theorem bc_60 : (Int8.ofInt (60)).toInt32 = (60 : Int32) := by decide
theorem bc_61 : (Int8.ofInt (61)).toInt32 = (61 : Int32) := by decide
theorem bc_63 : (Int8.ofInt (63)).toInt32 = (63 : Int32) := by decide
theorem bc_64 : (Int8.ofInt (64)).toInt32 = (64 : Int32) := by decide
theorem bc_99 : (Int8.ofInt (99)).toInt32 = (99 : Int32) := by decide
theorem bc_100 : (Int8.ofInt (100)).toInt32 = (100 : Int32) := by decide
theorem bc_127 : (Int8.ofInt (127)).toInt32 = (127 : Int32) := by decide
theorem cl_0 : (0 : Int32).toNatClampNeg = 0 := by decide
theorem cl_1 : (1 : Int32).toNatClampNeg = 1 := by decide
theorem cl_2 : (2 : Int32).toNatClampNeg = 2 := by decide
theorem ic_n1 : Int32.ofInt (-1) = (-1 : Int32) := by decide
theorem ic_0 : Int32.ofInt (0) = (0 : Int32) := by decide
theorem ic_1 : Int32.ofInt (1) = (1 : Int32) := by decide
theorem ic_2 : Int32.ofInt (2) = (2 : Int32) := by decide
theorem ic_3 : Int32.ofInt (3) = (3 : Int32) := by decide
theorem ic_4 : Int32.ofInt (4) = (4 : Int32) := by decide
theorem ic_5 : Int32.ofInt (5) = (5 : Int32) := by decide
theorem lc_0 : Int64.ofNat ((0 : Fin 2) : Nat) = (0 : Int64) := by decide
theorem lc_1 : Int64.ofNat ((1 : Fin 2) : Nat) = (1 : Int64) := by decide
theorem sc_128 : (Int16.ofInt (128)).toInt32 = (128 : Int32) := by decide
theorem sc_200 : (Int16.ofInt (200)).toInt32 = (200 : Int32) := by decide
theorem sc_255 : (Int16.ofInt (255)).toInt32 = (255 : Int32) := by decide
theorem sc_1000 : (Int16.ofInt (1000)).toInt32 = (1000 : Int32) := by decide
theorem sc_15625 : (Int16.ofInt (15625)).toInt32 = (15625 : Int32) := by decide
theorem vl_0_6 : vp_in 0 6 := by unfold vp_in; decide
theorem vl_0_7 : vp_in 0 7 := by unfold vp_in; decide
theorem vl_0_8 : vp_in 0 8 := by unfold vp_in; decide
theorem vl_1_6 : vp_in 1 6 := by unfold vp_in; decide
theorem vl_2_6 : vp_in 2 6 := by unfold vp_in; decide
theorem wm_0 : (Cond.selects "PedlarPack$Land" ({ cls := "PedlarPack$Land", name := "findWays", desc := "()V" } : Jvm.MethodName) ({ cls := "PedlarPack$Land", name := "findWays", desc := "()V" } : Jvm.MethodName)) ∈ pp_tb := pp_tb_mem (List.mem_of_getElem? (i := 0) (by decide +kernel)) (by decide +kernel)
theorem wm_1 : (Cond.selects "PedlarPack$Line" ({ cls := "PedlarPack$Line", name := "readPart", desc := "(I)I" } : Jvm.MethodName) ({ cls := "PedlarPack$Line", name := "readPart", desc := "(I)I" } : Jvm.MethodName)) ∈ pp_tb := pp_tb_mem (List.mem_of_getElem? (i := 1) (by decide +kernel)) (by decide +kernel)
theorem wm_2 : (Cond.selects "PedlarPack$Line" ({ cls := "PedlarPack$Line", name := "figureAt", desc := "(I)I" } : Jvm.MethodName) ({ cls := "PedlarPack$Line", name := "figureAt", desc := "(I)I" } : Jvm.MethodName)) ∈ pp_tb := pp_tb_mem (List.mem_of_getElem? (i := 2) (by decide +kernel)) (by decide +kernel)
theorem wm_3 : (Cond.selects "PedlarPack$Line" ({ cls := "PedlarPack$Line", name := "isAt", desc := "(IC)Z" } : Jvm.MethodName) ({ cls := "PedlarPack$Line", name := "isAt", desc := "(IC)Z" } : Jvm.MethodName)) ∈ pp_tb := pp_tb_mem (List.mem_of_getElem? (i := 3) (by decide +kernel)) (by decide +kernel)
theorem wm_4 : (Cond.selects "PedlarPack$Line" ({ cls := "PedlarPack$Line", name := "readChances", desc := "(I)I" } : Jvm.MethodName) ({ cls := "PedlarPack$Line", name := "readChances", desc := "(I)I" } : Jvm.MethodName)) ∈ pp_tb := pp_tb_mem (List.mem_of_getElem? (i := 4) (by decide +kernel)) (by decide +kernel)
theorem wm_5 : (Cond.selects "PedlarPack$Doors" ({ cls := "PedlarPack$Doors", name := "meanAsked", desc := "(IIIII)J" } : Jvm.MethodName) ({ cls := "PedlarPack$Doors", name := "meanAsked", desc := "(IIIII)J" } : Jvm.MethodName)) ∈ pp_tb := pp_tb_mem (List.mem_of_getElem? (i := 5) (by decide +kernel)) (by decide +kernel)
theorem wm_6 : (Cond.selects "PedlarPack" ({ cls := "PedlarPack", name := "weighUp", desc := "()V" } : Jvm.MethodName) ({ cls := "PedlarPack", name := "weighUp", desc := "()V" } : Jvm.MethodName)) ∈ pp_tb := pp_tb_mem (List.mem_of_getElem? (i := 6) (by decide +kernel)) (by decide +kernel)
theorem wm_7 : (Cond.selects "PedlarPack$Packer" ({ cls := "PedlarPack$Packer", name := "fillMost", desc := "(III)V" } : Jvm.MethodName) ({ cls := "PedlarPack$Packer", name := "fillMost", desc := "(III)V" } : Jvm.MethodName)) ∈ pp_tb := pp_tb_mem (List.mem_of_getElem? (i := 7) (by decide +kernel)) (by decide +kernel)
theorem wm_8 : (Cond.selects "PedlarPack$Packer" ({ cls := "PedlarPack$Packer", name := "leastNumber", desc := "(II)I" } : Jvm.MethodName) ({ cls := "PedlarPack$Packer", name := "leastNumber", desc := "(II)I" } : Jvm.MethodName)) ∈ pp_tb := pp_tb_mem (List.mem_of_getElem? (i := 8) (by decide +kernel)) (by decide +kernel)
theorem wm_9 : (Cond.selects "PedlarPack" ({ cls := "PedlarPack", name := "numberOrWeight", desc := "([II)I" } : Jvm.MethodName) ({ cls := "PedlarPack", name := "numberOrWeight", desc := "([II)I" } : Jvm.MethodName)) ∈ pp_tb := pp_tb_mem (List.mem_of_getElem? (i := 9) (by decide +kernel)) (by decide +kernel)
theorem wm_10 : (Cond.selects "PedlarPack" ({ cls := "PedlarPack", name := "loadTerm", desc := "(II)J" } : Jvm.MethodName) ({ cls := "PedlarPack", name := "loadTerm", desc := "(II)J" } : Jvm.MethodName)) ∈ pp_tb := pp_tb_mem (List.mem_of_getElem? (i := 10) (by decide +kernel)) (by decide +kernel)
theorem wm_11 : (Cond.selects "PedlarPack$Packer" ({ cls := "PedlarPack$Packer", name := "nextLoaded", desc := "(I)I" } : Jvm.MethodName) ({ cls := "PedlarPack$Packer", name := "nextLoaded", desc := "(I)I" } : Jvm.MethodName)) ∈ pp_tb := pp_tb_mem (List.mem_of_getElem? (i := 11) (by decide +kernel)) (by decide +kernel)
theorem wm_12 : (Cond.selects "PedlarPack$Packer" ({ cls := "PedlarPack$Packer", name := "stepGain", desc := "(II)J" } : Jvm.MethodName) ({ cls := "PedlarPack$Packer", name := "stepGain", desc := "(II)J" } : Jvm.MethodName)) ∈ pp_tb := pp_tb_mem (List.mem_of_getElem? (i := 12) (by decide +kernel)) (by decide +kernel)
theorem wm_13 : (Cond.selects "PedlarPack$Packer" ({ cls := "PedlarPack$Packer", name := "nextStep", desc := "()I" } : Jvm.MethodName) ({ cls := "PedlarPack$Packer", name := "nextStep", desc := "()I" } : Jvm.MethodName)) ∈ pp_tb := pp_tb_mem (List.mem_of_getElem? (i := 13) (by decide +kernel)) (by decide +kernel)
theorem wm_14 : (Cond.selects "PedlarPack" ({ cls := "PedlarPack", name := "tooManyOpen", desc := "()Z" } : Jvm.MethodName) ({ cls := "PedlarPack", name := "tooManyOpen", desc := "()Z" } : Jvm.MethodName)) ∈ pp_tb := pp_tb_mem (List.mem_of_getElem? (i := 14) (by decide +kernel)) (by decide +kernel)
theorem wm_15 : (Cond.selects "PedlarPack$Rounds" ({ cls := "PedlarPack$Rounds", name := "clear", desc := "()V" } : Jvm.MethodName) ({ cls := "PedlarPack$Rounds", name := "clear", desc := "()V" } : Jvm.MethodName)) ∈ pp_tb := pp_tb_mem (List.mem_of_getElem? (i := 15) (by decide +kernel)) (by decide +kernel)
theorem wm_16 : (Cond.selects "PedlarPack$Rounds" ({ cls := "PedlarPack$Rounds", name := "lengthen", desc := "(IIIII)V" } : Jvm.MethodName) ({ cls := "PedlarPack$Rounds", name := "lengthen", desc := "(IIIII)V" } : Jvm.MethodName)) ∈ pp_tb := pp_tb_mem (List.mem_of_getElem? (i := 16) (by decide +kernel)) (by decide +kernel)
theorem wm_17 : (Cond.selects "PedlarPack$Rounds" ({ cls := "PedlarPack$Rounds", name := "judge", desc := "(III)V" } : Jvm.MethodName) ({ cls := "PedlarPack$Rounds", name := "judge", desc := "(III)V" } : Jvm.MethodName)) ∈ pp_tb := pp_tb_mem (List.mem_of_getElem? (i := 17) (by decide +kernel)) (by decide +kernel)
theorem wm_18 : (Cond.selects "PedlarPack$Rounds" ({ cls := "PedlarPack$Rounds", name := "valueOfPack", desc := "([J)J" } : Jvm.MethodName) ({ cls := "PedlarPack$Rounds", name := "valueOfPack", desc := "([J)J" } : Jvm.MethodName)) ∈ pp_tb := pp_tb_mem (List.mem_of_getElem? (i := 18) (by decide +kernel)) (by decide +kernel)
theorem wm_19 : (Cond.selects "PedlarPack$Rounds" ({ cls := "PedlarPack$Rounds", name := "keep", desc := "(IIJ)V" } : Jvm.MethodName) ({ cls := "PedlarPack$Rounds", name := "keep", desc := "(IIJ)V" } : Jvm.MethodName)) ∈ pp_tb := pp_tb_mem (List.mem_of_getElem? (i := 19) (by decide +kernel)) (by decide +kernel)
theorem wm_20 : (Cond.selects "PedlarPack$Rounds" ({ cls := "PedlarPack$Rounds", name := "isBetter", desc := "(IIJ)Z" } : Jvm.MethodName) ({ cls := "PedlarPack$Rounds", name := "isBetter", desc := "(IIJ)Z" } : Jvm.MethodName)) ∈ pp_tb := pp_tb_mem (List.mem_of_getElem? (i := 20) (by decide +kernel)) (by decide +kernel)
theorem wm_21 : (Cond.selects "PedlarPack$Rounds" ({ cls := "PedlarPack$Rounds", name := "partWith", desc := "(II)V" } : Jvm.MethodName) ({ cls := "PedlarPack$Rounds", name := "partWith", desc := "(II)V" } : Jvm.MethodName)) ∈ pp_tb := pp_tb_mem (List.mem_of_getElem? (i := 21) (by decide +kernel)) (by decide +kernel)
theorem wm_22 : (Cond.selects "PedlarPackModel" ({ cls := "PedlarPackModel", name := "thingNow", desc := "(II)I" } : Jvm.MethodName) ({ cls := "PedlarPackModel", name := "thingNow", desc := "(II)I" } : Jvm.MethodName)) ∈ pp_tb := pp_tb_mem (List.mem_of_getElem? (i := 22) (by decide +kernel)) (by decide +kernel)
theorem wm_23 : (Cond.selects "PedlarPackModel" ({ cls := "PedlarPackModel", name := "laysWays", desc := "()V" } : Jvm.MethodName) ({ cls := "PedlarPackModel", name := "laysWays", desc := "()V" } : Jvm.MethodName)) ∈ pp_tb := pp_tb_mem (List.mem_of_getElem? (i := 23) (by decide +kernel)) (by decide +kernel)
theorem wm_24 : (Cond.selects "PedlarPackModel" ({ cls := "PedlarPackModel", name := "faultNow", desc := "()I" } : Jvm.MethodName) ({ cls := "PedlarPackModel", name := "faultNow", desc := "()I" } : Jvm.MethodName)) ∈ pp_tb := pp_tb_mem (List.mem_of_getElem? (i := 24) (by decide +kernel)) (by decide +kernel)
theorem wm_25 : (Cond.selects "PedlarPackModel" ({ cls := "PedlarPackModel", name := "part", desc := "()V" } : Jvm.MethodName) ({ cls := "PedlarPackModel", name := "part", desc := "()V" } : Jvm.MethodName)) ∈ pp_tb := pp_tb_mem (List.mem_of_getElem? (i := 25) (by decide +kernel)) (by decide +kernel)
theorem wm_26 : (Cond.selects "PedlarPackModel" ({ cls := "PedlarPackModel", name := "number", desc := "(III)I" } : Jvm.MethodName) ({ cls := "PedlarPackModel", name := "number", desc := "(III)I" } : Jvm.MethodName)) ∈ pp_tb := pp_tb_mem (List.mem_of_getElem? (i := 26) (by decide +kernel)) (by decide +kernel)
theorem wm_27 : (Cond.selects "PedlarPackModel" ({ cls := "PedlarPackModel", name := "byteNow", desc := "()I" } : Jvm.MethodName) ({ cls := "PedlarPackModel", name := "byteNow", desc := "()I" } : Jvm.MethodName)) ∈ pp_tb := pp_tb_mem (List.mem_of_getElem? (i := 27) (by decide +kernel)) (by decide +kernel)
theorem wm_28 : (Cond.selects "PedlarPackModel" ({ cls := "PedlarPackModel", name := "expects", desc := "(I)V" } : Jvm.MethodName) ({ cls := "PedlarPackModel", name := "expects", desc := "(I)V" } : Jvm.MethodName)) ∈ pp_tb := pp_tb_mem (List.mem_of_getElem? (i := 28) (by decide +kernel)) (by decide +kernel)
theorem wm_29 : (Cond.selects "PedlarPackModel" ({ cls := "PedlarPackModel", name := "meets", desc := "(I)I" } : Jvm.MethodName) ({ cls := "PedlarPackModel", name := "meets", desc := "(I)I" } : Jvm.MethodName)) ∈ pp_tb := pp_tb_mem (List.mem_of_getElem? (i := 29) (by decide +kernel)) (by decide +kernel)
theorem wm_30 : (Cond.selects "PedlarPackModel" ({ cls := "PedlarPackModel", name := "chanceNow", desc := "(III)I" } : Jvm.MethodName) ({ cls := "PedlarPackModel", name := "chanceNow", desc := "(III)I" } : Jvm.MethodName)) ∈ pp_tb := pp_tb_mem (List.mem_of_getElem? (i := 30) (by decide +kernel)) (by decide +kernel)
theorem wm_31 : (Cond.selects "PedlarPackModel" ({ cls := "PedlarPackModel", name := "packWeight", desc := "()I" } : Jvm.MethodName) ({ cls := "PedlarPackModel", name := "packWeight", desc := "()I" } : Jvm.MethodName)) ∈ pp_tb := pp_tb_mem (List.mem_of_getElem? (i := 31) (by decide +kernel)) (by decide +kernel)
theorem wm_32 : (Cond.selects "PedlarPackModel" ({ cls := "PedlarPackModel", name := "hoursNow", desc := "()I" } : Jvm.MethodName) ({ cls := "PedlarPackModel", name := "hoursNow", desc := "()I" } : Jvm.MethodName)) ∈ pp_tb := pp_tb_mem (List.mem_of_getElem? (i := 32) (by decide +kernel)) (by decide +kernel)
theorem wm_33 : (Cond.selects "PedlarPackModel" ({ cls := "PedlarPackModel", name := "looksAtRow", desc := "()V" } : Jvm.MethodName) ({ cls := "PedlarPackModel", name := "looksAtRow", desc := "()V" } : Jvm.MethodName)) ∈ pp_tb := pp_tb_mem (List.mem_of_getElem? (i := 33) (by decide +kernel)) (by decide +kernel)
theorem wm_34 : (Cond.selects "PedlarPackModel" ({ cls := "PedlarPackModel", name := "laysWorth", desc := "()V" } : Jvm.MethodName) ({ cls := "PedlarPackModel", name := "laysWorth", desc := "()V" } : Jvm.MethodName)) ∈ pp_tb := pp_tb_mem (List.mem_of_getElem? (i := 34) (by decide +kernel)) (by decide +kernel)
theorem wm_35 : (Cond.selects "PedlarPackModel" ({ cls := "PedlarPackModel", name := "hoursFrom", desc := "(I)I" } : Jvm.MethodName) ({ cls := "PedlarPackModel", name := "hoursFrom", desc := "(I)I" } : Jvm.MethodName)) ∈ pp_tb := pp_tb_mem (List.mem_of_getElem? (i := 35) (by decide +kernel)) (by decide +kernel)
theorem wm_36 : (Cond.selects "PedlarPackModel" ({ cls := "PedlarPackModel", name := "judgedNow", desc := "()I" } : Jvm.MethodName) ({ cls := "PedlarPackModel", name := "judgedNow", desc := "()I" } : Jvm.MethodName)) ∈ pp_tb := pp_tb_mem (List.mem_of_getElem? (i := 36) (by decide +kernel)) (by decide +kernel)
theorem wm_37 : (Cond.selects "PedlarPackModel" ({ cls := "PedlarPackModel", name := "gainNow", desc := "()J" } : Jvm.MethodName) ({ cls := "PedlarPackModel", name := "gainNow", desc := "()J" } : Jvm.MethodName)) ∈ pp_tb := pp_tb_mem (List.mem_of_getElem? (i := 37) (by decide +kernel)) (by decide +kernel)
theorem wm_38 : (Cond.selects "PedlarPackModel" ({ cls := "PedlarPackModel", name := "gainOf", desc := "(II)J" } : Jvm.MethodName) ({ cls := "PedlarPackModel", name := "gainOf", desc := "(II)J" } : Jvm.MethodName)) ∈ pp_tb := pp_tb_mem (List.mem_of_getElem? (i := 38) (by decide +kernel)) (by decide +kernel)
theorem wm_39 : (Cond.selects "PedlarPackModel" ({ cls := "PedlarPackModel", name := "bestNow", desc := "(I)I" } : Jvm.MethodName) ({ cls := "PedlarPackModel", name := "bestNow", desc := "(I)I" } : Jvm.MethodName)) ∈ pp_tb := pp_tb_mem (List.mem_of_getElem? (i := 39) (by decide +kernel)) (by decide +kernel)
theorem wm_40 : (Cond.selects "PedlarPackModel" ({ cls := "PedlarPackModel", name := "packs", desc := "(I)V" } : Jvm.MethodName) ({ cls := "PedlarPackModel", name := "packs", desc := "(I)V" } : Jvm.MethodName)) ∈ pp_tb := pp_tb_mem (List.mem_of_getElem? (i := 40) (by decide +kernel)) (by decide +kernel)
theorem wm_41 : (Cond.selects "PedlarPackModel" ({ cls := "PedlarPackModel", name := "weightOf", desc := "(II)I" } : Jvm.MethodName) ({ cls := "PedlarPackModel", name := "weightOf", desc := "(II)I" } : Jvm.MethodName)) ∈ pp_tb := pp_tb_mem (List.mem_of_getElem? (i := 41) (by decide +kernel)) (by decide +kernel)
theorem wm_42 : (Cond.selects "PedlarPackModel" ({ cls := "PedlarPackModel", name := "loadedNow", desc := "(I)I" } : Jvm.MethodName) ({ cls := "PedlarPackModel", name := "loadedNow", desc := "(I)I" } : Jvm.MethodName)) ∈ pp_tb := pp_tb_mem (List.mem_of_getElem? (i := 42) (by decide +kernel)) (by decide +kernel)
theorem wm_43 : (Cond.selects "PedlarPackModel" ({ cls := "PedlarPackModel", name := "loads", desc := "()V" } : Jvm.MethodName) ({ cls := "PedlarPackModel", name := "loads", desc := "()V" } : Jvm.MethodName)) ∈ pp_tb := pp_tb_mem (List.mem_of_getElem? (i := 43) (by decide +kernel)) (by decide +kernel)
theorem wm_44 : (Cond.selects "PedlarPackModel" ({ cls := "PedlarPackModel", name := "loadNow", desc := "(II)J" } : Jvm.MethodName) ({ cls := "PedlarPackModel", name := "loadNow", desc := "(II)J" } : Jvm.MethodName)) ∈ pp_tb := pp_tb_mem (List.mem_of_getElem? (i := 44) (by decide +kernel)) (by decide +kernel)
theorem wm_45 : (Cond.selects "PedlarPackModel" ({ cls := "PedlarPackModel", name := "boundNow", desc := "(I)J" } : Jvm.MethodName) ({ cls := "PedlarPackModel", name := "boundNow", desc := "(I)J" } : Jvm.MethodName)) ∈ pp_tb := pp_tb_mem (List.mem_of_getElem? (i := 45) (by decide +kernel)) (by decide +kernel)
theorem wm_46 : (Cond.selects "PedlarPackModel" ({ cls := "PedlarPackModel", name := "gathers", desc := "()Z" } : Jvm.MethodName) ({ cls := "PedlarPackModel", name := "gathers", desc := "()Z" } : Jvm.MethodName)) ∈ pp_tb := pp_tb_mem (List.mem_of_getElem? (i := 46) (by decide +kernel)) (by decide +kernel)
theorem wm_47 : (Cond.selects "PedlarPackModel" ({ cls := "PedlarPackModel", name := "goesRound", desc := "()V" } : Jvm.MethodName) ({ cls := "PedlarPackModel", name := "goesRound", desc := "()V" } : Jvm.MethodName)) ∈ pp_tb := pp_tb_mem (List.mem_of_getElem? (i := 47) (by decide +kernel)) (by decide +kernel)
theorem wm_48 : (Cond.selects "PedlarPackModel" ({ cls := "PedlarPackModel", name := "looksAt", desc := "(II)I" } : Jvm.MethodName) ({ cls := "PedlarPackModel", name := "looksAt", desc := "(II)I" } : Jvm.MethodName)) ∈ pp_tb := pp_tb_mem (List.mem_of_getElem? (i := 48) (by decide +kernel)) (by decide +kernel)
theorem wm_49 : (Cond.selects "PedlarPackModel" ({ cls := "PedlarPackModel", name := "mostGain", desc := "()J" } : Jvm.MethodName) ({ cls := "PedlarPackModel", name := "mostGain", desc := "()J" } : Jvm.MethodName)) ∈ pp_tb := pp_tb_mem (List.mem_of_getElem? (i := 49) (by decide +kernel)) (by decide +kernel)
theorem wm_50 : (Cond.selects "PedlarPackModel" ({ cls := "PedlarPackModel", name := "parted", desc := "()V" } : Jvm.MethodName) ({ cls := "PedlarPackModel", name := "parted", desc := "()V" } : Jvm.MethodName)) ∈ pp_tb := pp_tb_mem (List.mem_of_getElem? (i := 50) (by decide +kernel)) (by decide +kernel)
theorem wm_51 : (Cond.selects "PedlarPackModel" ({ cls := "PedlarPackModel", name := "bringsNow", desc := "(I)J" } : Jvm.MethodName) ({ cls := "PedlarPackModel", name := "bringsNow", desc := "(I)J" } : Jvm.MethodName)) ∈ pp_tb := pp_tb_mem (List.mem_of_getElem? (i := 51) (by decide +kernel)) (by decide +kernel)
theorem wm_52 : (Cond.selects "PedlarPackModel" ({ cls := "PedlarPackModel", name := "strapsNow", desc := "()I" } : Jvm.MethodName) ({ cls := "PedlarPackModel", name := "strapsNow", desc := "()I" } : Jvm.MethodName)) ∈ pp_tb := pp_tb_mem (List.mem_of_getElem? (i := 52) (by decide +kernel)) (by decide +kernel)
theorem wm_53 : (Cond.selects "PedlarPackModel" ({ cls := "PedlarPackModel", name := "lacks", desc := "(III)I" } : Jvm.MethodName) ({ cls := "PedlarPackModel", name := "lacks", desc := "(III)I" } : Jvm.MethodName)) ∈ pp_tb := pp_tb_mem (List.mem_of_getElem? (i := 53) (by decide +kernel)) (by decide +kernel)
theorem wm_54 : (Cond.selects "PedlarPackModel" ({ cls := "PedlarPackModel", name := "keep", desc := "(III)V" } : Jvm.MethodName) ({ cls := "PedlarPackModel", name := "keep", desc := "(III)V" } : Jvm.MethodName)) ∈ pp_tb := pp_tb_mem (List.mem_of_getElem? (i := 54) (by decide +kernel)) (by decide +kernel)
theorem wm_55 : (Cond.selects "PedlarPackModel" ({ cls := "PedlarPackModel", name := "countNow", desc := "(I)I" } : Jvm.MethodName) ({ cls := "PedlarPackModel", name := "countNow", desc := "(I)I" } : Jvm.MethodName)) ∈ pp_tb := pp_tb_mem (List.mem_of_getElem? (i := 55) (by decide +kernel)) (by decide +kernel)
theorem wm_57 : (Cond.initialized "PedlarPack") ∈ pp_tb := pp_tb_mem (List.mem_of_getElem? (i := 57) (by decide +kernel)) (by decide +kernel)
theorem wm_58 : (Cond.initialized "PedlarPack$Goods") ∈ pp_tb := pp_tb_mem (List.mem_of_getElem? (i := 58) (by decide +kernel)) (by decide +kernel)
theorem wm_59 : (Cond.initialized "PedlarPack$Land") ∈ pp_tb := pp_tb_mem (List.mem_of_getElem? (i := 59) (by decide +kernel)) (by decide +kernel)
theorem wm_60 : (Cond.initialized "java/lang/Math") ∈ pp_tb := pp_tb_mem (List.mem_of_getElem? (i := 60) (by decide +kernel)) (by decide +kernel)
theorem wm_61 : (Cond.initialized "PedlarPack$Market") ∈ pp_tb := pp_tb_mem (List.mem_of_getElem? (i := 61) (by decide +kernel)) (by decide +kernel)
theorem wm_62 : (Cond.initialized "PedlarPack$Line") ∈ pp_tb := pp_tb_mem (List.mem_of_getElem? (i := 62) (by decide +kernel)) (by decide +kernel)
theorem wm_63 : (Cond.initialized "PedlarPack$Sheets") ∈ pp_tb := pp_tb_mem (List.mem_of_getElem? (i := 63) (by decide +kernel)) (by decide +kernel)
theorem wm_64 : (Cond.initialized "PedlarPack$Doors") ∈ pp_tb := pp_tb_mem (List.mem_of_getElem? (i := 64) (by decide +kernel)) (by decide +kernel)
theorem wm_65 : (Cond.initialized "PedlarPack$Packer") ∈ pp_tb := pp_tb_mem (List.mem_of_getElem? (i := 65) (by decide +kernel)) (by decide +kernel)
theorem wm_66 : (Cond.initialized "PedlarPack$Rounds") ∈ pp_tb := pp_tb_mem (List.mem_of_getElem? (i := 66) (by decide +kernel)) (by decide +kernel)
theorem wm_67 : (Cond.initialized "PedlarPackModel") ∈ pp_tb := pp_tb_mem (List.mem_of_getElem? (i := 67) (by decide +kernel)) (by decide +kernel)
theorem wm_68 : (Cond.initialized "java/lang/Integer") ∈ pp_tb := pp_tb_mem (List.mem_of_getElem? (i := 68) (by decide +kernel)) (by decide +kernel)
theorem wm_69 : (Cond.initialized "java/lang/System") ∈ pp_tb := pp_tb_mem (List.mem_of_getElem? (i := 69) (by decide +kernel)) (by decide +kernel)
theorem wm_86 : (Cond.fieldLink "PedlarPack$Goods" (11 : Nat) "PedlarPack$Goods" "told" "[[I") ∈ pp_tb := pp_tb_mem (List.mem_of_getElem? (i := 86) (by decide +kernel)) (by decide +kernel)
theorem wm_87 : (Cond.fieldLink "PedlarPack" (104 : Nat) "PedlarPack$Goods" "told" "[[I") ∈ pp_tb := pp_tb_mem (List.mem_of_getElem? (i := 87) (by decide +kernel)) (by decide +kernel)
theorem wm_88 : (Cond.fieldLink "PedlarPack$Packer" (44 : Nat) "PedlarPack$Goods" "told" "[[I") ∈ pp_tb := pp_tb_mem (List.mem_of_getElem? (i := 88) (by decide +kernel)) (by decide +kernel)
theorem wm_89 : (Cond.fieldLink "PedlarPack$Doors" (35 : Nat) "PedlarPack$Goods" "told" "[[I") ∈ pp_tb := pp_tb_mem (List.mem_of_getElem? (i := 89) (by decide +kernel)) (by decide +kernel)
theorem wm_90 : (Cond.laysFinal "PedlarPack$Goods" "PedlarPack$Goods" "told" "[[I") ∈ pp_tb := pp_tb_mem (List.mem_of_getElem? (i := 90) (by decide +kernel)) (by decide +kernel)
theorem wm_101 : (Cond.methodLink "PedlarPack$Land" (19 : Nat) ({ cls := "PedlarPack$Land", name := "findWays", desc := "()V" } : Jvm.MethodName)) ∈ pp_tb := pp_tb_mem (List.mem_of_getElem? (i := 101) (by decide +kernel)) (by decide +kernel)
theorem wm_103 : (Cond.instanceMethod ({ cls := "PedlarPack$Land", name := "findWays", desc := "()V" } : Jvm.MethodName)) ∈ pp_tb := pp_tb_mem (List.mem_of_getElem? (i := 103) (by decide +kernel)) (by decide +kernel)
theorem wm_104 : (Cond.code ({ cls := "PedlarPack$Land", name := "findWays", desc := "()V" } : Jvm.MethodName) prog_4_method_3_code (4 : Nat) (Option.none : Option Jvm.ClassFile.FieldType)) ∈ pp_tb := pp_tb_mem (List.mem_of_getElem? (i := 104) (by decide +kernel)) (by decide +kernel)
theorem wm_105 : (Cond.methodLink "PedlarPack$Land" (22 : Nat) ({ cls := "java/lang/Math", name := "min", desc := "(II)I" } : Jvm.MethodName)) ∈ pp_tb := pp_tb_mem (List.mem_of_getElem? (i := 105) (by decide +kernel)) (by decide +kernel)
theorem wm_106 : (Cond.static ({ cls := "java/lang/Math", name := "min", desc := "(II)I" } : Jvm.MethodName)) ∈ pp_tb := pp_tb_mem (List.mem_of_getElem? (i := 106) (by decide +kernel)) (by decide +kernel)
theorem wm_108 : (Cond.fieldLink "PedlarPack$Land" (11 : Nat) "PedlarPack$Land" "roads" "[[I") ∈ pp_tb := pp_tb_mem (List.mem_of_getElem? (i := 108) (by decide +kernel)) (by decide +kernel)
theorem wm_109 : (Cond.fieldLink "PedlarPack" (114 : Nat) "PedlarPack$Land" "roads" "[[I") ∈ pp_tb := pp_tb_mem (List.mem_of_getElem? (i := 109) (by decide +kernel)) (by decide +kernel)
theorem wm_110 : (Cond.fieldLink "PedlarPack$Land" (16 : Nat) "PedlarPack$Land" "ways" "[[I") ∈ pp_tb := pp_tb_mem (List.mem_of_getElem? (i := 110) (by decide +kernel)) (by decide +kernel)
theorem wm_111 : (Cond.fieldLink "PedlarPack" (121 : Nat) "PedlarPack$Land" "ways" "[[I") ∈ pp_tb := pp_tb_mem (List.mem_of_getElem? (i := 111) (by decide +kernel)) (by decide +kernel)
theorem wm_112 : (Cond.fieldLink "PedlarPack$Rounds" (82 : Nat) "PedlarPack$Land" "ways" "[[I") ∈ pp_tb := pp_tb_mem (List.mem_of_getElem? (i := 112) (by decide +kernel)) (by decide +kernel)
theorem wm_113 : (Cond.laysFinal "PedlarPack$Land" "PedlarPack$Land" "roads" "[[I") ∈ pp_tb := pp_tb_mem (List.mem_of_getElem? (i := 113) (by decide +kernel)) (by decide +kernel)
theorem wm_115 : (Cond.laysFinal "PedlarPack$Land" "PedlarPack$Land" "ways" "[[I") ∈ pp_tb := pp_tb_mem (List.mem_of_getElem? (i := 115) (by decide +kernel)) (by decide +kernel)
theorem wm_125 : (Cond.fieldLink "PedlarPack$Market" (11 : Nat) "PedlarPack$Market" "chances" "[[I") ∈ pp_tb := pp_tb_mem (List.mem_of_getElem? (i := 125) (by decide +kernel)) (by decide +kernel)
theorem wm_126 : (Cond.fieldLink "PedlarPack$Market" (16 : Nat) "PedlarPack$Market" "shops" "[I") ∈ pp_tb := pp_tb_mem (List.mem_of_getElem? (i := 126) (by decide +kernel)) (by decide +kernel)
theorem wm_127 : (Cond.fieldLink "PedlarPack" (174 : Nat) "PedlarPack$Market" "shops" "[I") ∈ pp_tb := pp_tb_mem (List.mem_of_getElem? (i := 127) (by decide +kernel)) (by decide +kernel)
theorem wm_128 : (Cond.laysFinal "PedlarPack$Market" "PedlarPack$Market" "chances" "[[I") ∈ pp_tb := pp_tb_mem (List.mem_of_getElem? (i := 128) (by decide +kernel)) (by decide +kernel)
theorem wm_130 : (Cond.laysFinal "PedlarPack$Market" "PedlarPack$Market" "shops" "[I") ∈ pp_tb := pp_tb_mem (List.mem_of_getElem? (i := 130) (by decide +kernel)) (by decide +kernel)
theorem wm_139 : (Cond.fieldLink "PedlarPack$Line" (9 : Nat) "PedlarPack$Line" "bytes" "[I") ∈ pp_tb := pp_tb_mem (List.mem_of_getElem? (i := 139) (by decide +kernel)) (by decide +kernel)
theorem wm_140 : (Cond.fieldLink "PedlarPack$Line" (15 : Nat) "PedlarPack$Line" "partChances" "[I") ∈ pp_tb := pp_tb_mem (List.mem_of_getElem? (i := 140) (by decide +kernel)) (by decide +kernel)
theorem wm_141 : (Cond.fieldLink "PedlarPack$Line" (18 : Nat) "PedlarPack$Line" "partFarm" "I") ∈ pp_tb := pp_tb_mem (List.mem_of_getElem? (i := 141) (by decide +kernel)) (by decide +kernel)
theorem wm_142 : (Cond.fieldLink "PedlarPack$Line" (22 : Nat) "PedlarPack$Line" "partThing" "I") ∈ pp_tb := pp_tb_mem (List.mem_of_getElem? (i := 142) (by decide +kernel)) (by decide +kernel)
theorem wm_143 : (Cond.fieldLink "PedlarPack$Line" (25 : Nat) "PedlarPack$Line" "partEnd" "I") ∈ pp_tb := pp_tb_mem (List.mem_of_getElem? (i := 143) (by decide +kernel)) (by decide +kernel)
theorem wm_144 : (Cond.fieldLink "PedlarPack$Line" (28 : Nat) "PedlarPack$Line" "length" "I") ∈ pp_tb := pp_tb_mem (List.mem_of_getElem? (i := 144) (by decide +kernel)) (by decide +kernel)
theorem wm_145 : (Cond.fieldLink "PedlarPack" (127 : Nat) "PedlarPack$Line" "length" "I") ∈ pp_tb := pp_tb_mem (List.mem_of_getElem? (i := 145) (by decide +kernel)) (by decide +kernel)
theorem wm_146 : (Cond.laysFinal "PedlarPack$Line" "PedlarPack$Line" "bytes" "[I") ∈ pp_tb := pp_tb_mem (List.mem_of_getElem? (i := 146) (by decide +kernel)) (by decide +kernel)
theorem wm_148 : (Cond.laysFinal "PedlarPack$Line" "PedlarPack$Line" "partChances" "[I") ∈ pp_tb := pp_tb_mem (List.mem_of_getElem? (i := 148) (by decide +kernel)) (by decide +kernel)
theorem wm_150 : (Cond.lays "PedlarPack$Line" "PedlarPack$Line" "partFarm" "I") ∈ pp_tb := pp_tb_mem (List.mem_of_getElem? (i := 150) (by decide +kernel)) (by decide +kernel)
theorem wm_152 : (Cond.lays "PedlarPack$Line" "PedlarPack$Line" "partThing" "I") ∈ pp_tb := pp_tb_mem (List.mem_of_getElem? (i := 152) (by decide +kernel)) (by decide +kernel)
theorem wm_154 : (Cond.lays "PedlarPack$Line" "PedlarPack$Line" "partEnd" "I") ∈ pp_tb := pp_tb_mem (List.mem_of_getElem? (i := 154) (by decide +kernel)) (by decide +kernel)
theorem wm_156 : (Cond.lays "PedlarPack$Line" "PedlarPack$Line" "length" "I") ∈ pp_tb := pp_tb_mem (List.mem_of_getElem? (i := 156) (by decide +kernel)) (by decide +kernel)
theorem wm_166 : (Cond.fieldLink "PedlarPack$Sheets" (11 : Nat) "PedlarPack$Sheets" "items" "[[I") ∈ pp_tb := pp_tb_mem (List.mem_of_getElem? (i := 166) (by decide +kernel)) (by decide +kernel)
theorem wm_167 : (Cond.fieldLink "PedlarPack" (160 : Nat) "PedlarPack$Sheets" "items" "[[I") ∈ pp_tb := pp_tb_mem (List.mem_of_getElem? (i := 167) (by decide +kernel)) (by decide +kernel)
theorem wm_168 : (Cond.fieldLink "PedlarPack$Sheets" (16 : Nat) "PedlarPack$Sheets" "forms" "[I") ∈ pp_tb := pp_tb_mem (List.mem_of_getElem? (i := 168) (by decide +kernel)) (by decide +kernel)
theorem wm_169 : (Cond.fieldLink "PedlarPack" (321 : Nat) "PedlarPack$Sheets" "forms" "[I") ∈ pp_tb := pp_tb_mem (List.mem_of_getElem? (i := 169) (by decide +kernel)) (by decide +kernel)
theorem wm_170 : (Cond.fieldLink "PedlarPack$Sheets" (20 : Nat) "PedlarPack$Sheets" "sizes" "[I") ∈ pp_tb := pp_tb_mem (List.mem_of_getElem? (i := 170) (by decide +kernel)) (by decide +kernel)
theorem wm_171 : (Cond.fieldLink "PedlarPack" (151 : Nat) "PedlarPack$Sheets" "sizes" "[I") ∈ pp_tb := pp_tb_mem (List.mem_of_getElem? (i := 171) (by decide +kernel)) (by decide +kernel)
theorem wm_172 : (Cond.fieldLink "PedlarPack$Sheets" (23 : Nat) "PedlarPack$Sheets" "latestFinding" "I") ∈ pp_tb := pp_tb_mem (List.mem_of_getElem? (i := 172) (by decide +kernel)) (by decide +kernel)
theorem wm_173 : (Cond.fieldLink "PedlarPack" (339 : Nat) "PedlarPack$Sheets" "latestFinding" "I") ∈ pp_tb := pp_tb_mem (List.mem_of_getElem? (i := 173) (by decide +kernel)) (by decide +kernel)
theorem wm_174 : (Cond.laysFinal "PedlarPack$Sheets" "PedlarPack$Sheets" "items" "[[I") ∈ pp_tb := pp_tb_mem (List.mem_of_getElem? (i := 174) (by decide +kernel)) (by decide +kernel)
theorem wm_176 : (Cond.laysFinal "PedlarPack$Sheets" "PedlarPack$Sheets" "forms" "[I") ∈ pp_tb := pp_tb_mem (List.mem_of_getElem? (i := 176) (by decide +kernel)) (by decide +kernel)
theorem wm_178 : (Cond.laysFinal "PedlarPack$Sheets" "PedlarPack$Sheets" "sizes" "[I") ∈ pp_tb := pp_tb_mem (List.mem_of_getElem? (i := 178) (by decide +kernel)) (by decide +kernel)
theorem wm_180 : (Cond.lays "PedlarPack$Sheets" "PedlarPack$Sheets" "latestFinding" "I") ∈ pp_tb := pp_tb_mem (List.mem_of_getElem? (i := 180) (by decide +kernel)) (by decide +kernel)
theorem wm_191 : (Cond.fieldLink "PedlarPack$Doors" (20 : Nat) "PedlarPack$Doors" "goods" "LPedlarPack$Goods;") ∈ pp_tb := pp_tb_mem (List.mem_of_getElem? (i := 191) (by decide +kernel)) (by decide +kernel)
theorem wm_192 : (Cond.fieldLink "PedlarPack$Doors" (24 : Nat) "PedlarPack$Doors" "market" "LPedlarPack$Market;") ∈ pp_tb := pp_tb_mem (List.mem_of_getElem? (i := 192) (by decide +kernel)) (by decide +kernel)
theorem wm_193 : (Cond.fieldLink "PedlarPack$Doors" (11 : Nat) "PedlarPack$Doors" "worth" "[[J") ∈ pp_tb := pp_tb_mem (List.mem_of_getElem? (i := 193) (by decide +kernel)) (by decide +kernel)
theorem wm_194 : (Cond.fieldLink "PedlarPack$Rounds" (96 : Nat) "PedlarPack$Doors" "worth" "[[J") ∈ pp_tb := pp_tb_mem (List.mem_of_getElem? (i := 194) (by decide +kernel)) (by decide +kernel)
theorem wm_195 : (Cond.fieldLink "PedlarPack" (228 : Nat) "PedlarPack$Doors" "worth" "[[J") ∈ pp_tb := pp_tb_mem (List.mem_of_getElem? (i := 195) (by decide +kernel)) (by decide +kernel)
theorem wm_196 : (Cond.fieldLink "PedlarPack$Doors" (16 : Nat) "PedlarPack$Doors" "justSold" "[J") ∈ pp_tb := pp_tb_mem (List.mem_of_getElem? (i := 196) (by decide +kernel)) (by decide +kernel)
theorem wm_197 : (Cond.fieldLink "PedlarPack" (210 : Nat) "PedlarPack$Doors" "justSold" "[J") ∈ pp_tb := pp_tb_mem (List.mem_of_getElem? (i := 197) (by decide +kernel)) (by decide +kernel)
theorem wm_198 : (Cond.laysFinal "PedlarPack$Doors" "PedlarPack$Doors" "goods" "LPedlarPack$Goods;") ∈ pp_tb := pp_tb_mem (List.mem_of_getElem? (i := 198) (by decide +kernel)) (by decide +kernel)
theorem wm_200 : (Cond.laysFinal "PedlarPack$Doors" "PedlarPack$Doors" "market" "LPedlarPack$Market;") ∈ pp_tb := pp_tb_mem (List.mem_of_getElem? (i := 200) (by decide +kernel)) (by decide +kernel)
theorem wm_202 : (Cond.laysFinal "PedlarPack$Doors" "PedlarPack$Doors" "worth" "[[J") ∈ pp_tb := pp_tb_mem (List.mem_of_getElem? (i := 202) (by decide +kernel)) (by decide +kernel)
theorem wm_204 : (Cond.laysFinal "PedlarPack$Doors" "PedlarPack$Doors" "justSold" "[J") ∈ pp_tb := pp_tb_mem (List.mem_of_getElem? (i := 204) (by decide +kernel)) (by decide +kernel)
theorem wm_215 : (Cond.fieldLink "PedlarPack$Packer" (40 : Nat) "PedlarPack$Packer" "goods" "LPedlarPack$Goods;") ∈ pp_tb := pp_tb_mem (List.mem_of_getElem? (i := 215) (by decide +kernel)) (by decide +kernel)
theorem wm_216 : (Cond.fieldLink "PedlarPack$Packer" (11 : Nat) "PedlarPack$Packer" "gains" "[[J") ∈ pp_tb := pp_tb_mem (List.mem_of_getElem? (i := 216) (by decide +kernel)) (by decide +kernel)
theorem wm_217 : (Cond.fieldLink "PedlarPack$Packer" (16 : Nat) "PedlarPack$Packer" "peaks" "[I") ∈ pp_tb := pp_tb_mem (List.mem_of_getElem? (i := 217) (by decide +kernel)) (by decide +kernel)
theorem wm_218 : (Cond.fieldLink "PedlarPack$Packer" (20 : Nat) "PedlarPack$Packer" "mostFrom" "[[J") ∈ pp_tb := pp_tb_mem (List.mem_of_getElem? (i := 218) (by decide +kernel)) (by decide +kernel)
theorem wm_219 : (Cond.fieldLink "PedlarPack$Packer" (23 : Nat) "PedlarPack$Packer" "stepTaken" "[Z") ∈ pp_tb := pp_tb_mem (List.mem_of_getElem? (i := 219) (by decide +kernel)) (by decide +kernel)
theorem wm_220 : (Cond.fieldLink "PedlarPack$Packer" (27 : Nat) "PedlarPack$Packer" "best" "[I") ∈ pp_tb := pp_tb_mem (List.mem_of_getElem? (i := 220) (by decide +kernel)) (by decide +kernel)
theorem wm_221 : (Cond.fieldLink "PedlarPack" (243 : Nat) "PedlarPack$Packer" "best" "[I") ∈ pp_tb := pp_tb_mem (List.mem_of_getElem? (i := 221) (by decide +kernel)) (by decide +kernel)
theorem wm_222 : (Cond.fieldLink "PedlarPack$Packer" (30 : Nat) "PedlarPack$Packer" "loaded" "[I") ∈ pp_tb := pp_tb_mem (List.mem_of_getElem? (i := 222) (by decide +kernel)) (by decide +kernel)
theorem wm_223 : (Cond.fieldLink "PedlarPack" (256 : Nat) "PedlarPack$Packer" "loaded" "[I") ∈ pp_tb := pp_tb_mem (List.mem_of_getElem? (i := 223) (by decide +kernel)) (by decide +kernel)
theorem wm_224 : (Cond.fieldLink "PedlarPack$Packer" (33 : Nat) "PedlarPack$Packer" "boundAbove" "J") ∈ pp_tb := pp_tb_mem (List.mem_of_getElem? (i := 224) (by decide +kernel)) (by decide +kernel)
theorem wm_225 : (Cond.fieldLink "PedlarPack" (375 : Nat) "PedlarPack$Packer" "boundAbove" "J") ∈ pp_tb := pp_tb_mem (List.mem_of_getElem? (i := 225) (by decide +kernel)) (by decide +kernel)
theorem wm_226 : (Cond.fieldLink "PedlarPack$Packer" (37 : Nat) "PedlarPack$Packer" "boundBelow" "J") ∈ pp_tb := pp_tb_mem (List.mem_of_getElem? (i := 226) (by decide +kernel)) (by decide +kernel)
theorem wm_227 : (Cond.fieldLink "PedlarPack" (378 : Nat) "PedlarPack$Packer" "boundBelow" "J") ∈ pp_tb := pp_tb_mem (List.mem_of_getElem? (i := 227) (by decide +kernel)) (by decide +kernel)
theorem wm_228 : (Cond.laysFinal "PedlarPack$Packer" "PedlarPack$Packer" "goods" "LPedlarPack$Goods;") ∈ pp_tb := pp_tb_mem (List.mem_of_getElem? (i := 228) (by decide +kernel)) (by decide +kernel)
theorem wm_230 : (Cond.laysFinal "PedlarPack$Packer" "PedlarPack$Packer" "gains" "[[J") ∈ pp_tb := pp_tb_mem (List.mem_of_getElem? (i := 230) (by decide +kernel)) (by decide +kernel)
theorem wm_232 : (Cond.laysFinal "PedlarPack$Packer" "PedlarPack$Packer" "peaks" "[I") ∈ pp_tb := pp_tb_mem (List.mem_of_getElem? (i := 232) (by decide +kernel)) (by decide +kernel)
theorem wm_234 : (Cond.laysFinal "PedlarPack$Packer" "PedlarPack$Packer" "mostFrom" "[[J") ∈ pp_tb := pp_tb_mem (List.mem_of_getElem? (i := 234) (by decide +kernel)) (by decide +kernel)
theorem wm_236 : (Cond.laysFinal "PedlarPack$Packer" "PedlarPack$Packer" "stepTaken" "[Z") ∈ pp_tb := pp_tb_mem (List.mem_of_getElem? (i := 236) (by decide +kernel)) (by decide +kernel)
theorem wm_238 : (Cond.laysFinal "PedlarPack$Packer" "PedlarPack$Packer" "best" "[I") ∈ pp_tb := pp_tb_mem (List.mem_of_getElem? (i := 238) (by decide +kernel)) (by decide +kernel)
theorem wm_240 : (Cond.laysFinal "PedlarPack$Packer" "PedlarPack$Packer" "loaded" "[I") ∈ pp_tb := pp_tb_mem (List.mem_of_getElem? (i := 240) (by decide +kernel)) (by decide +kernel)
theorem wm_242 : (Cond.lays "PedlarPack$Packer" "PedlarPack$Packer" "boundAbove" "J") ∈ pp_tb := pp_tb_mem (List.mem_of_getElem? (i := 242) (by decide +kernel)) (by decide +kernel)
theorem wm_244 : (Cond.lays "PedlarPack$Packer" "PedlarPack$Packer" "boundBelow" "J") ∈ pp_tb := pp_tb_mem (List.mem_of_getElem? (i := 244) (by decide +kernel)) (by decide +kernel)
theorem wm_254 : (Cond.fieldLink "PedlarPack$Rounds" (49 : Nat) "PedlarPack$Rounds" "land" "LPedlarPack$Land;") ∈ pp_tb := pp_tb_mem (List.mem_of_getElem? (i := 254) (by decide +kernel)) (by decide +kernel)
theorem wm_255 : (Cond.fieldLink "PedlarPack$Rounds" (53 : Nat) "PedlarPack$Rounds" "doors" "LPedlarPack$Doors;") ∈ pp_tb := pp_tb_mem (List.mem_of_getElem? (i := 255) (by decide +kernel)) (by decide +kernel)
theorem wm_256 : (Cond.fieldLink "PedlarPack$Rounds" (57 : Nat) "PedlarPack$Rounds" "packer" "LPedlarPack$Packer;") ∈ pp_tb := pp_tb_mem (List.mem_of_getElem? (i := 256) (by decide +kernel)) (by decide +kernel)
theorem wm_257 : (Cond.fieldLink "PedlarPack$Rounds" (61 : Nat) "PedlarPack$Rounds" "inPack" "[I") ∈ pp_tb := pp_tb_mem (List.mem_of_getElem? (i := 257) (by decide +kernel)) (by decide +kernel)
theorem wm_258 : (Cond.fieldLink "PedlarPack$Rounds" (9 : Nat) "PedlarPack$Rounds" "most" "[J") ∈ pp_tb := pp_tb_mem (List.mem_of_getElem? (i := 258) (by decide +kernel)) (by decide +kernel)
theorem wm_259 : (Cond.fieldLink "PedlarPack" (278 : Nat) "PedlarPack$Rounds" "most" "[J") ∈ pp_tb := pp_tb_mem (List.mem_of_getElem? (i := 259) (by decide +kernel)) (by decide +kernel)
theorem wm_260 : (Cond.fieldLink "PedlarPack$Rounds" (15 : Nat) "PedlarPack$Rounds" "codes" "[I") ∈ pp_tb := pp_tb_mem (List.mem_of_getElem? (i := 260) (by decide +kernel)) (by decide +kernel)
theorem wm_261 : (Cond.fieldLink "PedlarPack" (266 : Nat) "PedlarPack$Rounds" "codes" "[I") ∈ pp_tb := pp_tb_mem (List.mem_of_getElem? (i := 261) (by decide +kernel)) (by decide +kernel)
theorem wm_262 : (Cond.fieldLink "PedlarPack$Rounds" (19 : Nat) "PedlarPack$Rounds" "roundsKnown" "Z") ∈ pp_tb := pp_tb_mem (List.mem_of_getElem? (i := 262) (by decide +kernel)) (by decide +kernel)
theorem wm_263 : (Cond.fieldLink "PedlarPack$Rounds" (23 : Nat) "PedlarPack$Rounds" "withPack" "Z") ∈ pp_tb := pp_tb_mem (List.mem_of_getElem? (i := 263) (by decide +kernel)) (by decide +kernel)
theorem wm_264 : (Cond.fieldLink "PedlarPack$Rounds" (26 : Nat) "PedlarPack$Rounds" "allowed" "I") ∈ pp_tb := pp_tb_mem (List.mem_of_getElem? (i := 264) (by decide +kernel)) (by decide +kernel)
theorem wm_265 : (Cond.fieldLink "PedlarPack$Rounds" (30 : Nat) "PedlarPack$Rounds" "start" "I") ∈ pp_tb := pp_tb_mem (List.mem_of_getElem? (i := 265) (by decide +kernel)) (by decide +kernel)
theorem wm_266 : (Cond.fieldLink "PedlarPack$Rounds" (33 : Nat) "PedlarPack$Rounds" "hoursLeft" "I") ∈ pp_tb := pp_tb_mem (List.mem_of_getElem? (i := 266) (by decide +kernel)) (by decide +kernel)
theorem wm_267 : (Cond.fieldLink "PedlarPack$Rounds" (36 : Nat) "PedlarPack$Rounds" "limit" "I") ∈ pp_tb := pp_tb_mem (List.mem_of_getElem? (i := 267) (by decide +kernel)) (by decide +kernel)
theorem wm_268 : (Cond.fieldLink "PedlarPack$Rounds" (39 : Nat) "PedlarPack$Rounds" "firstSet" "I") ∈ pp_tb := pp_tb_mem (List.mem_of_getElem? (i := 268) (by decide +kernel)) (by decide +kernel)
theorem wm_269 : (Cond.fieldLink "PedlarPack" (290 : Nat) "PedlarPack$Rounds" "firstSet" "I") ∈ pp_tb := pp_tb_mem (List.mem_of_getElem? (i := 269) (by decide +kernel)) (by decide +kernel)
theorem wm_270 : (Cond.fieldLink "PedlarPack$Rounds" (42 : Nat) "PedlarPack$Rounds" "secondSet" "I") ∈ pp_tb := pp_tb_mem (List.mem_of_getElem? (i := 270) (by decide +kernel)) (by decide +kernel)
theorem wm_271 : (Cond.fieldLink "PedlarPack" (293 : Nat) "PedlarPack$Rounds" "secondSet" "I") ∈ pp_tb := pp_tb_mem (List.mem_of_getElem? (i := 271) (by decide +kernel)) (by decide +kernel)
theorem wm_272 : (Cond.fieldLink "PedlarPack$Rounds" (45 : Nat) "PedlarPack$Rounds" "bothGain" "J") ∈ pp_tb := pp_tb_mem (List.mem_of_getElem? (i := 272) (by decide +kernel)) (by decide +kernel)
theorem wm_273 : (Cond.fieldLink "PedlarPack" (296 : Nat) "PedlarPack$Rounds" "bothGain" "J") ∈ pp_tb := pp_tb_mem (List.mem_of_getElem? (i := 273) (by decide +kernel)) (by decide +kernel)
theorem wm_274 : (Cond.laysFinal "PedlarPack$Rounds" "PedlarPack$Rounds" "land" "LPedlarPack$Land;") ∈ pp_tb := pp_tb_mem (List.mem_of_getElem? (i := 274) (by decide +kernel)) (by decide +kernel)
theorem wm_276 : (Cond.laysFinal "PedlarPack$Rounds" "PedlarPack$Rounds" "doors" "LPedlarPack$Doors;") ∈ pp_tb := pp_tb_mem (List.mem_of_getElem? (i := 276) (by decide +kernel)) (by decide +kernel)
theorem wm_278 : (Cond.laysFinal "PedlarPack$Rounds" "PedlarPack$Rounds" "packer" "LPedlarPack$Packer;") ∈ pp_tb := pp_tb_mem (List.mem_of_getElem? (i := 278) (by decide +kernel)) (by decide +kernel)
theorem wm_280 : (Cond.laysFinal "PedlarPack$Rounds" "PedlarPack$Rounds" "inPack" "[I") ∈ pp_tb := pp_tb_mem (List.mem_of_getElem? (i := 280) (by decide +kernel)) (by decide +kernel)
theorem wm_282 : (Cond.laysFinal "PedlarPack$Rounds" "PedlarPack$Rounds" "most" "[J") ∈ pp_tb := pp_tb_mem (List.mem_of_getElem? (i := 282) (by decide +kernel)) (by decide +kernel)
theorem wm_284 : (Cond.laysFinal "PedlarPack$Rounds" "PedlarPack$Rounds" "codes" "[I") ∈ pp_tb := pp_tb_mem (List.mem_of_getElem? (i := 284) (by decide +kernel)) (by decide +kernel)
theorem wm_286 : (Cond.lays "PedlarPack$Rounds" "PedlarPack$Rounds" "roundsKnown" "Z") ∈ pp_tb := pp_tb_mem (List.mem_of_getElem? (i := 286) (by decide +kernel)) (by decide +kernel)
theorem wm_288 : (Cond.lays "PedlarPack$Rounds" "PedlarPack$Rounds" "withPack" "Z") ∈ pp_tb := pp_tb_mem (List.mem_of_getElem? (i := 288) (by decide +kernel)) (by decide +kernel)
theorem wm_290 : (Cond.lays "PedlarPack$Rounds" "PedlarPack$Rounds" "allowed" "I") ∈ pp_tb := pp_tb_mem (List.mem_of_getElem? (i := 290) (by decide +kernel)) (by decide +kernel)
theorem wm_292 : (Cond.lays "PedlarPack$Rounds" "PedlarPack$Rounds" "start" "I") ∈ pp_tb := pp_tb_mem (List.mem_of_getElem? (i := 292) (by decide +kernel)) (by decide +kernel)
theorem wm_294 : (Cond.lays "PedlarPack$Rounds" "PedlarPack$Rounds" "hoursLeft" "I") ∈ pp_tb := pp_tb_mem (List.mem_of_getElem? (i := 294) (by decide +kernel)) (by decide +kernel)
theorem wm_296 : (Cond.lays "PedlarPack$Rounds" "PedlarPack$Rounds" "limit" "I") ∈ pp_tb := pp_tb_mem (List.mem_of_getElem? (i := 296) (by decide +kernel)) (by decide +kernel)
theorem wm_298 : (Cond.lays "PedlarPack$Rounds" "PedlarPack$Rounds" "firstSet" "I") ∈ pp_tb := pp_tb_mem (List.mem_of_getElem? (i := 298) (by decide +kernel)) (by decide +kernel)
theorem wm_300 : (Cond.lays "PedlarPack$Rounds" "PedlarPack$Rounds" "secondSet" "I") ∈ pp_tb := pp_tb_mem (List.mem_of_getElem? (i := 300) (by decide +kernel)) (by decide +kernel)
theorem wm_302 : (Cond.lays "PedlarPack$Rounds" "PedlarPack$Rounds" "bothGain" "J") ∈ pp_tb := pp_tb_mem (List.mem_of_getElem? (i := 302) (by decide +kernel)) (by decide +kernel)
theorem wm_305 : (Cond.fieldLink "PedlarPack" (14 : Nat) "PedlarPack" "goods" "LPedlarPack$Goods;") ∈ pp_tb := pp_tb_mem (List.mem_of_getElem? (i := 305) (by decide +kernel)) (by decide +kernel)
theorem wm_306 : (Cond.fieldLink "PedlarPack" (21 : Nat) "PedlarPack" "land" "LPedlarPack$Land;") ∈ pp_tb := pp_tb_mem (List.mem_of_getElem? (i := 306) (by decide +kernel)) (by decide +kernel)
theorem wm_307 : (Cond.fieldLink "PedlarPack" (28 : Nat) "PedlarPack" "market" "LPedlarPack$Market;") ∈ pp_tb := pp_tb_mem (List.mem_of_getElem? (i := 307) (by decide +kernel)) (by decide +kernel)
theorem wm_308 : (Cond.fieldLink "PedlarPack" (35 : Nat) "PedlarPack" "line" "LPedlarPack$Line;") ∈ pp_tb := pp_tb_mem (List.mem_of_getElem? (i := 308) (by decide +kernel)) (by decide +kernel)
theorem wm_309 : (Cond.fieldLink "PedlarPack" (42 : Nat) "PedlarPack" "sheets" "LPedlarPack$Sheets;") ∈ pp_tb := pp_tb_mem (List.mem_of_getElem? (i := 309) (by decide +kernel)) (by decide +kernel)
theorem wm_310 : (Cond.fieldLink "PedlarPack" (51 : Nat) "PedlarPack" "doors" "LPedlarPack$Doors;") ∈ pp_tb := pp_tb_mem (List.mem_of_getElem? (i := 310) (by decide +kernel)) (by decide +kernel)
theorem wm_311 : (Cond.fieldLink "PedlarPack" (60 : Nat) "PedlarPack" "packer" "LPedlarPack$Packer;") ∈ pp_tb := pp_tb_mem (List.mem_of_getElem? (i := 311) (by decide +kernel)) (by decide +kernel)
theorem wm_312 : (Cond.fieldLink "PedlarPack" (64 : Nat) "PedlarPack" "farmsInRow" "[I") ∈ pp_tb := pp_tb_mem (List.mem_of_getElem? (i := 312) (by decide +kernel)) (by decide +kernel)
theorem wm_313 : (Cond.fieldLink "PedlarPack" (68 : Nat) "PedlarPack" "inPack" "[I") ∈ pp_tb := pp_tb_mem (List.mem_of_getElem? (i := 313) (by decide +kernel)) (by decide +kernel)
theorem wm_314 : (Cond.fieldLink "PedlarPack" (76 : Nat) "PedlarPack" "search" "LPedlarPack$Rounds;") ∈ pp_tb := pp_tb_mem (List.mem_of_getElem? (i := 314) (by decide +kernel)) (by decide +kernel)
theorem wm_315 : (Cond.fieldLink "PedlarPack" (80 : Nat) "PedlarPack" "rowLength" "I") ∈ pp_tb := pp_tb_mem (List.mem_of_getElem? (i := 315) (by decide +kernel)) (by decide +kernel)
theorem wm_316 : (Cond.fieldLink "PedlarPack" (84 : Nat) "PedlarPack" "dayHours" "I") ∈ pp_tb := pp_tb_mem (List.mem_of_getElem? (i := 316) (by decide +kernel)) (by decide +kernel)
theorem wm_317 : (Cond.fieldLink "PedlarPack" (87 : Nat) "PedlarPack" "packLimit" "I") ∈ pp_tb := pp_tb_mem (List.mem_of_getElem? (i := 317) (by decide +kernel)) (by decide +kernel)
theorem wm_318 : (Cond.fieldLink "PedlarPack" (90 : Nat) "PedlarPack" "openFarms" "I") ∈ pp_tb := pp_tb_mem (List.mem_of_getElem? (i := 318) (by decide +kernel)) (by decide +kernel)
theorem wm_319 : (Cond.laysFinal "PedlarPack" "PedlarPack" "goods" "LPedlarPack$Goods;") ∈ pp_tb := pp_tb_mem (List.mem_of_getElem? (i := 319) (by decide +kernel)) (by decide +kernel)
theorem wm_321 : (Cond.laysFinal "PedlarPack" "PedlarPack" "land" "LPedlarPack$Land;") ∈ pp_tb := pp_tb_mem (List.mem_of_getElem? (i := 321) (by decide +kernel)) (by decide +kernel)
theorem wm_323 : (Cond.laysFinal "PedlarPack" "PedlarPack" "market" "LPedlarPack$Market;") ∈ pp_tb := pp_tb_mem (List.mem_of_getElem? (i := 323) (by decide +kernel)) (by decide +kernel)
theorem wm_325 : (Cond.laysFinal "PedlarPack" "PedlarPack" "line" "LPedlarPack$Line;") ∈ pp_tb := pp_tb_mem (List.mem_of_getElem? (i := 325) (by decide +kernel)) (by decide +kernel)
theorem wm_327 : (Cond.laysFinal "PedlarPack" "PedlarPack" "sheets" "LPedlarPack$Sheets;") ∈ pp_tb := pp_tb_mem (List.mem_of_getElem? (i := 327) (by decide +kernel)) (by decide +kernel)
theorem wm_329 : (Cond.laysFinal "PedlarPack" "PedlarPack" "doors" "LPedlarPack$Doors;") ∈ pp_tb := pp_tb_mem (List.mem_of_getElem? (i := 329) (by decide +kernel)) (by decide +kernel)
theorem wm_331 : (Cond.laysFinal "PedlarPack" "PedlarPack" "packer" "LPedlarPack$Packer;") ∈ pp_tb := pp_tb_mem (List.mem_of_getElem? (i := 331) (by decide +kernel)) (by decide +kernel)
theorem wm_333 : (Cond.laysFinal "PedlarPack" "PedlarPack" "farmsInRow" "[I") ∈ pp_tb := pp_tb_mem (List.mem_of_getElem? (i := 333) (by decide +kernel)) (by decide +kernel)
theorem wm_335 : (Cond.laysFinal "PedlarPack" "PedlarPack" "inPack" "[I") ∈ pp_tb := pp_tb_mem (List.mem_of_getElem? (i := 335) (by decide +kernel)) (by decide +kernel)
theorem wm_337 : (Cond.laysFinal "PedlarPack" "PedlarPack" "search" "LPedlarPack$Rounds;") ∈ pp_tb := pp_tb_mem (List.mem_of_getElem? (i := 337) (by decide +kernel)) (by decide +kernel)
theorem wm_339 : (Cond.lays "PedlarPack" "PedlarPack" "rowLength" "I") ∈ pp_tb := pp_tb_mem (List.mem_of_getElem? (i := 339) (by decide +kernel)) (by decide +kernel)
theorem wm_341 : (Cond.lays "PedlarPack" "PedlarPack" "dayHours" "I") ∈ pp_tb := pp_tb_mem (List.mem_of_getElem? (i := 341) (by decide +kernel)) (by decide +kernel)
theorem wm_343 : (Cond.lays "PedlarPack" "PedlarPack" "packLimit" "I") ∈ pp_tb := pp_tb_mem (List.mem_of_getElem? (i := 343) (by decide +kernel)) (by decide +kernel)
theorem wm_345 : (Cond.lays "PedlarPack" "PedlarPack" "openFarms" "I") ∈ pp_tb := pp_tb_mem (List.mem_of_getElem? (i := 345) (by decide +kernel)) (by decide +kernel)
theorem wm_349 : (Cond.instanceMethod ({ cls := "PedlarPack", name := "thing", desc := "(III)I" } : Jvm.MethodName)) ∈ pp_tb := pp_tb_mem (List.mem_of_getElem? (i := 349) (by decide +kernel)) (by decide +kernel)
theorem wm_350 : (Cond.selects "PedlarPack" ({ cls := "PedlarPack", name := "thing", desc := "(III)I" } : Jvm.MethodName) ({ cls := "PedlarPack", name := "thing", desc := "(III)I" } : Jvm.MethodName)) ∈ pp_tb := pp_tb_mem (List.mem_of_getElem? (i := 350) (by decide +kernel)) (by decide +kernel)
theorem wm_351 : (Cond.code ({ cls := "PedlarPack", name := "thing", desc := "(III)I" } : Jvm.MethodName) prog_1_method_2_code (5 : Nat) (Option.some Jvm.ClassFile.FieldType.int)) ∈ pp_tb := pp_tb_mem (List.mem_of_getElem? (i := 351) (by decide +kernel)) (by decide +kernel)
theorem wm_352 : (Cond.methodLink "PedlarPack" (93 : Nat) ({ cls := "PedlarPack", name := "isThing", desc := "(I)Z" } : Jvm.MethodName)) ∈ pp_tb := pp_tb_mem (List.mem_of_getElem? (i := 352) (by decide +kernel)) (by decide +kernel)
theorem wm_353 : (Cond.static ({ cls := "PedlarPack", name := "isThing", desc := "(I)Z" } : Jvm.MethodName)) ∈ pp_tb := pp_tb_mem (List.mem_of_getElem? (i := 353) (by decide +kernel)) (by decide +kernel)
theorem wm_354 : (Cond.code ({ cls := "PedlarPack", name := "isThing", desc := "(I)Z" } : Jvm.MethodName) prog_1_method_41_code (1 : Nat) (Option.some Jvm.ClassFile.FieldType.boolean)) ∈ pp_tb := pp_tb_mem (List.mem_of_getElem? (i := 354) (by decide +kernel)) (by decide +kernel)
theorem wm_355 : (Cond.methodLink "PedlarPack" (97 : Nat) ({ cls := "PedlarPack", name := "within", desc := "(III)Z" } : Jvm.MethodName)) ∈ pp_tb := pp_tb_mem (List.mem_of_getElem? (i := 355) (by decide +kernel)) (by decide +kernel)
theorem wm_356 : (Cond.static ({ cls := "PedlarPack", name := "within", desc := "(III)Z" } : Jvm.MethodName)) ∈ pp_tb := pp_tb_mem (List.mem_of_getElem? (i := 356) (by decide +kernel)) (by decide +kernel)
theorem wm_357 : (Cond.code ({ cls := "PedlarPack", name := "within", desc := "(III)Z" } : Jvm.MethodName) prog_1_method_40_code (3 : Nat) (Option.some Jvm.ClassFile.FieldType.boolean)) ∈ pp_tb := pp_tb_mem (List.mem_of_getElem? (i := 357) (by decide +kernel)) (by decide +kernel)
theorem wm_358 : (Cond.methodLink "PedlarPack" (101 : Nat) ({ cls := "PedlarPack$Goods", name := "mayBe", desc := "(III)Z" } : Jvm.MethodName)) ∈ pp_tb := pp_tb_mem (List.mem_of_getElem? (i := 358) (by decide +kernel)) (by decide +kernel)
theorem wm_359 : (Cond.instanceMethod ({ cls := "PedlarPack$Goods", name := "mayBe", desc := "(III)Z" } : Jvm.MethodName)) ∈ pp_tb := pp_tb_mem (List.mem_of_getElem? (i := 359) (by decide +kernel)) (by decide +kernel)
theorem wm_360 : (Cond.selects "PedlarPack$Goods" ({ cls := "PedlarPack$Goods", name := "mayBe", desc := "(III)Z" } : Jvm.MethodName) ({ cls := "PedlarPack$Goods", name := "mayBe", desc := "(III)Z" } : Jvm.MethodName)) ∈ pp_tb := pp_tb_mem (List.mem_of_getElem? (i := 360) (by decide +kernel)) (by decide +kernel)
theorem wm_361 : (Cond.code ({ cls := "PedlarPack$Goods", name := "mayBe", desc := "(III)Z" } : Jvm.MethodName) prog_3_method_2_code (6 : Nat) (Option.some Jvm.ClassFile.FieldType.boolean)) ∈ pp_tb := pp_tb_mem (List.mem_of_getElem? (i := 361) (by decide +kernel)) (by decide +kernel)
theorem wm_363 : (Cond.methodLink "PedlarPack" (108 : Nat) ({ cls := "PedlarPack$Rounds", name := "forget", desc := "()V" } : Jvm.MethodName)) ∈ pp_tb := pp_tb_mem (List.mem_of_getElem? (i := 363) (by decide +kernel)) (by decide +kernel)
theorem wm_364 : (Cond.instanceMethod ({ cls := "PedlarPack$Rounds", name := "forget", desc := "()V" } : Jvm.MethodName)) ∈ pp_tb := pp_tb_mem (List.mem_of_getElem? (i := 364) (by decide +kernel)) (by decide +kernel)
theorem wm_365 : (Cond.selects "PedlarPack$Rounds" ({ cls := "PedlarPack$Rounds", name := "forget", desc := "()V" } : Jvm.MethodName) ({ cls := "PedlarPack$Rounds", name := "forget", desc := "()V" } : Jvm.MethodName)) ∈ pp_tb := pp_tb_mem (List.mem_of_getElem? (i := 365) (by decide +kernel)) (by decide +kernel)
theorem wm_366 : (Cond.code ({ cls := "PedlarPack$Rounds", name := "forget", desc := "()V" } : Jvm.MethodName) prog_8_method_2_code (1 : Nat) (Option.none : Option Jvm.ClassFile.FieldType)) ∈ pp_tb := pp_tb_mem (List.mem_of_getElem? (i := 366) (by decide +kernel)) (by decide +kernel)
theorem wm_368 : (Cond.instanceMethod ({ cls := "PedlarPack", name := "road", desc := "(III)I" } : Jvm.MethodName)) ∈ pp_tb := pp_tb_mem (List.mem_of_getElem? (i := 368) (by decide +kernel)) (by decide +kernel)
theorem wm_369 : (Cond.selects "PedlarPack" ({ cls := "PedlarPack", name := "road", desc := "(III)I" } : Jvm.MethodName) ({ cls := "PedlarPack", name := "road", desc := "(III)I" } : Jvm.MethodName)) ∈ pp_tb := pp_tb_mem (List.mem_of_getElem? (i := 369) (by decide +kernel)) (by decide +kernel)
theorem wm_370 : (Cond.code ({ cls := "PedlarPack", name := "road", desc := "(III)I" } : Jvm.MethodName) prog_1_method_3_code (5 : Nat) (Option.some Jvm.ClassFile.FieldType.int)) ∈ pp_tb := pp_tb_mem (List.mem_of_getElem? (i := 370) (by decide +kernel)) (by decide +kernel)
theorem wm_371 : (Cond.methodLink "PedlarPack" (111 : Nat) ({ cls := "PedlarPack", name := "isPlace", desc := "(I)Z" } : Jvm.MethodName)) ∈ pp_tb := pp_tb_mem (List.mem_of_getElem? (i := 371) (by decide +kernel)) (by decide +kernel)
theorem wm_372 : (Cond.static ({ cls := "PedlarPack", name := "isPlace", desc := "(I)Z" } : Jvm.MethodName)) ∈ pp_tb := pp_tb_mem (List.mem_of_getElem? (i := 372) (by decide +kernel)) (by decide +kernel)
theorem wm_373 : (Cond.code ({ cls := "PedlarPack", name := "isPlace", desc := "(I)Z" } : Jvm.MethodName) prog_1_method_44_code (1 : Nat) (Option.some Jvm.ClassFile.FieldType.boolean)) ∈ pp_tb := pp_tb_mem (List.mem_of_getElem? (i := 373) (by decide +kernel)) (by decide +kernel)
theorem wm_374 : (Cond.methodLink "PedlarPack" (117 : Nat) ({ cls := "PedlarPack$Land", name := "build", desc := "(III)V" } : Jvm.MethodName)) ∈ pp_tb := pp_tb_mem (List.mem_of_getElem? (i := 374) (by decide +kernel)) (by decide +kernel)
theorem wm_375 : (Cond.instanceMethod ({ cls := "PedlarPack$Land", name := "build", desc := "(III)V" } : Jvm.MethodName)) ∈ pp_tb := pp_tb_mem (List.mem_of_getElem? (i := 375) (by decide +kernel)) (by decide +kernel)
theorem wm_376 : (Cond.selects "PedlarPack$Land" ({ cls := "PedlarPack$Land", name := "build", desc := "(III)V" } : Jvm.MethodName) ({ cls := "PedlarPack$Land", name := "build", desc := "(III)V" } : Jvm.MethodName)) ∈ pp_tb := pp_tb_mem (List.mem_of_getElem? (i := 376) (by decide +kernel)) (by decide +kernel)
theorem wm_377 : (Cond.code ({ cls := "PedlarPack$Land", name := "build", desc := "(III)V" } : Jvm.MethodName) prog_4_method_2_code (4 : Nat) (Option.none : Option Jvm.ClassFile.FieldType)) ∈ pp_tb := pp_tb_mem (List.mem_of_getElem? (i := 377) (by decide +kernel)) (by decide +kernel)
theorem wm_379 : (Cond.instanceMethod ({ cls := "PedlarPack", name := "way", desc := "(II)I" } : Jvm.MethodName)) ∈ pp_tb := pp_tb_mem (List.mem_of_getElem? (i := 379) (by decide +kernel)) (by decide +kernel)
theorem wm_380 : (Cond.selects "PedlarPack" ({ cls := "PedlarPack", name := "way", desc := "(II)I" } : Jvm.MethodName) ({ cls := "PedlarPack", name := "way", desc := "(II)I" } : Jvm.MethodName)) ∈ pp_tb := pp_tb_mem (List.mem_of_getElem? (i := 380) (by decide +kernel)) (by decide +kernel)
theorem wm_381 : (Cond.code ({ cls := "PedlarPack", name := "way", desc := "(II)I" } : Jvm.MethodName) prog_1_method_4_code (3 : Nat) (Option.some Jvm.ClassFile.FieldType.int)) ∈ pp_tb := pp_tb_mem (List.mem_of_getElem? (i := 381) (by decide +kernel)) (by decide +kernel)
theorem wm_383 : (Cond.instanceMethod ({ cls := "PedlarPack", name := "set", desc := "(II)I" } : Jvm.MethodName)) ∈ pp_tb := pp_tb_mem (List.mem_of_getElem? (i := 383) (by decide +kernel)) (by decide +kernel)
theorem wm_384 : (Cond.selects "PedlarPack" ({ cls := "PedlarPack", name := "set", desc := "(II)I" } : Jvm.MethodName) ({ cls := "PedlarPack", name := "set", desc := "(II)I" } : Jvm.MethodName)) ∈ pp_tb := pp_tb_mem (List.mem_of_getElem? (i := 384) (by decide +kernel)) (by decide +kernel)
theorem wm_385 : (Cond.code ({ cls := "PedlarPack", name := "set", desc := "(II)I" } : Jvm.MethodName) prog_1_method_5_code (4 : Nat) (Option.some Jvm.ClassFile.FieldType.int)) ∈ pp_tb := pp_tb_mem (List.mem_of_getElem? (i := 385) (by decide +kernel)) (by decide +kernel)
theorem wm_387 : (Cond.instanceMethod ({ cls := "PedlarPack", name := "type", desc := "(I)I" } : Jvm.MethodName)) ∈ pp_tb := pp_tb_mem (List.mem_of_getElem? (i := 387) (by decide +kernel)) (by decide +kernel)
theorem wm_388 : (Cond.selects "PedlarPack" ({ cls := "PedlarPack", name := "type", desc := "(I)I" } : Jvm.MethodName) ({ cls := "PedlarPack", name := "type", desc := "(I)I" } : Jvm.MethodName)) ∈ pp_tb := pp_tb_mem (List.mem_of_getElem? (i := 388) (by decide +kernel)) (by decide +kernel)
theorem wm_389 : (Cond.code ({ cls := "PedlarPack", name := "type", desc := "(I)I" } : Jvm.MethodName) prog_1_method_6_code (2 : Nat) (Option.some Jvm.ClassFile.FieldType.int)) ∈ pp_tb := pp_tb_mem (List.mem_of_getElem? (i := 389) (by decide +kernel)) (by decide +kernel)
theorem wm_390 : (Cond.methodLink "PedlarPack" (124 : Nat) ({ cls := "PedlarPack$Line", name := "append", desc := "(I)Z" } : Jvm.MethodName)) ∈ pp_tb := pp_tb_mem (List.mem_of_getElem? (i := 390) (by decide +kernel)) (by decide +kernel)
theorem wm_391 : (Cond.instanceMethod ({ cls := "PedlarPack$Line", name := "append", desc := "(I)Z" } : Jvm.MethodName)) ∈ pp_tb := pp_tb_mem (List.mem_of_getElem? (i := 391) (by decide +kernel)) (by decide +kernel)
theorem wm_392 : (Cond.selects "PedlarPack$Line" ({ cls := "PedlarPack$Line", name := "append", desc := "(I)Z" } : Jvm.MethodName) ({ cls := "PedlarPack$Line", name := "append", desc := "(I)Z" } : Jvm.MethodName)) ∈ pp_tb := pp_tb_mem (List.mem_of_getElem? (i := 392) (by decide +kernel)) (by decide +kernel)
end
section
theorem wm_393 : (Cond.code ({ cls := "PedlarPack$Line", name := "append", desc := "(I)Z" } : Jvm.MethodName) prog_5_method_2_code (2 : Nat) (Option.some Jvm.ClassFile.FieldType.boolean)) ∈ pp_tb := pp_tb_mem (List.mem_of_getElem? (i := 393) (by decide +kernel)) (by decide +kernel)
theorem wm_395 : (Cond.instanceMethod ({ cls := "PedlarPack", name := "wipe", desc := "()I" } : Jvm.MethodName)) ∈ pp_tb := pp_tb_mem (List.mem_of_getElem? (i := 395) (by decide +kernel)) (by decide +kernel)
theorem wm_396 : (Cond.selects "PedlarPack" ({ cls := "PedlarPack", name := "wipe", desc := "()I" } : Jvm.MethodName) ({ cls := "PedlarPack", name := "wipe", desc := "()I" } : Jvm.MethodName)) ∈ pp_tb := pp_tb_mem (List.mem_of_getElem? (i := 396) (by decide +kernel)) (by decide +kernel)
theorem wm_397 : (Cond.code ({ cls := "PedlarPack", name := "wipe", desc := "()I" } : Jvm.MethodName) prog_1_method_7_code (2 : Nat) (Option.some Jvm.ClassFile.FieldType.int)) ∈ pp_tb := pp_tb_mem (List.mem_of_getElem? (i := 397) (by decide +kernel)) (by decide +kernel)
theorem wm_399 : (Cond.instanceMethod ({ cls := "PedlarPack", name := "fault", desc := "()I" } : Jvm.MethodName)) ∈ pp_tb := pp_tb_mem (List.mem_of_getElem? (i := 399) (by decide +kernel)) (by decide +kernel)
theorem wm_400 : (Cond.selects "PedlarPack" ({ cls := "PedlarPack", name := "fault", desc := "()I" } : Jvm.MethodName) ({ cls := "PedlarPack", name := "fault", desc := "()I" } : Jvm.MethodName)) ∈ pp_tb := pp_tb_mem (List.mem_of_getElem? (i := 400) (by decide +kernel)) (by decide +kernel)
theorem wm_401 : (Cond.code ({ cls := "PedlarPack", name := "fault", desc := "()I" } : Jvm.MethodName) prog_1_method_8_code (1 : Nat) (Option.some Jvm.ClassFile.FieldType.int)) ∈ pp_tb := pp_tb_mem (List.mem_of_getElem? (i := 401) (by decide +kernel)) (by decide +kernel)
theorem wm_402 : (Cond.methodLink "PedlarPack" (130 : Nat) ({ cls := "PedlarPack$Line", name := "findFault", desc := "()I" } : Jvm.MethodName)) ∈ pp_tb := pp_tb_mem (List.mem_of_getElem? (i := 402) (by decide +kernel)) (by decide +kernel)
theorem wm_403 : (Cond.instanceMethod ({ cls := "PedlarPack$Line", name := "findFault", desc := "()I" } : Jvm.MethodName)) ∈ pp_tb := pp_tb_mem (List.mem_of_getElem? (i := 403) (by decide +kernel)) (by decide +kernel)
theorem wm_404 : (Cond.selects "PedlarPack$Line" ({ cls := "PedlarPack$Line", name := "findFault", desc := "()I" } : Jvm.MethodName) ({ cls := "PedlarPack$Line", name := "findFault", desc := "()I" } : Jvm.MethodName)) ∈ pp_tb := pp_tb_mem (List.mem_of_getElem? (i := 404) (by decide +kernel)) (by decide +kernel)
theorem wm_405 : (Cond.code ({ cls := "PedlarPack$Line", name := "findFault", desc := "()I" } : Jvm.MethodName) prog_5_method_3_code (4 : Nat) (Option.some Jvm.ClassFile.FieldType.int)) ∈ pp_tb := pp_tb_mem (List.mem_of_getElem? (i := 405) (by decide +kernel)) (by decide +kernel)
theorem wm_406 : (Cond.methodLink "PedlarPack$Line" (31 : Nat) ({ cls := "PedlarPack$Line", name := "readPart", desc := "(I)I" } : Jvm.MethodName)) ∈ pp_tb := pp_tb_mem (List.mem_of_getElem? (i := 406) (by decide +kernel)) (by decide +kernel)
theorem wm_408 : (Cond.instanceMethod ({ cls := "PedlarPack$Line", name := "readPart", desc := "(I)I" } : Jvm.MethodName)) ∈ pp_tb := pp_tb_mem (List.mem_of_getElem? (i := 408) (by decide +kernel)) (by decide +kernel)
theorem wm_409 : (Cond.code ({ cls := "PedlarPack$Line", name := "readPart", desc := "(I)I" } : Jvm.MethodName) prog_5_method_5_code (2 : Nat) (Option.some Jvm.ClassFile.FieldType.int)) ∈ pp_tb := pp_tb_mem (List.mem_of_getElem? (i := 409) (by decide +kernel)) (by decide +kernel)
theorem wm_410 : (Cond.methodLink "PedlarPack$Line" (41 : Nat) ({ cls := "PedlarPack$Line", name := "figureAt", desc := "(I)I" } : Jvm.MethodName)) ∈ pp_tb := pp_tb_mem (List.mem_of_getElem? (i := 410) (by decide +kernel)) (by decide +kernel)
theorem wm_412 : (Cond.instanceMethod ({ cls := "PedlarPack$Line", name := "figureAt", desc := "(I)I" } : Jvm.MethodName)) ∈ pp_tb := pp_tb_mem (List.mem_of_getElem? (i := 412) (by decide +kernel)) (by decide +kernel)
theorem wm_413 : (Cond.code ({ cls := "PedlarPack$Line", name := "figureAt", desc := "(I)I" } : Jvm.MethodName) prog_5_method_8_code (2 : Nat) (Option.some Jvm.ClassFile.FieldType.int)) ∈ pp_tb := pp_tb_mem (List.mem_of_getElem? (i := 413) (by decide +kernel)) (by decide +kernel)
theorem wm_416 : (Cond.static ({ cls := "PedlarPack", name := "isFarm", desc := "(I)Z" } : Jvm.MethodName)) ∈ pp_tb := pp_tb_mem (List.mem_of_getElem? (i := 416) (by decide +kernel)) (by decide +kernel)
theorem wm_417 : (Cond.code ({ cls := "PedlarPack", name := "isFarm", desc := "(I)Z" } : Jvm.MethodName) prog_1_method_45_code (1 : Nat) (Option.some Jvm.ClassFile.FieldType.boolean)) ∈ pp_tb := pp_tb_mem (List.mem_of_getElem? (i := 417) (by decide +kernel)) (by decide +kernel)
theorem wm_418 : (Cond.methodLink "PedlarPack$Line" (48 : Nat) ({ cls := "PedlarPack$Line", name := "isAt", desc := "(IC)Z" } : Jvm.MethodName)) ∈ pp_tb := pp_tb_mem (List.mem_of_getElem? (i := 418) (by decide +kernel)) (by decide +kernel)
theorem wm_420 : (Cond.instanceMethod ({ cls := "PedlarPack$Line", name := "isAt", desc := "(IC)Z" } : Jvm.MethodName)) ∈ pp_tb := pp_tb_mem (List.mem_of_getElem? (i := 420) (by decide +kernel)) (by decide +kernel)
theorem wm_421 : (Cond.code ({ cls := "PedlarPack$Line", name := "isAt", desc := "(IC)Z" } : Jvm.MethodName) prog_5_method_7_code (3 : Nat) (Option.some Jvm.ClassFile.FieldType.boolean)) ∈ pp_tb := pp_tb_mem (List.mem_of_getElem? (i := 421) (by decide +kernel)) (by decide +kernel)
theorem wm_423 : (Cond.methodLink "PedlarPack$Line" (55 : Nat) ({ cls := "PedlarPack$Line", name := "readChances", desc := "(I)I" } : Jvm.MethodName)) ∈ pp_tb := pp_tb_mem (List.mem_of_getElem? (i := 423) (by decide +kernel)) (by decide +kernel)
theorem wm_425 : (Cond.instanceMethod ({ cls := "PedlarPack$Line", name := "readChances", desc := "(I)I" } : Jvm.MethodName)) ∈ pp_tb := pp_tb_mem (List.mem_of_getElem? (i := 425) (by decide +kernel)) (by decide +kernel)
theorem wm_426 : (Cond.code ({ cls := "PedlarPack$Line", name := "readChances", desc := "(I)I" } : Jvm.MethodName) prog_5_method_6_code (7 : Nat) (Option.some Jvm.ClassFile.FieldType.int)) ∈ pp_tb := pp_tb_mem (List.mem_of_getElem? (i := 426) (by decide +kernel)) (by decide +kernel)
theorem wm_428 : (Cond.instanceMethod ({ cls := "PedlarPack", name := "wants", desc := "()I" } : Jvm.MethodName)) ∈ pp_tb := pp_tb_mem (List.mem_of_getElem? (i := 428) (by decide +kernel)) (by decide +kernel)
theorem wm_429 : (Cond.selects "PedlarPack" ({ cls := "PedlarPack", name := "wants", desc := "()I" } : Jvm.MethodName) ({ cls := "PedlarPack", name := "wants", desc := "()I" } : Jvm.MethodName)) ∈ pp_tb := pp_tb_mem (List.mem_of_getElem? (i := 429) (by decide +kernel)) (by decide +kernel)
theorem wm_430 : (Cond.code ({ cls := "PedlarPack", name := "wants", desc := "()I" } : Jvm.MethodName) prog_1_method_9_code (2 : Nat) (Option.some Jvm.ClassFile.FieldType.int)) ∈ pp_tb := pp_tb_mem (List.mem_of_getElem? (i := 430) (by decide +kernel)) (by decide +kernel)
theorem wm_431 : (Cond.methodLink "PedlarPack" (134 : Nat) ({ cls := "PedlarPack$Line", name := "tellTo", desc := "(LPedlarPack$Market;)I" } : Jvm.MethodName)) ∈ pp_tb := pp_tb_mem (List.mem_of_getElem? (i := 431) (by decide +kernel)) (by decide +kernel)
theorem wm_432 : (Cond.instanceMethod ({ cls := "PedlarPack$Line", name := "tellTo", desc := "(LPedlarPack$Market;)I" } : Jvm.MethodName)) ∈ pp_tb := pp_tb_mem (List.mem_of_getElem? (i := 432) (by decide +kernel)) (by decide +kernel)
theorem wm_433 : (Cond.selects "PedlarPack$Line" ({ cls := "PedlarPack$Line", name := "tellTo", desc := "(LPedlarPack$Market;)I" } : Jvm.MethodName) ({ cls := "PedlarPack$Line", name := "tellTo", desc := "(LPedlarPack$Market;)I" } : Jvm.MethodName)) ∈ pp_tb := pp_tb_mem (List.mem_of_getElem? (i := 433) (by decide +kernel)) (by decide +kernel)
theorem wm_434 : (Cond.code ({ cls := "PedlarPack$Line", name := "tellTo", desc := "(LPedlarPack$Market;)I" } : Jvm.MethodName) prog_5_method_4_code (4 : Nat) (Option.some Jvm.ClassFile.FieldType.int)) ∈ pp_tb := pp_tb_mem (List.mem_of_getElem? (i := 434) (by decide +kernel)) (by decide +kernel)
theorem wm_435 : (Cond.methodLink "PedlarPack$Line" (35 : Nat) ({ cls := "PedlarPack$Market", name := "take", desc := "(II[II)Z" } : Jvm.MethodName)) ∈ pp_tb := pp_tb_mem (List.mem_of_getElem? (i := 435) (by decide +kernel)) (by decide +kernel)
theorem wm_436 : (Cond.instanceMethod ({ cls := "PedlarPack$Market", name := "take", desc := "(II[II)Z" } : Jvm.MethodName)) ∈ pp_tb := pp_tb_mem (List.mem_of_getElem? (i := 436) (by decide +kernel)) (by decide +kernel)
theorem wm_437 : (Cond.selects "PedlarPack$Market" ({ cls := "PedlarPack$Market", name := "take", desc := "(II[II)Z" } : Jvm.MethodName) ({ cls := "PedlarPack$Market", name := "take", desc := "(II[II)Z" } : Jvm.MethodName)) ∈ pp_tb := pp_tb_mem (List.mem_of_getElem? (i := 437) (by decide +kernel)) (by decide +kernel)
theorem wm_438 : (Cond.code ({ cls := "PedlarPack$Market", name := "take", desc := "(II[II)Z" } : Jvm.MethodName) prog_6_method_3_code (7 : Nat) (Option.some Jvm.ClassFile.FieldType.boolean)) ∈ pp_tb := pp_tb_mem (List.mem_of_getElem? (i := 438) (by decide +kernel)) (by decide +kernel)
theorem wm_441 : (Cond.instanceMethod ({ cls := "PedlarPack", name := "read", desc := "(II)I" } : Jvm.MethodName)) ∈ pp_tb := pp_tb_mem (List.mem_of_getElem? (i := 441) (by decide +kernel)) (by decide +kernel)
theorem wm_442 : (Cond.selects "PedlarPack" ({ cls := "PedlarPack", name := "read", desc := "(II)I" } : Jvm.MethodName) ({ cls := "PedlarPack", name := "read", desc := "(II)I" } : Jvm.MethodName)) ∈ pp_tb := pp_tb_mem (List.mem_of_getElem? (i := 442) (by decide +kernel)) (by decide +kernel)
theorem wm_443 : (Cond.code ({ cls := "PedlarPack", name := "read", desc := "(II)I" } : Jvm.MethodName) prog_1_method_10_code (6 : Nat) (Option.some Jvm.ClassFile.FieldType.int)) ∈ pp_tb := pp_tb_mem (List.mem_of_getElem? (i := 443) (by decide +kernel)) (by decide +kernel)
theorem wm_444 : (Cond.methodLink "PedlarPack" (138 : Nat) ({ cls := "PedlarPack", name := "isSheet", desc := "(I)Z" } : Jvm.MethodName)) ∈ pp_tb := pp_tb_mem (List.mem_of_getElem? (i := 444) (by decide +kernel)) (by decide +kernel)
theorem wm_445 : (Cond.static ({ cls := "PedlarPack", name := "isSheet", desc := "(I)Z" } : Jvm.MethodName)) ∈ pp_tb := pp_tb_mem (List.mem_of_getElem? (i := 445) (by decide +kernel)) (by decide +kernel)
theorem wm_446 : (Cond.code ({ cls := "PedlarPack", name := "isSheet", desc := "(I)Z" } : Jvm.MethodName) prog_1_method_46_code (1 : Nat) (Option.some Jvm.ClassFile.FieldType.boolean)) ∈ pp_tb := pp_tb_mem (List.mem_of_getElem? (i := 446) (by decide +kernel)) (by decide +kernel)
theorem wm_447 : (Cond.methodLink "PedlarPack" (141 : Nat) ({ cls := "PedlarPack", name := "isFarm", desc := "(I)Z" } : Jvm.MethodName)) ∈ pp_tb := pp_tb_mem (List.mem_of_getElem? (i := 447) (by decide +kernel)) (by decide +kernel)
theorem wm_448 : (Cond.methodLink "PedlarPack" (144 : Nat) ({ cls := "PedlarPack$Sheets", name := "isLost", desc := "(I)Z" } : Jvm.MethodName)) ∈ pp_tb := pp_tb_mem (List.mem_of_getElem? (i := 448) (by decide +kernel)) (by decide +kernel)
theorem wm_449 : (Cond.instanceMethod ({ cls := "PedlarPack$Sheets", name := "isLost", desc := "(I)Z" } : Jvm.MethodName)) ∈ pp_tb := pp_tb_mem (List.mem_of_getElem? (i := 449) (by decide +kernel)) (by decide +kernel)
theorem wm_450 : (Cond.selects "PedlarPack$Sheets" ({ cls := "PedlarPack$Sheets", name := "isLost", desc := "(I)Z" } : Jvm.MethodName) ({ cls := "PedlarPack$Sheets", name := "isLost", desc := "(I)Z" } : Jvm.MethodName)) ∈ pp_tb := pp_tb_mem (List.mem_of_getElem? (i := 450) (by decide +kernel)) (by decide +kernel)
theorem wm_451 : (Cond.code ({ cls := "PedlarPack$Sheets", name := "isLost", desc := "(I)Z" } : Jvm.MethodName) prog_9_method_2_code (2 : Nat) (Option.some Jvm.ClassFile.FieldType.boolean)) ∈ pp_tb := pp_tb_mem (List.mem_of_getElem? (i := 451) (by decide +kernel)) (by decide +kernel)
theorem wm_452 : (Cond.methodLink "PedlarPack" (147 : Nat) ({ cls := "PedlarPack$Sheets", name := "found", desc := "(I)I" } : Jvm.MethodName)) ∈ pp_tb := pp_tb_mem (List.mem_of_getElem? (i := 452) (by decide +kernel)) (by decide +kernel)
theorem wm_453 : (Cond.instanceMethod ({ cls := "PedlarPack$Sheets", name := "found", desc := "(I)I" } : Jvm.MethodName)) ∈ pp_tb := pp_tb_mem (List.mem_of_getElem? (i := 453) (by decide +kernel)) (by decide +kernel)
theorem wm_454 : (Cond.selects "PedlarPack$Sheets" ({ cls := "PedlarPack$Sheets", name := "found", desc := "(I)I" } : Jvm.MethodName) ({ cls := "PedlarPack$Sheets", name := "found", desc := "(I)I" } : Jvm.MethodName)) ∈ pp_tb := pp_tb_mem (List.mem_of_getElem? (i := 454) (by decide +kernel)) (by decide +kernel)
theorem wm_455 : (Cond.code ({ cls := "PedlarPack$Sheets", name := "found", desc := "(I)I" } : Jvm.MethodName) prog_9_method_3_code (2 : Nat) (Option.some Jvm.ClassFile.FieldType.int)) ∈ pp_tb := pp_tb_mem (List.mem_of_getElem? (i := 455) (by decide +kernel)) (by decide +kernel)
theorem wm_456 : (Cond.methodLink "PedlarPack" (154 : Nat) ({ cls := "java/lang/Math", name := "min", desc := "(II)I" } : Jvm.MethodName)) ∈ pp_tb := pp_tb_mem (List.mem_of_getElem? (i := 456) (by decide +kernel)) (by decide +kernel)
theorem wm_457 : (Cond.methodLink "PedlarPack" (163 : Nat) ({ cls := "PedlarPack$Market", name := "take", desc := "(II[II)Z" } : Jvm.MethodName)) ∈ pp_tb := pp_tb_mem (List.mem_of_getElem? (i := 457) (by decide +kernel)) (by decide +kernel)
theorem wm_459 : (Cond.instanceMethod ({ cls := "PedlarPack", name := "chance", desc := "(III)I" } : Jvm.MethodName)) ∈ pp_tb := pp_tb_mem (List.mem_of_getElem? (i := 459) (by decide +kernel)) (by decide +kernel)
theorem wm_460 : (Cond.selects "PedlarPack" ({ cls := "PedlarPack", name := "chance", desc := "(III)I" } : Jvm.MethodName) ({ cls := "PedlarPack", name := "chance", desc := "(III)I" } : Jvm.MethodName)) ∈ pp_tb := pp_tb_mem (List.mem_of_getElem? (i := 460) (by decide +kernel)) (by decide +kernel)
theorem wm_461 : (Cond.code ({ cls := "PedlarPack", name := "chance", desc := "(III)I" } : Jvm.MethodName) prog_1_method_11_code (4 : Nat) (Option.some Jvm.ClassFile.FieldType.int)) ∈ pp_tb := pp_tb_mem (List.mem_of_getElem? (i := 461) (by decide +kernel)) (by decide +kernel)
theorem wm_462 : (Cond.methodLink "PedlarPack" (167 : Nat) ({ cls := "PedlarPack", name := "isLevel", desc := "(I)Z" } : Jvm.MethodName)) ∈ pp_tb := pp_tb_mem (List.mem_of_getElem? (i := 462) (by decide +kernel)) (by decide +kernel)
theorem wm_463 : (Cond.static ({ cls := "PedlarPack", name := "isLevel", desc := "(I)Z" } : Jvm.MethodName)) ∈ pp_tb := pp_tb_mem (List.mem_of_getElem? (i := 463) (by decide +kernel)) (by decide +kernel)
theorem wm_464 : (Cond.code ({ cls := "PedlarPack", name := "isLevel", desc := "(I)Z" } : Jvm.MethodName) prog_1_method_42_code (1 : Nat) (Option.some Jvm.ClassFile.FieldType.boolean)) ∈ pp_tb := pp_tb_mem (List.mem_of_getElem? (i := 464) (by decide +kernel)) (by decide +kernel)
theorem wm_465 : (Cond.methodLink "PedlarPack" (170 : Nat) ({ cls := "PedlarPack$Market", name := "chanceOf", desc := "(III)I" } : Jvm.MethodName)) ∈ pp_tb := pp_tb_mem (List.mem_of_getElem? (i := 465) (by decide +kernel)) (by decide +kernel)
theorem wm_466 : (Cond.instanceMethod ({ cls := "PedlarPack$Market", name := "chanceOf", desc := "(III)I" } : Jvm.MethodName)) ∈ pp_tb := pp_tb_mem (List.mem_of_getElem? (i := 466) (by decide +kernel)) (by decide +kernel)
theorem wm_467 : (Cond.selects "PedlarPack$Market" ({ cls := "PedlarPack$Market", name := "chanceOf", desc := "(III)I" } : Jvm.MethodName) ({ cls := "PedlarPack$Market", name := "chanceOf", desc := "(III)I" } : Jvm.MethodName)) ∈ pp_tb := pp_tb_mem (List.mem_of_getElem? (i := 467) (by decide +kernel)) (by decide +kernel)
theorem wm_468 : (Cond.code ({ cls := "PedlarPack$Market", name := "chanceOf", desc := "(III)I" } : Jvm.MethodName) prog_6_method_2_code (5 : Nat) (Option.some Jvm.ClassFile.FieldType.int)) ∈ pp_tb := pp_tb_mem (List.mem_of_getElem? (i := 468) (by decide +kernel)) (by decide +kernel)
theorem wm_470 : (Cond.instanceMethod ({ cls := "PedlarPack", name := "shop", desc := "(II)I" } : Jvm.MethodName)) ∈ pp_tb := pp_tb_mem (List.mem_of_getElem? (i := 470) (by decide +kernel)) (by decide +kernel)
theorem wm_471 : (Cond.selects "PedlarPack" ({ cls := "PedlarPack", name := "shop", desc := "(II)I" } : Jvm.MethodName) ({ cls := "PedlarPack", name := "shop", desc := "(II)I" } : Jvm.MethodName)) ∈ pp_tb := pp_tb_mem (List.mem_of_getElem? (i := 471) (by decide +kernel)) (by decide +kernel)
theorem wm_472 : (Cond.code ({ cls := "PedlarPack", name := "shop", desc := "(II)I" } : Jvm.MethodName) prog_1_method_12_code (4 : Nat) (Option.some Jvm.ClassFile.FieldType.int)) ∈ pp_tb := pp_tb_mem (List.mem_of_getElem? (i := 472) (by decide +kernel)) (by decide +kernel)
theorem wm_474 : (Cond.instanceMethod ({ cls := "PedlarPack", name := "row", desc := "(I)I" } : Jvm.MethodName)) ∈ pp_tb := pp_tb_mem (List.mem_of_getElem? (i := 474) (by decide +kernel)) (by decide +kernel)
theorem wm_475 : (Cond.selects "PedlarPack" ({ cls := "PedlarPack", name := "row", desc := "(I)I" } : Jvm.MethodName) ({ cls := "PedlarPack", name := "row", desc := "(I)I" } : Jvm.MethodName)) ∈ pp_tb := pp_tb_mem (List.mem_of_getElem? (i := 475) (by decide +kernel)) (by decide +kernel)
theorem wm_476 : (Cond.code ({ cls := "PedlarPack", name := "row", desc := "(I)I" } : Jvm.MethodName) prog_1_method_13_code (4 : Nat) (Option.some Jvm.ClassFile.FieldType.int)) ∈ pp_tb := pp_tb_mem (List.mem_of_getElem? (i := 476) (by decide +kernel)) (by decide +kernel)
theorem wm_477 : (Cond.methodLink "PedlarPack" (177 : Nat) ({ cls := "PedlarPack", name := "areFarms", desc := "([II)Z" } : Jvm.MethodName)) ∈ pp_tb := pp_tb_mem (List.mem_of_getElem? (i := 477) (by decide +kernel)) (by decide +kernel)
theorem wm_478 : (Cond.static ({ cls := "PedlarPack", name := "areFarms", desc := "([II)Z" } : Jvm.MethodName)) ∈ pp_tb := pp_tb_mem (List.mem_of_getElem? (i := 478) (by decide +kernel)) (by decide +kernel)
theorem wm_479 : (Cond.code ({ cls := "PedlarPack", name := "areFarms", desc := "([II)Z" } : Jvm.MethodName) prog_1_method_52_code (4 : Nat) (Option.some Jvm.ClassFile.FieldType.boolean)) ∈ pp_tb := pp_tb_mem (List.mem_of_getElem? (i := 479) (by decide +kernel)) (by decide +kernel)
theorem wm_481 : (Cond.instanceMethod ({ cls := "PedlarPack", name := "pack", desc := "(I)I" } : Jvm.MethodName)) ∈ pp_tb := pp_tb_mem (List.mem_of_getElem? (i := 481) (by decide +kernel)) (by decide +kernel)
theorem wm_482 : (Cond.selects "PedlarPack" ({ cls := "PedlarPack", name := "pack", desc := "(I)I" } : Jvm.MethodName) ({ cls := "PedlarPack", name := "pack", desc := "(I)I" } : Jvm.MethodName)) ∈ pp_tb := pp_tb_mem (List.mem_of_getElem? (i := 482) (by decide +kernel)) (by decide +kernel)
theorem wm_483 : (Cond.code ({ cls := "PedlarPack", name := "pack", desc := "(I)I" } : Jvm.MethodName) prog_1_method_14_code (4 : Nat) (Option.some Jvm.ClassFile.FieldType.int)) ∈ pp_tb := pp_tb_mem (List.mem_of_getElem? (i := 483) (by decide +kernel)) (by decide +kernel)
theorem wm_484 : (Cond.methodLink "PedlarPack" (181 : Nat) ({ cls := "PedlarPack$Goods", name := "weightOf", desc := "([I)I" } : Jvm.MethodName)) ∈ pp_tb := pp_tb_mem (List.mem_of_getElem? (i := 484) (by decide +kernel)) (by decide +kernel)
theorem wm_485 : (Cond.instanceMethod ({ cls := "PedlarPack$Goods", name := "weightOf", desc := "([I)I" } : Jvm.MethodName)) ∈ pp_tb := pp_tb_mem (List.mem_of_getElem? (i := 485) (by decide +kernel)) (by decide +kernel)
theorem wm_486 : (Cond.selects "PedlarPack$Goods" ({ cls := "PedlarPack$Goods", name := "weightOf", desc := "([I)I" } : Jvm.MethodName) ({ cls := "PedlarPack$Goods", name := "weightOf", desc := "([I)I" } : Jvm.MethodName)) ∈ pp_tb := pp_tb_mem (List.mem_of_getElem? (i := 486) (by decide +kernel)) (by decide +kernel)
theorem wm_487 : (Cond.code ({ cls := "PedlarPack$Goods", name := "weightOf", desc := "([I)I" } : Jvm.MethodName) prog_3_method_3_code (4 : Nat) (Option.some Jvm.ClassFile.FieldType.int)) ∈ pp_tb := pp_tb_mem (List.mem_of_getElem? (i := 487) (by decide +kernel)) (by decide +kernel)
theorem wm_489 : (Cond.instanceMethod ({ cls := "PedlarPack", name := "judged", desc := "()I" } : Jvm.MethodName)) ∈ pp_tb := pp_tb_mem (List.mem_of_getElem? (i := 489) (by decide +kernel)) (by decide +kernel)
theorem wm_490 : (Cond.selects "PedlarPack" ({ cls := "PedlarPack", name := "judged", desc := "()I" } : Jvm.MethodName) ({ cls := "PedlarPack", name := "judged", desc := "()I" } : Jvm.MethodName)) ∈ pp_tb := pp_tb_mem (List.mem_of_getElem? (i := 490) (by decide +kernel)) (by decide +kernel)
theorem wm_491 : (Cond.code ({ cls := "PedlarPack", name := "judged", desc := "()I" } : Jvm.MethodName) prog_1_method_15_code (1 : Nat) (Option.some Jvm.ClassFile.FieldType.int)) ∈ pp_tb := pp_tb_mem (List.mem_of_getElem? (i := 491) (by decide +kernel)) (by decide +kernel)
theorem wm_492 : (Cond.methodLink "PedlarPack" (185 : Nat) ({ cls := "PedlarPack", name := "hours", desc := "()I" } : Jvm.MethodName)) ∈ pp_tb := pp_tb_mem (List.mem_of_getElem? (i := 492) (by decide +kernel)) (by decide +kernel)
theorem wm_493 : (Cond.instanceMethod ({ cls := "PedlarPack", name := "hours", desc := "()I" } : Jvm.MethodName)) ∈ pp_tb := pp_tb_mem (List.mem_of_getElem? (i := 493) (by decide +kernel)) (by decide +kernel)
theorem wm_494 : (Cond.selects "PedlarPack" ({ cls := "PedlarPack", name := "hours", desc := "()I" } : Jvm.MethodName) ({ cls := "PedlarPack", name := "hours", desc := "()I" } : Jvm.MethodName)) ∈ pp_tb := pp_tb_mem (List.mem_of_getElem? (i := 494) (by decide +kernel)) (by decide +kernel)
theorem wm_495 : (Cond.code ({ cls := "PedlarPack", name := "hours", desc := "()I" } : Jvm.MethodName) prog_1_method_16_code (1 : Nat) (Option.some Jvm.ClassFile.FieldType.int)) ∈ pp_tb := pp_tb_mem (List.mem_of_getElem? (i := 495) (by decide +kernel)) (by decide +kernel)
theorem wm_496 : (Cond.methodLink "PedlarPack" (188 : Nat) ({ cls := "PedlarPack$Land", name := "hoursOf", desc := "([II)I" } : Jvm.MethodName)) ∈ pp_tb := pp_tb_mem (List.mem_of_getElem? (i := 496) (by decide +kernel)) (by decide +kernel)
theorem wm_497 : (Cond.instanceMethod ({ cls := "PedlarPack$Land", name := "hoursOf", desc := "([II)I" } : Jvm.MethodName)) ∈ pp_tb := pp_tb_mem (List.mem_of_getElem? (i := 497) (by decide +kernel)) (by decide +kernel)
theorem wm_498 : (Cond.selects "PedlarPack$Land" ({ cls := "PedlarPack$Land", name := "hoursOf", desc := "([II)I" } : Jvm.MethodName) ({ cls := "PedlarPack$Land", name := "hoursOf", desc := "([II)I" } : Jvm.MethodName)) ∈ pp_tb := pp_tb_mem (List.mem_of_getElem? (i := 498) (by decide +kernel)) (by decide +kernel)
theorem wm_499 : (Cond.code ({ cls := "PedlarPack$Land", name := "hoursOf", desc := "([II)I" } : Jvm.MethodName) prog_4_method_4_code (6 : Nat) (Option.some Jvm.ClassFile.FieldType.int)) ∈ pp_tb := pp_tb_mem (List.mem_of_getElem? (i := 499) (by decide +kernel)) (by decide +kernel)
theorem wm_502 : (Cond.instanceMethod ({ cls := "PedlarPack", name := "sold", desc := "(IIIII)J" } : Jvm.MethodName)) ∈ pp_tb := pp_tb_mem (List.mem_of_getElem? (i := 502) (by decide +kernel)) (by decide +kernel)
theorem wm_503 : (Cond.selects "PedlarPack" ({ cls := "PedlarPack", name := "sold", desc := "(IIIII)J" } : Jvm.MethodName) ({ cls := "PedlarPack", name := "sold", desc := "(IIIII)J" } : Jvm.MethodName)) ∈ pp_tb := pp_tb_mem (List.mem_of_getElem? (i := 503) (by decide +kernel)) (by decide +kernel)
theorem wm_504 : (Cond.code ({ cls := "PedlarPack", name := "sold", desc := "(IIIII)J" } : Jvm.MethodName) prog_1_method_17_code (6 : Nat) (Option.some Jvm.ClassFile.FieldType.long)) ∈ pp_tb := pp_tb_mem (List.mem_of_getElem? (i := 504) (by decide +kernel)) (by decide +kernel)
theorem wm_505 : (Cond.methodLink "PedlarPack" (192 : Nat) ({ cls := "PedlarPack", name := "isNumber", desc := "(I)Z" } : Jvm.MethodName)) ∈ pp_tb := pp_tb_mem (List.mem_of_getElem? (i := 505) (by decide +kernel)) (by decide +kernel)
theorem wm_506 : (Cond.static ({ cls := "PedlarPack", name := "isNumber", desc := "(I)Z" } : Jvm.MethodName)) ∈ pp_tb := pp_tb_mem (List.mem_of_getElem? (i := 506) (by decide +kernel)) (by decide +kernel)
theorem wm_507 : (Cond.code ({ cls := "PedlarPack", name := "isNumber", desc := "(I)Z" } : Jvm.MethodName) prog_1_method_43_code (1 : Nat) (Option.some Jvm.ClassFile.FieldType.boolean)) ∈ pp_tb := pp_tb_mem (List.mem_of_getElem? (i := 507) (by decide +kernel)) (by decide +kernel)
theorem wm_508 : (Cond.methodLink "PedlarPack" (195 : Nat) ({ cls := "PedlarPack", name := "isTerm", desc := "(I)Z" } : Jvm.MethodName)) ∈ pp_tb := pp_tb_mem (List.mem_of_getElem? (i := 508) (by decide +kernel)) (by decide +kernel)
theorem wm_509 : (Cond.static ({ cls := "PedlarPack", name := "isTerm", desc := "(I)Z" } : Jvm.MethodName)) ∈ pp_tb := pp_tb_mem (List.mem_of_getElem? (i := 509) (by decide +kernel)) (by decide +kernel)
theorem wm_510 : (Cond.code ({ cls := "PedlarPack", name := "isTerm", desc := "(I)Z" } : Jvm.MethodName) prog_1_method_48_code (1 : Nat) (Option.some Jvm.ClassFile.FieldType.boolean)) ∈ pp_tb := pp_tb_mem (List.mem_of_getElem? (i := 510) (by decide +kernel)) (by decide +kernel)
theorem wm_511 : (Cond.methodLink "PedlarPack" (198 : Nat) ({ cls := "PedlarPack", name := "refusal", desc := "(I)J" } : Jvm.MethodName)) ∈ pp_tb := pp_tb_mem (List.mem_of_getElem? (i := 511) (by decide +kernel)) (by decide +kernel)
theorem wm_512 : (Cond.static ({ cls := "PedlarPack", name := "refusal", desc := "(I)J" } : Jvm.MethodName)) ∈ pp_tb := pp_tb_mem (List.mem_of_getElem? (i := 512) (by decide +kernel)) (by decide +kernel)
theorem wm_513 : (Cond.code ({ cls := "PedlarPack", name := "refusal", desc := "(I)J" } : Jvm.MethodName) prog_1_method_49_code (1 : Nat) (Option.some Jvm.ClassFile.FieldType.long)) ∈ pp_tb := pp_tb_mem (List.mem_of_getElem? (i := 513) (by decide +kernel)) (by decide +kernel)
theorem wm_514 : (Cond.constantLong "PedlarPack" (355 : Nat) (-9223372036854775808 : Int64)) ∈ pp_tb := pp_tb_mem (List.mem_of_getElem? (i := 514) (by decide +kernel)) (by decide +kernel)
theorem wm_515 : (Cond.methodLink "PedlarPack" (202 : Nat) ({ cls := "PedlarPack$Doors", name := "sell", desc := "(III[II)V" } : Jvm.MethodName)) ∈ pp_tb := pp_tb_mem (List.mem_of_getElem? (i := 515) (by decide +kernel)) (by decide +kernel)
theorem wm_516 : (Cond.instanceMethod ({ cls := "PedlarPack$Doors", name := "sell", desc := "(III[II)V" } : Jvm.MethodName)) ∈ pp_tb := pp_tb_mem (List.mem_of_getElem? (i := 516) (by decide +kernel)) (by decide +kernel)
theorem wm_517 : (Cond.selects "PedlarPack$Doors" ({ cls := "PedlarPack$Doors", name := "sell", desc := "(III[II)V" } : Jvm.MethodName) ({ cls := "PedlarPack$Doors", name := "sell", desc := "(III[II)V" } : Jvm.MethodName)) ∈ pp_tb := pp_tb_mem (List.mem_of_getElem? (i := 517) (by decide +kernel)) (by decide +kernel)
theorem wm_518 : (Cond.code ({ cls := "PedlarPack$Doors", name := "sell", desc := "(III[II)V" } : Jvm.MethodName) prog_2_method_7_code (12 : Nat) (Option.none : Option Jvm.ClassFile.FieldType)) ∈ pp_tb := pp_tb_mem (List.mem_of_getElem? (i := 518) (by decide +kernel)) (by decide +kernel)
theorem wm_519 : (Cond.constantLong "PedlarPack$Doors" (41 : Nat) (268435456 : Int64)) ∈ pp_tb := pp_tb_mem (List.mem_of_getElem? (i := 519) (by decide +kernel)) (by decide +kernel)
theorem wm_520 : (Cond.methodLink "PedlarPack$Doors" (51 : Nat) ({ cls := "PedlarPack$Market", name := "chanceOf", desc := "(III)I" } : Jvm.MethodName)) ∈ pp_tb := pp_tb_mem (List.mem_of_getElem? (i := 520) (by decide +kernel)) (by decide +kernel)
theorem wm_521 : (Cond.constantLong "PedlarPack$Doors" (57 : Nat) (16 : Int64)) ∈ pp_tb := pp_tb_mem (List.mem_of_getElem? (i := 521) (by decide +kernel)) (by decide +kernel)
theorem wm_522 : (Cond.methodLink "PedlarPack" (206 : Nat) ({ cls := "PedlarPack$Doors", name := "meanSold", desc := "()J" } : Jvm.MethodName)) ∈ pp_tb := pp_tb_mem (List.mem_of_getElem? (i := 522) (by decide +kernel)) (by decide +kernel)
theorem wm_523 : (Cond.instanceMethod ({ cls := "PedlarPack$Doors", name := "meanSold", desc := "()J" } : Jvm.MethodName)) ∈ pp_tb := pp_tb_mem (List.mem_of_getElem? (i := 523) (by decide +kernel)) (by decide +kernel)
theorem wm_524 : (Cond.selects "PedlarPack$Doors" ({ cls := "PedlarPack$Doors", name := "meanSold", desc := "()J" } : Jvm.MethodName) ({ cls := "PedlarPack$Doors", name := "meanSold", desc := "()J" } : Jvm.MethodName)) ∈ pp_tb := pp_tb_mem (List.mem_of_getElem? (i := 524) (by decide +kernel)) (by decide +kernel)
theorem wm_525 : (Cond.code ({ cls := "PedlarPack$Doors", name := "meanSold", desc := "()J" } : Jvm.MethodName) prog_2_method_8_code (4 : Nat) (Option.some Jvm.ClassFile.FieldType.long)) ∈ pp_tb := pp_tb_mem (List.mem_of_getElem? (i := 525) (by decide +kernel)) (by decide +kernel)
theorem wm_526 : (Cond.constantLong "PedlarPack" (214 : Nat) (268435456 : Int64)) ∈ pp_tb := pp_tb_mem (List.mem_of_getElem? (i := 526) (by decide +kernel)) (by decide +kernel)
theorem wm_527 : (Cond.methodLink "PedlarPack" (216 : Nat) ({ cls := "PedlarPack", name := "term", desc := "(JJI)J" } : Jvm.MethodName)) ∈ pp_tb := pp_tb_mem (List.mem_of_getElem? (i := 527) (by decide +kernel)) (by decide +kernel)
theorem wm_528 : (Cond.static ({ cls := "PedlarPack", name := "term", desc := "(JJI)J" } : Jvm.MethodName)) ∈ pp_tb := pp_tb_mem (List.mem_of_getElem? (i := 528) (by decide +kernel)) (by decide +kernel)
theorem wm_529 : (Cond.code ({ cls := "PedlarPack", name := "term", desc := "(JJI)J" } : Jvm.MethodName) prog_1_method_50_code (7 : Nat) (Option.some Jvm.ClassFile.FieldType.long)) ∈ pp_tb := pp_tb_mem (List.mem_of_getElem? (i := 529) (by decide +kernel)) (by decide +kernel)
theorem wm_530 : (Cond.methodLink "PedlarPack" (357 : Nat) ({ cls := "java/lang/Math", name := "abs", desc := "(J)J" } : Jvm.MethodName)) ∈ pp_tb := pp_tb_mem (List.mem_of_getElem? (i := 530) (by decide +kernel)) (by decide +kernel)
theorem wm_531 : (Cond.static ({ cls := "java/lang/Math", name := "abs", desc := "(J)J" } : Jvm.MethodName)) ∈ pp_tb := pp_tb_mem (List.mem_of_getElem? (i := 531) (by decide +kernel)) (by decide +kernel)
theorem wm_533 : (Cond.methodLink "PedlarPack" (361 : Nat) ({ cls := "PedlarPack", name := "sharedDivisor", desc := "(JJ)J" } : Jvm.MethodName)) ∈ pp_tb := pp_tb_mem (List.mem_of_getElem? (i := 533) (by decide +kernel)) (by decide +kernel)
theorem wm_534 : (Cond.static ({ cls := "PedlarPack", name := "sharedDivisor", desc := "(JJ)J" } : Jvm.MethodName)) ∈ pp_tb := pp_tb_mem (List.mem_of_getElem? (i := 534) (by decide +kernel)) (by decide +kernel)
theorem wm_535 : (Cond.code ({ cls := "PedlarPack", name := "sharedDivisor", desc := "(JJ)J" } : Jvm.MethodName) prog_1_method_51_code (7 : Nat) (Option.some Jvm.ClassFile.FieldType.long)) ∈ pp_tb := pp_tb_mem (List.mem_of_getElem? (i := 535) (by decide +kernel)) (by decide +kernel)
theorem wm_537 : (Cond.instanceMethod ({ cls := "PedlarPack", name := "ask", desc := "(III)I" } : Jvm.MethodName)) ∈ pp_tb := pp_tb_mem (List.mem_of_getElem? (i := 537) (by decide +kernel)) (by decide +kernel)
theorem wm_538 : (Cond.selects "PedlarPack" ({ cls := "PedlarPack", name := "ask", desc := "(III)I" } : Jvm.MethodName) ({ cls := "PedlarPack", name := "ask", desc := "(III)I" } : Jvm.MethodName)) ∈ pp_tb := pp_tb_mem (List.mem_of_getElem? (i := 538) (by decide +kernel)) (by decide +kernel)
theorem wm_539 : (Cond.code ({ cls := "PedlarPack", name := "ask", desc := "(III)I" } : Jvm.MethodName) prog_1_method_18_code (4 : Nat) (Option.some Jvm.ClassFile.FieldType.int)) ∈ pp_tb := pp_tb_mem (List.mem_of_getElem? (i := 539) (by decide +kernel)) (by decide +kernel)
theorem wm_540 : (Cond.methodLink "PedlarPack" (220 : Nat) ({ cls := "PedlarPack$Doors", name := "goAlong", desc := "([II)V" } : Jvm.MethodName)) ∈ pp_tb := pp_tb_mem (List.mem_of_getElem? (i := 540) (by decide +kernel)) (by decide +kernel)
theorem wm_541 : (Cond.instanceMethod ({ cls := "PedlarPack$Doors", name := "goAlong", desc := "([II)V" } : Jvm.MethodName)) ∈ pp_tb := pp_tb_mem (List.mem_of_getElem? (i := 541) (by decide +kernel)) (by decide +kernel)
theorem wm_542 : (Cond.selects "PedlarPack$Doors" ({ cls := "PedlarPack$Doors", name := "goAlong", desc := "([II)V" } : Jvm.MethodName) ({ cls := "PedlarPack$Doors", name := "goAlong", desc := "([II)V" } : Jvm.MethodName)) ∈ pp_tb := pp_tb_mem (List.mem_of_getElem? (i := 542) (by decide +kernel)) (by decide +kernel)
theorem wm_543 : (Cond.code ({ cls := "PedlarPack$Doors", name := "goAlong", desc := "([II)V" } : Jvm.MethodName) prog_2_method_2_code (4 : Nat) (Option.none : Option Jvm.ClassFile.FieldType)) ∈ pp_tb := pp_tb_mem (List.mem_of_getElem? (i := 543) (by decide +kernel)) (by decide +kernel)
theorem wm_544 : (Cond.methodLink "PedlarPack$Doors" (28 : Nat) ({ cls := "PedlarPack$Doors", name := "comeHome", desc := "()V" } : Jvm.MethodName)) ∈ pp_tb := pp_tb_mem (List.mem_of_getElem? (i := 544) (by decide +kernel)) (by decide +kernel)
theorem wm_545 : (Cond.instanceMethod ({ cls := "PedlarPack$Doors", name := "comeHome", desc := "()V" } : Jvm.MethodName)) ∈ pp_tb := pp_tb_mem (List.mem_of_getElem? (i := 545) (by decide +kernel)) (by decide +kernel)
theorem wm_546 : (Cond.selects "PedlarPack$Doors" ({ cls := "PedlarPack$Doors", name := "comeHome", desc := "()V" } : Jvm.MethodName) ({ cls := "PedlarPack$Doors", name := "comeHome", desc := "()V" } : Jvm.MethodName)) ∈ pp_tb := pp_tb_mem (List.mem_of_getElem? (i := 546) (by decide +kernel)) (by decide +kernel)
theorem wm_547 : (Cond.code ({ cls := "PedlarPack$Doors", name := "comeHome", desc := "()V" } : Jvm.MethodName) prog_2_method_3_code (5 : Nat) (Option.none : Option Jvm.ClassFile.FieldType)) ∈ pp_tb := pp_tb_mem (List.mem_of_getElem? (i := 547) (by decide +kernel)) (by decide +kernel)
theorem wm_548 : (Cond.methodLink "PedlarPack$Doors" (31 : Nat) ({ cls := "PedlarPack$Doors", name := "callAt", desc := "(II)V" } : Jvm.MethodName)) ∈ pp_tb := pp_tb_mem (List.mem_of_getElem? (i := 548) (by decide +kernel)) (by decide +kernel)
theorem wm_549 : (Cond.instanceMethod ({ cls := "PedlarPack$Doors", name := "callAt", desc := "(II)V" } : Jvm.MethodName)) ∈ pp_tb := pp_tb_mem (List.mem_of_getElem? (i := 549) (by decide +kernel)) (by decide +kernel)
theorem wm_550 : (Cond.selects "PedlarPack$Doors" ({ cls := "PedlarPack$Doors", name := "callAt", desc := "(II)V" } : Jvm.MethodName) ({ cls := "PedlarPack$Doors", name := "callAt", desc := "(II)V" } : Jvm.MethodName)) ∈ pp_tb := pp_tb_mem (List.mem_of_getElem? (i := 550) (by decide +kernel)) (by decide +kernel)
theorem wm_551 : (Cond.code ({ cls := "PedlarPack$Doors", name := "callAt", desc := "(II)V" } : Jvm.MethodName) prog_2_method_4_code (6 : Nat) (Option.none : Option Jvm.ClassFile.FieldType)) ∈ pp_tb := pp_tb_mem (List.mem_of_getElem? (i := 551) (by decide +kernel)) (by decide +kernel)
theorem wm_552 : (Cond.methodLink "PedlarPack$Doors" (43 : Nat) ({ cls := "PedlarPack$Doors", name := "bestLevel", desc := "(IIII)I" } : Jvm.MethodName)) ∈ pp_tb := pp_tb_mem (List.mem_of_getElem? (i := 552) (by decide +kernel)) (by decide +kernel)
theorem wm_553 : (Cond.instanceMethod ({ cls := "PedlarPack$Doors", name := "bestLevel", desc := "(IIII)I" } : Jvm.MethodName)) ∈ pp_tb := pp_tb_mem (List.mem_of_getElem? (i := 553) (by decide +kernel)) (by decide +kernel)
theorem wm_554 : (Cond.selects "PedlarPack$Doors" ({ cls := "PedlarPack$Doors", name := "bestLevel", desc := "(IIII)I" } : Jvm.MethodName) ({ cls := "PedlarPack$Doors", name := "bestLevel", desc := "(IIII)I" } : Jvm.MethodName)) ∈ pp_tb := pp_tb_mem (List.mem_of_getElem? (i := 554) (by decide +kernel)) (by decide +kernel)
theorem wm_555 : (Cond.code ({ cls := "PedlarPack$Doors", name := "bestLevel", desc := "(IIII)I" } : Jvm.MethodName) prog_2_method_5_code (11 : Nat) (Option.some Jvm.ClassFile.FieldType.int)) ∈ pp_tb := pp_tb_mem (List.mem_of_getElem? (i := 555) (by decide +kernel)) (by decide +kernel)
theorem wm_556 : (Cond.methodLink "PedlarPack$Doors" (47 : Nat) ({ cls := "PedlarPack$Doors", name := "meanAsked", desc := "(IIIII)J" } : Jvm.MethodName)) ∈ pp_tb := pp_tb_mem (List.mem_of_getElem? (i := 556) (by decide +kernel)) (by decide +kernel)
theorem wm_558 : (Cond.instanceMethod ({ cls := "PedlarPack$Doors", name := "meanAsked", desc := "(IIIII)J" } : Jvm.MethodName)) ∈ pp_tb := pp_tb_mem (List.mem_of_getElem? (i := 558) (by decide +kernel)) (by decide +kernel)
theorem wm_559 : (Cond.code ({ cls := "PedlarPack$Doors", name := "meanAsked", desc := "(IIIII)J" } : Jvm.MethodName) prog_2_method_6_code (11 : Nat) (Option.some Jvm.ClassFile.FieldType.long)) ∈ pp_tb := pp_tb_mem (List.mem_of_getElem? (i := 559) (by decide +kernel)) (by decide +kernel)
theorem wm_560 : (Cond.methodLink "PedlarPack" (224 : Nat) ({ cls := "PedlarPack$Doors", name := "bestLevel", desc := "(IIII)I" } : Jvm.MethodName)) ∈ pp_tb := pp_tb_mem (List.mem_of_getElem? (i := 560) (by decide +kernel)) (by decide +kernel)
theorem wm_562 : (Cond.instanceMethod ({ cls := "PedlarPack", name := "value", desc := "(IIII)J" } : Jvm.MethodName)) ∈ pp_tb := pp_tb_mem (List.mem_of_getElem? (i := 562) (by decide +kernel)) (by decide +kernel)
theorem wm_563 : (Cond.selects "PedlarPack" ({ cls := "PedlarPack", name := "value", desc := "(IIII)J" } : Jvm.MethodName) ({ cls := "PedlarPack", name := "value", desc := "(IIII)J" } : Jvm.MethodName)) ∈ pp_tb := pp_tb_mem (List.mem_of_getElem? (i := 563) (by decide +kernel)) (by decide +kernel)
theorem wm_564 : (Cond.code ({ cls := "PedlarPack", name := "value", desc := "(IIII)J" } : Jvm.MethodName) prog_1_method_19_code (5 : Nat) (Option.some Jvm.ClassFile.FieldType.long)) ∈ pp_tb := pp_tb_mem (List.mem_of_getElem? (i := 564) (by decide +kernel)) (by decide +kernel)
theorem wm_566 : (Cond.instanceMethod ({ cls := "PedlarPack", name := "gain", desc := "(I)J" } : Jvm.MethodName)) ∈ pp_tb := pp_tb_mem (List.mem_of_getElem? (i := 566) (by decide +kernel)) (by decide +kernel)
theorem wm_567 : (Cond.selects "PedlarPack" ({ cls := "PedlarPack", name := "gain", desc := "(I)J" } : Jvm.MethodName) ({ cls := "PedlarPack", name := "gain", desc := "(I)J" } : Jvm.MethodName)) ∈ pp_tb := pp_tb_mem (List.mem_of_getElem? (i := 567) (by decide +kernel)) (by decide +kernel)
theorem wm_568 : (Cond.code ({ cls := "PedlarPack", name := "gain", desc := "(I)J" } : Jvm.MethodName) prog_1_method_20_code (2 : Nat) (Option.some Jvm.ClassFile.FieldType.long)) ∈ pp_tb := pp_tb_mem (List.mem_of_getElem? (i := 568) (by decide +kernel)) (by decide +kernel)
theorem wm_569 : (Cond.methodLink "PedlarPack" (232 : Nat) ({ cls := "PedlarPack", name := "weighUp", desc := "()V" } : Jvm.MethodName)) ∈ pp_tb := pp_tb_mem (List.mem_of_getElem? (i := 569) (by decide +kernel)) (by decide +kernel)
theorem wm_571 : (Cond.instanceMethod ({ cls := "PedlarPack", name := "weighUp", desc := "()V" } : Jvm.MethodName)) ∈ pp_tb := pp_tb_mem (List.mem_of_getElem? (i := 571) (by decide +kernel)) (by decide +kernel)
theorem wm_572 : (Cond.code ({ cls := "PedlarPack", name := "weighUp", desc := "()V" } : Jvm.MethodName) prog_1_method_56_code (1 : Nat) (Option.none : Option Jvm.ClassFile.FieldType)) ∈ pp_tb := pp_tb_mem (List.mem_of_getElem? (i := 572) (by decide +kernel)) (by decide +kernel)
theorem wm_573 : (Cond.methodLink "PedlarPack" (368 : Nat) ({ cls := "PedlarPack$Packer", name := "weighGains", desc := "([J)V" } : Jvm.MethodName)) ∈ pp_tb := pp_tb_mem (List.mem_of_getElem? (i := 573) (by decide +kernel)) (by decide +kernel)
theorem wm_574 : (Cond.instanceMethod ({ cls := "PedlarPack$Packer", name := "weighGains", desc := "([J)V" } : Jvm.MethodName)) ∈ pp_tb := pp_tb_mem (List.mem_of_getElem? (i := 574) (by decide +kernel)) (by decide +kernel)
theorem wm_575 : (Cond.selects "PedlarPack$Packer" ({ cls := "PedlarPack$Packer", name := "weighGains", desc := "([J)V" } : Jvm.MethodName) ({ cls := "PedlarPack$Packer", name := "weighGains", desc := "([J)V" } : Jvm.MethodName)) ∈ pp_tb := pp_tb_mem (List.mem_of_getElem? (i := 575) (by decide +kernel)) (by decide +kernel)
theorem wm_576 : (Cond.code ({ cls := "PedlarPack$Packer", name := "weighGains", desc := "([J)V" } : Jvm.MethodName) prog_7_method_2_code (4 : Nat) (Option.none : Option Jvm.ClassFile.FieldType)) ∈ pp_tb := pp_tb_mem (List.mem_of_getElem? (i := 576) (by decide +kernel)) (by decide +kernel)
theorem wm_577 : (Cond.constantLong "PedlarPack$Packer" (50 : Nat) (268435456 : Int64)) ∈ pp_tb := pp_tb_mem (List.mem_of_getElem? (i := 577) (by decide +kernel)) (by decide +kernel)
theorem wm_578 : (Cond.methodLink "PedlarPack" (235 : Nat) ({ cls := "PedlarPack$Packer", name := "gainOf", desc := "([I)J" } : Jvm.MethodName)) ∈ pp_tb := pp_tb_mem (List.mem_of_getElem? (i := 578) (by decide +kernel)) (by decide +kernel)
theorem wm_579 : (Cond.instanceMethod ({ cls := "PedlarPack$Packer", name := "gainOf", desc := "([I)J" } : Jvm.MethodName)) ∈ pp_tb := pp_tb_mem (List.mem_of_getElem? (i := 579) (by decide +kernel)) (by decide +kernel)
theorem wm_580 : (Cond.selects "PedlarPack$Packer" ({ cls := "PedlarPack$Packer", name := "gainOf", desc := "([I)J" } : Jvm.MethodName) ({ cls := "PedlarPack$Packer", name := "gainOf", desc := "([I)J" } : Jvm.MethodName)) ∈ pp_tb := pp_tb_mem (List.mem_of_getElem? (i := 580) (by decide +kernel)) (by decide +kernel)
theorem wm_581 : (Cond.code ({ cls := "PedlarPack$Packer", name := "gainOf", desc := "([I)J" } : Jvm.MethodName) prog_7_method_3_code (5 : Nat) (Option.some Jvm.ClassFile.FieldType.long)) ∈ pp_tb := pp_tb_mem (List.mem_of_getElem? (i := 581) (by decide +kernel)) (by decide +kernel)
theorem wm_583 : (Cond.instanceMethod ({ cls := "PedlarPack", name := "best", desc := "(I)I" } : Jvm.MethodName)) ∈ pp_tb := pp_tb_mem (List.mem_of_getElem? (i := 583) (by decide +kernel)) (by decide +kernel)
theorem wm_584 : (Cond.selects "PedlarPack" ({ cls := "PedlarPack", name := "best", desc := "(I)I" } : Jvm.MethodName) ({ cls := "PedlarPack", name := "best", desc := "(I)I" } : Jvm.MethodName)) ∈ pp_tb := pp_tb_mem (List.mem_of_getElem? (i := 584) (by decide +kernel)) (by decide +kernel)
theorem wm_585 : (Cond.code ({ cls := "PedlarPack", name := "best", desc := "(I)I" } : Jvm.MethodName) prog_1_method_21_code (2 : Nat) (Option.some Jvm.ClassFile.FieldType.int)) ∈ pp_tb := pp_tb_mem (List.mem_of_getElem? (i := 585) (by decide +kernel)) (by decide +kernel)
theorem wm_586 : (Cond.methodLink "PedlarPack" (239 : Nat) ({ cls := "PedlarPack$Packer", name := "chooseBest", desc := "(I)V" } : Jvm.MethodName)) ∈ pp_tb := pp_tb_mem (List.mem_of_getElem? (i := 586) (by decide +kernel)) (by decide +kernel)
theorem wm_587 : (Cond.instanceMethod ({ cls := "PedlarPack$Packer", name := "chooseBest", desc := "(I)V" } : Jvm.MethodName)) ∈ pp_tb := pp_tb_mem (List.mem_of_getElem? (i := 587) (by decide +kernel)) (by decide +kernel)
theorem wm_588 : (Cond.selects "PedlarPack$Packer" ({ cls := "PedlarPack$Packer", name := "chooseBest", desc := "(I)V" } : Jvm.MethodName) ({ cls := "PedlarPack$Packer", name := "chooseBest", desc := "(I)V" } : Jvm.MethodName)) ∈ pp_tb := pp_tb_mem (List.mem_of_getElem? (i := 588) (by decide +kernel)) (by decide +kernel)
theorem wm_589 : (Cond.code ({ cls := "PedlarPack$Packer", name := "chooseBest", desc := "(I)V" } : Jvm.MethodName) prog_7_method_8_code (6 : Nat) (Option.none : Option Jvm.ClassFile.FieldType)) ∈ pp_tb := pp_tb_mem (List.mem_of_getElem? (i := 589) (by decide +kernel)) (by decide +kernel)
theorem wm_590 : (Cond.methodLink "PedlarPack$Packer" (70 : Nat) ({ cls := "PedlarPack$Packer", name := "mostGain", desc := "(II)J" } : Jvm.MethodName)) ∈ pp_tb := pp_tb_mem (List.mem_of_getElem? (i := 590) (by decide +kernel)) (by decide +kernel)
theorem wm_591 : (Cond.instanceMethod ({ cls := "PedlarPack$Packer", name := "mostGain", desc := "(II)J" } : Jvm.MethodName)) ∈ pp_tb := pp_tb_mem (List.mem_of_getElem? (i := 591) (by decide +kernel)) (by decide +kernel)
theorem wm_592 : (Cond.selects "PedlarPack$Packer" ({ cls := "PedlarPack$Packer", name := "mostGain", desc := "(II)J" } : Jvm.MethodName) ({ cls := "PedlarPack$Packer", name := "mostGain", desc := "(II)J" } : Jvm.MethodName)) ∈ pp_tb := pp_tb_mem (List.mem_of_getElem? (i := 592) (by decide +kernel)) (by decide +kernel)
theorem wm_593 : (Cond.code ({ cls := "PedlarPack$Packer", name := "mostGain", desc := "(II)J" } : Jvm.MethodName) prog_7_method_6_code (4 : Nat) (Option.some Jvm.ClassFile.FieldType.long)) ∈ pp_tb := pp_tb_mem (List.mem_of_getElem? (i := 593) (by decide +kernel)) (by decide +kernel)
theorem wm_594 : (Cond.methodLink "PedlarPack$Packer" (60 : Nat) ({ cls := "PedlarPack$Packer", name := "fillMost", desc := "(III)V" } : Jvm.MethodName)) ∈ pp_tb := pp_tb_mem (List.mem_of_getElem? (i := 594) (by decide +kernel)) (by decide +kernel)
theorem wm_596 : (Cond.instanceMethod ({ cls := "PedlarPack$Packer", name := "fillMost", desc := "(III)V" } : Jvm.MethodName)) ∈ pp_tb := pp_tb_mem (List.mem_of_getElem? (i := 596) (by decide +kernel)) (by decide +kernel)
theorem wm_597 : (Cond.code ({ cls := "PedlarPack$Packer", name := "fillMost", desc := "(III)V" } : Jvm.MethodName) prog_7_method_7_code (10 : Nat) (Option.none : Option Jvm.ClassFile.FieldType)) ∈ pp_tb := pp_tb_mem (List.mem_of_getElem? (i := 597) (by decide +kernel)) (by decide +kernel)
theorem wm_598 : (Cond.methodLink "PedlarPack$Packer" (64 : Nat) ({ cls := "java/lang/Math", name := "max", desc := "(JJ)J" } : Jvm.MethodName)) ∈ pp_tb := pp_tb_mem (List.mem_of_getElem? (i := 598) (by decide +kernel)) (by decide +kernel)
theorem wm_599 : (Cond.static ({ cls := "java/lang/Math", name := "max", desc := "(JJ)J" } : Jvm.MethodName)) ∈ pp_tb := pp_tb_mem (List.mem_of_getElem? (i := 599) (by decide +kernel)) (by decide +kernel)
theorem wm_601 : (Cond.methodLink "PedlarPack$Packer" (74 : Nat) ({ cls := "PedlarPack$Packer", name := "leastNumber", desc := "(II)I" } : Jvm.MethodName)) ∈ pp_tb := pp_tb_mem (List.mem_of_getElem? (i := 601) (by decide +kernel)) (by decide +kernel)
theorem wm_603 : (Cond.instanceMethod ({ cls := "PedlarPack$Packer", name := "leastNumber", desc := "(II)I" } : Jvm.MethodName)) ∈ pp_tb := pp_tb_mem (List.mem_of_getElem? (i := 603) (by decide +kernel)) (by decide +kernel)
theorem wm_604 : (Cond.code ({ cls := "PedlarPack$Packer", name := "leastNumber", desc := "(II)I" } : Jvm.MethodName) prog_7_method_9_code (5 : Nat) (Option.some Jvm.ClassFile.FieldType.int)) ∈ pp_tb := pp_tb_mem (List.mem_of_getElem? (i := 604) (by decide +kernel)) (by decide +kernel)
theorem wm_605 : (Cond.methodLink "PedlarPack" (246 : Nat) ({ cls := "PedlarPack", name := "numberOrWeight", desc := "([II)I" } : Jvm.MethodName)) ∈ pp_tb := pp_tb_mem (List.mem_of_getElem? (i := 605) (by decide +kernel)) (by decide +kernel)
theorem wm_607 : (Cond.instanceMethod ({ cls := "PedlarPack", name := "numberOrWeight", desc := "([II)I" } : Jvm.MethodName)) ∈ pp_tb := pp_tb_mem (List.mem_of_getElem? (i := 607) (by decide +kernel)) (by decide +kernel)
theorem wm_608 : (Cond.code ({ cls := "PedlarPack", name := "numberOrWeight", desc := "([II)I" } : Jvm.MethodName) prog_1_method_57_code (3 : Nat) (Option.some Jvm.ClassFile.FieldType.int)) ∈ pp_tb := pp_tb_mem (List.mem_of_getElem? (i := 608) (by decide +kernel)) (by decide +kernel)
theorem wm_610 : (Cond.instanceMethod ({ cls := "PedlarPack", name := "load", desc := "(II)J" } : Jvm.MethodName)) ∈ pp_tb := pp_tb_mem (List.mem_of_getElem? (i := 610) (by decide +kernel)) (by decide +kernel)
theorem wm_611 : (Cond.selects "PedlarPack" ({ cls := "PedlarPack", name := "load", desc := "(II)J" } : Jvm.MethodName) ({ cls := "PedlarPack", name := "load", desc := "(II)J" } : Jvm.MethodName)) ∈ pp_tb := pp_tb_mem (List.mem_of_getElem? (i := 611) (by decide +kernel)) (by decide +kernel)
theorem wm_612 : (Cond.code ({ cls := "PedlarPack", name := "load", desc := "(II)J" } : Jvm.MethodName) prog_1_method_22_code (3 : Nat) (Option.some Jvm.ClassFile.FieldType.long)) ∈ pp_tb := pp_tb_mem (List.mem_of_getElem? (i := 612) (by decide +kernel)) (by decide +kernel)
theorem wm_613 : (Cond.methodLink "PedlarPack" (249 : Nat) ({ cls := "PedlarPack", name := "loadTerm", desc := "(II)J" } : Jvm.MethodName)) ∈ pp_tb := pp_tb_mem (List.mem_of_getElem? (i := 613) (by decide +kernel)) (by decide +kernel)
theorem wm_615 : (Cond.instanceMethod ({ cls := "PedlarPack", name := "loadTerm", desc := "(II)J" } : Jvm.MethodName)) ∈ pp_tb := pp_tb_mem (List.mem_of_getElem? (i := 615) (by decide +kernel)) (by decide +kernel)
theorem wm_616 : (Cond.code ({ cls := "PedlarPack", name := "loadTerm", desc := "(II)J" } : Jvm.MethodName) prog_1_method_58_code (3 : Nat) (Option.some Jvm.ClassFile.FieldType.long)) ∈ pp_tb := pp_tb_mem (List.mem_of_getElem? (i := 616) (by decide +kernel)) (by decide +kernel)
theorem wm_617 : (Cond.methodLink "PedlarPack" (300 : Nat) ({ cls := "PedlarPack$Packer", name := "mostGain", desc := "(II)J" } : Jvm.MethodName)) ∈ pp_tb := pp_tb_mem (List.mem_of_getElem? (i := 617) (by decide +kernel)) (by decide +kernel)
theorem wm_618 : (Cond.methodLink "PedlarPack" (253 : Nat) ({ cls := "PedlarPack$Packer", name := "chooseLoaded", desc := "(I)V" } : Jvm.MethodName)) ∈ pp_tb := pp_tb_mem (List.mem_of_getElem? (i := 618) (by decide +kernel)) (by decide +kernel)
theorem wm_619 : (Cond.instanceMethod ({ cls := "PedlarPack$Packer", name := "chooseLoaded", desc := "(I)V" } : Jvm.MethodName)) ∈ pp_tb := pp_tb_mem (List.mem_of_getElem? (i := 619) (by decide +kernel)) (by decide +kernel)
theorem wm_620 : (Cond.selects "PedlarPack$Packer" ({ cls := "PedlarPack$Packer", name := "chooseLoaded", desc := "(I)V" } : Jvm.MethodName) ({ cls := "PedlarPack$Packer", name := "chooseLoaded", desc := "(I)V" } : Jvm.MethodName)) ∈ pp_tb := pp_tb_mem (List.mem_of_getElem? (i := 620) (by decide +kernel)) (by decide +kernel)
theorem wm_621 : (Cond.code ({ cls := "PedlarPack$Packer", name := "chooseLoaded", desc := "(I)V" } : Jvm.MethodName) prog_7_method_11_code (5 : Nat) (Option.none : Option Jvm.ClassFile.FieldType)) ∈ pp_tb := pp_tb_mem (List.mem_of_getElem? (i := 621) (by decide +kernel)) (by decide +kernel)
theorem wm_622 : (Cond.methodLink "PedlarPack$Packer" (78 : Nat) ({ cls := "PedlarPack$Packer", name := "nextLoaded", desc := "(I)I" } : Jvm.MethodName)) ∈ pp_tb := pp_tb_mem (List.mem_of_getElem? (i := 622) (by decide +kernel)) (by decide +kernel)
theorem wm_624 : (Cond.instanceMethod ({ cls := "PedlarPack$Packer", name := "nextLoaded", desc := "(I)I" } : Jvm.MethodName)) ∈ pp_tb := pp_tb_mem (List.mem_of_getElem? (i := 624) (by decide +kernel)) (by decide +kernel)
theorem wm_625 : (Cond.code ({ cls := "PedlarPack$Packer", name := "nextLoaded", desc := "(I)I" } : Jvm.MethodName) prog_7_method_12_code (10 : Nat) (Option.some Jvm.ClassFile.FieldType.int)) ∈ pp_tb := pp_tb_mem (List.mem_of_getElem? (i := 625) (by decide +kernel)) (by decide +kernel)
theorem wm_626 : (Cond.methodLink "PedlarPack$Packer" (82 : Nat) ({ cls := "PedlarPack$Packer", name := "stepGain", desc := "(II)J" } : Jvm.MethodName)) ∈ pp_tb := pp_tb_mem (List.mem_of_getElem? (i := 626) (by decide +kernel)) (by decide +kernel)
theorem wm_628 : (Cond.instanceMethod ({ cls := "PedlarPack$Packer", name := "stepGain", desc := "(II)J" } : Jvm.MethodName)) ∈ pp_tb := pp_tb_mem (List.mem_of_getElem? (i := 628) (by decide +kernel)) (by decide +kernel)
theorem wm_629 : (Cond.code ({ cls := "PedlarPack$Packer", name := "stepGain", desc := "(II)J" } : Jvm.MethodName) prog_7_method_10_code (3 : Nat) (Option.some Jvm.ClassFile.FieldType.long)) ∈ pp_tb := pp_tb_mem (List.mem_of_getElem? (i := 629) (by decide +kernel)) (by decide +kernel)
theorem wm_630 : (Cond.methodLink "PedlarPack" (372 : Nat) ({ cls := "PedlarPack$Packer", name := "findBound", desc := "(I)V" } : Jvm.MethodName)) ∈ pp_tb := pp_tb_mem (List.mem_of_getElem? (i := 630) (by decide +kernel)) (by decide +kernel)
theorem wm_631 : (Cond.instanceMethod ({ cls := "PedlarPack$Packer", name := "findBound", desc := "(I)V" } : Jvm.MethodName)) ∈ pp_tb := pp_tb_mem (List.mem_of_getElem? (i := 631) (by decide +kernel)) (by decide +kernel)
theorem wm_632 : (Cond.selects "PedlarPack$Packer" ({ cls := "PedlarPack$Packer", name := "findBound", desc := "(I)V" } : Jvm.MethodName) ({ cls := "PedlarPack$Packer", name := "findBound", desc := "(I)V" } : Jvm.MethodName)) ∈ pp_tb := pp_tb_mem (List.mem_of_getElem? (i := 632) (by decide +kernel)) (by decide +kernel)
theorem wm_633 : (Cond.code ({ cls := "PedlarPack$Packer", name := "findBound", desc := "(I)V" } : Jvm.MethodName) prog_7_method_13_code (8 : Nat) (Option.none : Option Jvm.ClassFile.FieldType)) ∈ pp_tb := pp_tb_mem (List.mem_of_getElem? (i := 633) (by decide +kernel)) (by decide +kernel)
theorem wm_634 : (Cond.methodLink "PedlarPack$Packer" (85 : Nat) ({ cls := "PedlarPack$Packer", name := "nextStep", desc := "()I" } : Jvm.MethodName)) ∈ pp_tb := pp_tb_mem (List.mem_of_getElem? (i := 634) (by decide +kernel)) (by decide +kernel)
theorem wm_636 : (Cond.instanceMethod ({ cls := "PedlarPack$Packer", name := "nextStep", desc := "()I" } : Jvm.MethodName)) ∈ pp_tb := pp_tb_mem (List.mem_of_getElem? (i := 636) (by decide +kernel)) (by decide +kernel)
theorem wm_637 : (Cond.code ({ cls := "PedlarPack$Packer", name := "nextStep", desc := "()I" } : Jvm.MethodName) prog_7_method_14_code (9 : Nat) (Option.some Jvm.ClassFile.FieldType.int)) ∈ pp_tb := pp_tb_mem (List.mem_of_getElem? (i := 637) (by decide +kernel)) (by decide +kernel)
theorem wm_639 : (Cond.instanceMethod ({ cls := "PedlarPack", name := "loaded", desc := "(I)I" } : Jvm.MethodName)) ∈ pp_tb := pp_tb_mem (List.mem_of_getElem? (i := 639) (by decide +kernel)) (by decide +kernel)
theorem wm_640 : (Cond.selects "PedlarPack" ({ cls := "PedlarPack", name := "loaded", desc := "(I)I" } : Jvm.MethodName) ({ cls := "PedlarPack", name := "loaded", desc := "(I)I" } : Jvm.MethodName)) ∈ pp_tb := pp_tb_mem (List.mem_of_getElem? (i := 640) (by decide +kernel)) (by decide +kernel)
theorem wm_641 : (Cond.code ({ cls := "PedlarPack", name := "loaded", desc := "(I)I" } : Jvm.MethodName) prog_1_method_23_code (2 : Nat) (Option.some Jvm.ClassFile.FieldType.int)) ∈ pp_tb := pp_tb_mem (List.mem_of_getElem? (i := 641) (by decide +kernel)) (by decide +kernel)
theorem wm_643 : (Cond.instanceMethod ({ cls := "PedlarPack", name := "round", desc := "(I)I" } : Jvm.MethodName)) ∈ pp_tb := pp_tb_mem (List.mem_of_getElem? (i := 643) (by decide +kernel)) (by decide +kernel)
theorem wm_644 : (Cond.selects "PedlarPack" ({ cls := "PedlarPack", name := "round", desc := "(I)I" } : Jvm.MethodName) ({ cls := "PedlarPack", name := "round", desc := "(I)I" } : Jvm.MethodName)) ∈ pp_tb := pp_tb_mem (List.mem_of_getElem? (i := 644) (by decide +kernel)) (by decide +kernel)
theorem wm_645 : (Cond.code ({ cls := "PedlarPack", name := "round", desc := "(I)I" } : Jvm.MethodName) prog_1_method_24_code (4 : Nat) (Option.some Jvm.ClassFile.FieldType.int)) ∈ pp_tb := pp_tb_mem (List.mem_of_getElem? (i := 645) (by decide +kernel)) (by decide +kernel)
theorem wm_646 : (Cond.methodLink "PedlarPack" (259 : Nat) ({ cls := "PedlarPack", name := "tooManyOpen", desc := "()Z" } : Jvm.MethodName)) ∈ pp_tb := pp_tb_mem (List.mem_of_getElem? (i := 646) (by decide +kernel)) (by decide +kernel)
theorem wm_648 : (Cond.instanceMethod ({ cls := "PedlarPack", name := "tooManyOpen", desc := "()Z" } : Jvm.MethodName)) ∈ pp_tb := pp_tb_mem (List.mem_of_getElem? (i := 648) (by decide +kernel)) (by decide +kernel)
theorem wm_649 : (Cond.code ({ cls := "PedlarPack", name := "tooManyOpen", desc := "()Z" } : Jvm.MethodName) prog_1_method_55_code (1 : Nat) (Option.some Jvm.ClassFile.FieldType.boolean)) ∈ pp_tb := pp_tb_mem (List.mem_of_getElem? (i := 649) (by decide +kernel)) (by decide +kernel)
theorem wm_650 : (Cond.methodLink "PedlarPack" (365 : Nat) ({ cls := "java/lang/Integer", name := "bitCount", desc := "(I)I" } : Jvm.MethodName)) ∈ pp_tb := pp_tb_mem (List.mem_of_getElem? (i := 650) (by decide +kernel)) (by decide +kernel)
theorem wm_651 : (Cond.static ({ cls := "java/lang/Integer", name := "bitCount", desc := "(I)I" } : Jvm.MethodName)) ∈ pp_tb := pp_tb_mem (List.mem_of_getElem? (i := 651) (by decide +kernel)) (by decide +kernel)
theorem wm_652 : (Cond.code ({ cls := "java/lang/Integer", name := "bitCount", desc := "(I)I" } : Jvm.MethodName) prog_12_method_49_code (1 : Nat) (Option.some Jvm.ClassFile.FieldType.int)) ∈ pp_tb := pp_tb_mem (List.mem_of_getElem? (i := 652) (by decide +kernel)) (by decide +kernel)
theorem wm_653 : (Cond.constant "java/lang/Integer" (265 : Nat) (1431655765 : Int32)) ∈ pp_tb := pp_tb_mem (List.mem_of_getElem? (i := 653) (by decide +kernel)) (by decide +kernel)
theorem wm_654 : (Cond.constant "java/lang/Integer" (266 : Nat) (858993459 : Int32)) ∈ pp_tb := pp_tb_mem (List.mem_of_getElem? (i := 654) (by decide +kernel)) (by decide +kernel)
theorem wm_655 : (Cond.constant "java/lang/Integer" (267 : Nat) (252645135 : Int32)) ∈ pp_tb := pp_tb_mem (List.mem_of_getElem? (i := 655) (by decide +kernel)) (by decide +kernel)
theorem wm_656 : (Cond.methodLink "PedlarPack" (263 : Nat) ({ cls := "PedlarPack$Rounds", name := "findRounds", desc := "(III)V" } : Jvm.MethodName)) ∈ pp_tb := pp_tb_mem (List.mem_of_getElem? (i := 656) (by decide +kernel)) (by decide +kernel)
theorem wm_657 : (Cond.instanceMethod ({ cls := "PedlarPack$Rounds", name := "findRounds", desc := "(III)V" } : Jvm.MethodName)) ∈ pp_tb := pp_tb_mem (List.mem_of_getElem? (i := 657) (by decide +kernel)) (by decide +kernel)
theorem wm_658 : (Cond.selects "PedlarPack$Rounds" ({ cls := "PedlarPack$Rounds", name := "findRounds", desc := "(III)V" } : Jvm.MethodName) ({ cls := "PedlarPack$Rounds", name := "findRounds", desc := "(III)V" } : Jvm.MethodName)) ∈ pp_tb := pp_tb_mem (List.mem_of_getElem? (i := 658) (by decide +kernel)) (by decide +kernel)
theorem wm_659 : (Cond.code ({ cls := "PedlarPack$Rounds", name := "findRounds", desc := "(III)V" } : Jvm.MethodName) prog_8_method_3_code (4 : Nat) (Option.none : Option Jvm.ClassFile.FieldType)) ∈ pp_tb := pp_tb_mem (List.mem_of_getElem? (i := 659) (by decide +kernel)) (by decide +kernel)
theorem wm_660 : (Cond.methodLink "PedlarPack$Rounds" (64 : Nat) ({ cls := "PedlarPack$Rounds", name := "clear", desc := "()V" } : Jvm.MethodName)) ∈ pp_tb := pp_tb_mem (List.mem_of_getElem? (i := 660) (by decide +kernel)) (by decide +kernel)
theorem wm_662 : (Cond.instanceMethod ({ cls := "PedlarPack$Rounds", name := "clear", desc := "()V" } : Jvm.MethodName)) ∈ pp_tb := pp_tb_mem (List.mem_of_getElem? (i := 662) (by decide +kernel)) (by decide +kernel)
theorem wm_663 : (Cond.code ({ cls := "PedlarPack$Rounds", name := "clear", desc := "()V" } : Jvm.MethodName) prog_8_method_5_code (2 : Nat) (Option.none : Option Jvm.ClassFile.FieldType)) ∈ pp_tb := pp_tb_mem (List.mem_of_getElem? (i := 663) (by decide +kernel)) (by decide +kernel)
theorem wm_664 : (Cond.constantLong "PedlarPack$Rounds" (75 : Nat) (-9223372036854775808 : Int64)) ∈ pp_tb := pp_tb_mem (List.mem_of_getElem? (i := 664) (by decide +kernel)) (by decide +kernel)
theorem wm_665 : (Cond.methodLink "PedlarPack$Rounds" (77 : Nat) ({ cls := "PedlarPack$Doors", name := "comeHome", desc := "()V" } : Jvm.MethodName)) ∈ pp_tb := pp_tb_mem (List.mem_of_getElem? (i := 665) (by decide +kernel)) (by decide +kernel)
theorem wm_666 : (Cond.methodLink "PedlarPack$Rounds" (67 : Nat) ({ cls := "PedlarPack$Rounds", name := "lengthen", desc := "(IIIII)V" } : Jvm.MethodName)) ∈ pp_tb := pp_tb_mem (List.mem_of_getElem? (i := 666) (by decide +kernel)) (by decide +kernel)
theorem wm_668 : (Cond.instanceMethod ({ cls := "PedlarPack$Rounds", name := "lengthen", desc := "(IIIII)V" } : Jvm.MethodName)) ∈ pp_tb := pp_tb_mem (List.mem_of_getElem? (i := 668) (by decide +kernel)) (by decide +kernel)
theorem wm_669 : (Cond.code ({ cls := "PedlarPack$Rounds", name := "lengthen", desc := "(IIIII)V" } : Jvm.MethodName) prog_8_method_6_code (9 : Nat) (Option.none : Option Jvm.ClassFile.FieldType)) ∈ pp_tb := pp_tb_mem (List.mem_of_getElem? (i := 669) (by decide +kernel)) (by decide +kernel)
theorem wm_670 : (Cond.methodLink "PedlarPack$Rounds" (88 : Nat) ({ cls := "PedlarPack$Rounds", name := "judge", desc := "(III)V" } : Jvm.MethodName)) ∈ pp_tb := pp_tb_mem (List.mem_of_getElem? (i := 670) (by decide +kernel)) (by decide +kernel)
theorem wm_672 : (Cond.instanceMethod ({ cls := "PedlarPack$Rounds", name := "judge", desc := "(III)V" } : Jvm.MethodName)) ∈ pp_tb := pp_tb_mem (List.mem_of_getElem? (i := 672) (by decide +kernel)) (by decide +kernel)
theorem wm_673 : (Cond.code ({ cls := "PedlarPack$Rounds", name := "judge", desc := "(III)V" } : Jvm.MethodName) prog_8_method_7_code (7 : Nat) (Option.none : Option Jvm.ClassFile.FieldType)) ∈ pp_tb := pp_tb_mem (List.mem_of_getElem? (i := 673) (by decide +kernel)) (by decide +kernel)
theorem wm_674 : (Cond.methodLink "PedlarPack$Rounds" (100 : Nat) ({ cls := "PedlarPack$Rounds", name := "valueOfPack", desc := "([J)J" } : Jvm.MethodName)) ∈ pp_tb := pp_tb_mem (List.mem_of_getElem? (i := 674) (by decide +kernel)) (by decide +kernel)
theorem wm_676 : (Cond.instanceMethod ({ cls := "PedlarPack$Rounds", name := "valueOfPack", desc := "([J)J" } : Jvm.MethodName)) ∈ pp_tb := pp_tb_mem (List.mem_of_getElem? (i := 676) (by decide +kernel)) (by decide +kernel)
theorem wm_677 : (Cond.code ({ cls := "PedlarPack$Rounds", name := "valueOfPack", desc := "([J)J" } : Jvm.MethodName) prog_8_method_8_code (5 : Nat) (Option.some Jvm.ClassFile.FieldType.long)) ∈ pp_tb := pp_tb_mem (List.mem_of_getElem? (i := 677) (by decide +kernel)) (by decide +kernel)
theorem wm_678 : (Cond.methodLink "PedlarPack$Rounds" (104 : Nat) ({ cls := "PedlarPack$Rounds", name := "keep", desc := "(IIJ)V" } : Jvm.MethodName)) ∈ pp_tb := pp_tb_mem (List.mem_of_getElem? (i := 678) (by decide +kernel)) (by decide +kernel)
theorem wm_680 : (Cond.instanceMethod ({ cls := "PedlarPack$Rounds", name := "keep", desc := "(IIJ)V" } : Jvm.MethodName)) ∈ pp_tb := pp_tb_mem (List.mem_of_getElem? (i := 680) (by decide +kernel)) (by decide +kernel)
theorem wm_681 : (Cond.code ({ cls := "PedlarPack$Rounds", name := "keep", desc := "(IIJ)V" } : Jvm.MethodName) prog_8_method_10_code (5 : Nat) (Option.none : Option Jvm.ClassFile.FieldType)) ∈ pp_tb := pp_tb_mem (List.mem_of_getElem? (i := 681) (by decide +kernel)) (by decide +kernel)
theorem wm_682 : (Cond.methodLink "PedlarPack$Rounds" (118 : Nat) ({ cls := "PedlarPack$Rounds", name := "isBetter", desc := "(IIJ)Z" } : Jvm.MethodName)) ∈ pp_tb := pp_tb_mem (List.mem_of_getElem? (i := 682) (by decide +kernel)) (by decide +kernel)
theorem wm_684 : (Cond.instanceMethod ({ cls := "PedlarPack$Rounds", name := "isBetter", desc := "(IIJ)Z" } : Jvm.MethodName)) ∈ pp_tb := pp_tb_mem (List.mem_of_getElem? (i := 684) (by decide +kernel)) (by decide +kernel)
theorem wm_685 : (Cond.code ({ cls := "PedlarPack$Rounds", name := "isBetter", desc := "(IIJ)Z" } : Jvm.MethodName) prog_8_method_9_code (5 : Nat) (Option.some Jvm.ClassFile.FieldType.boolean)) ∈ pp_tb := pp_tb_mem (List.mem_of_getElem? (i := 685) (by decide +kernel)) (by decide +kernel)
theorem wm_686 : (Cond.methodLink "PedlarPack$Rounds" (108 : Nat) ({ cls := "PedlarPack$Packer", name := "weighGains", desc := "([J)V" } : Jvm.MethodName)) ∈ pp_tb := pp_tb_mem (List.mem_of_getElem? (i := 686) (by decide +kernel)) (by decide +kernel)
theorem wm_687 : (Cond.methodLink "PedlarPack$Rounds" (114 : Nat) ({ cls := "PedlarPack$Packer", name := "peakGain", desc := "()J" } : Jvm.MethodName)) ∈ pp_tb := pp_tb_mem (List.mem_of_getElem? (i := 687) (by decide +kernel)) (by decide +kernel)
theorem wm_688 : (Cond.instanceMethod ({ cls := "PedlarPack$Packer", name := "peakGain", desc := "()J" } : Jvm.MethodName)) ∈ pp_tb := pp_tb_mem (List.mem_of_getElem? (i := 688) (by decide +kernel)) (by decide +kernel)
theorem wm_689 : (Cond.selects "PedlarPack$Packer" ({ cls := "PedlarPack$Packer", name := "peakGain", desc := "()J" } : Jvm.MethodName) ({ cls := "PedlarPack$Packer", name := "peakGain", desc := "()J" } : Jvm.MethodName)) ∈ pp_tb := pp_tb_mem (List.mem_of_getElem? (i := 689) (by decide +kernel)) (by decide +kernel)
theorem wm_690 : (Cond.code ({ cls := "PedlarPack$Packer", name := "peakGain", desc := "()J" } : Jvm.MethodName) prog_7_method_4_code (1 : Nat) (Option.some Jvm.ClassFile.FieldType.long)) ∈ pp_tb := pp_tb_mem (List.mem_of_getElem? (i := 690) (by decide +kernel)) (by decide +kernel)
theorem wm_691 : (Cond.methodLink "PedlarPack$Packer" (52 : Nat) ({ cls := "PedlarPack$Packer", name := "gainOf", desc := "([I)J" } : Jvm.MethodName)) ∈ pp_tb := pp_tb_mem (List.mem_of_getElem? (i := 691) (by decide +kernel)) (by decide +kernel)
theorem wm_692 : (Cond.methodLink "PedlarPack$Rounds" (122 : Nat) ({ cls := "PedlarPack$Packer", name := "peaksFit", desc := "(I)Z" } : Jvm.MethodName)) ∈ pp_tb := pp_tb_mem (List.mem_of_getElem? (i := 692) (by decide +kernel)) (by decide +kernel)
theorem wm_693 : (Cond.instanceMethod ({ cls := "PedlarPack$Packer", name := "peaksFit", desc := "(I)Z" } : Jvm.MethodName)) ∈ pp_tb := pp_tb_mem (List.mem_of_getElem? (i := 693) (by decide +kernel)) (by decide +kernel)
theorem wm_694 : (Cond.selects "PedlarPack$Packer" ({ cls := "PedlarPack$Packer", name := "peaksFit", desc := "(I)Z" } : Jvm.MethodName) ({ cls := "PedlarPack$Packer", name := "peaksFit", desc := "(I)Z" } : Jvm.MethodName)) ∈ pp_tb := pp_tb_mem (List.mem_of_getElem? (i := 694) (by decide +kernel)) (by decide +kernel)
theorem wm_695 : (Cond.code ({ cls := "PedlarPack$Packer", name := "peaksFit", desc := "(I)Z" } : Jvm.MethodName) prog_7_method_5_code (2 : Nat) (Option.some Jvm.ClassFile.FieldType.boolean)) ∈ pp_tb := pp_tb_mem (List.mem_of_getElem? (i := 695) (by decide +kernel)) (by decide +kernel)
theorem wm_696 : (Cond.methodLink "PedlarPack$Packer" (56 : Nat) ({ cls := "PedlarPack$Goods", name := "weightOf", desc := "([I)I" } : Jvm.MethodName)) ∈ pp_tb := pp_tb_mem (List.mem_of_getElem? (i := 696) (by decide +kernel)) (by decide +kernel)
theorem wm_697 : (Cond.methodLink "PedlarPack$Rounds" (126 : Nat) ({ cls := "PedlarPack$Packer", name := "mostGain", desc := "(II)J" } : Jvm.MethodName)) ∈ pp_tb := pp_tb_mem (List.mem_of_getElem? (i := 697) (by decide +kernel)) (by decide +kernel)
theorem wm_698 : (Cond.methodLink "PedlarPack$Rounds" (71 : Nat) ({ cls := "PedlarPack$Rounds", name := "bitOf", desc := "(I)I" } : Jvm.MethodName)) ∈ pp_tb := pp_tb_mem (List.mem_of_getElem? (i := 698) (by decide +kernel)) (by decide +kernel)
theorem wm_699 : (Cond.static ({ cls := "PedlarPack$Rounds", name := "bitOf", desc := "(I)I" } : Jvm.MethodName)) ∈ pp_tb := pp_tb_mem (List.mem_of_getElem? (i := 699) (by decide +kernel)) (by decide +kernel)
theorem wm_700 : (Cond.code ({ cls := "PedlarPack$Rounds", name := "bitOf", desc := "(I)I" } : Jvm.MethodName) prog_8_method_14_code (1 : Nat) (Option.some Jvm.ClassFile.FieldType.int)) ∈ pp_tb := pp_tb_mem (List.mem_of_getElem? (i := 700) (by decide +kernel)) (by decide +kernel)
theorem wm_701 : (Cond.methodLink "PedlarPack$Rounds" (92 : Nat) ({ cls := "PedlarPack$Doors", name := "callAt", desc := "(II)V" } : Jvm.MethodName)) ∈ pp_tb := pp_tb_mem (List.mem_of_getElem? (i := 701) (by decide +kernel)) (by decide +kernel)
theorem wm_702 : (Cond.methodLink "PedlarPack" (269 : Nat) ({ cls := "PedlarPack$Rounds", name := "bestSet", desc := "()I" } : Jvm.MethodName)) ∈ pp_tb := pp_tb_mem (List.mem_of_getElem? (i := 702) (by decide +kernel)) (by decide +kernel)
theorem wm_703 : (Cond.instanceMethod ({ cls := "PedlarPack$Rounds", name := "bestSet", desc := "()I" } : Jvm.MethodName)) ∈ pp_tb := pp_tb_mem (List.mem_of_getElem? (i := 703) (by decide +kernel)) (by decide +kernel)
theorem wm_704 : (Cond.selects "PedlarPack$Rounds" ({ cls := "PedlarPack$Rounds", name := "bestSet", desc := "()I" } : Jvm.MethodName) ({ cls := "PedlarPack$Rounds", name := "bestSet", desc := "()I" } : Jvm.MethodName)) ∈ pp_tb := pp_tb_mem (List.mem_of_getElem? (i := 704) (by decide +kernel)) (by decide +kernel)
theorem wm_705 : (Cond.code ({ cls := "PedlarPack$Rounds", name := "bestSet", desc := "()I" } : Jvm.MethodName) prog_8_method_11_code (3 : Nat) (Option.some Jvm.ClassFile.FieldType.int)) ∈ pp_tb := pp_tb_mem (List.mem_of_getElem? (i := 705) (by decide +kernel)) (by decide +kernel)
theorem wm_706 : (Cond.methodLink "PedlarPack" (272 : Nat) ({ cls := "PedlarPack", name := "farmsOf", desc := "(I)I" } : Jvm.MethodName)) ∈ pp_tb := pp_tb_mem (List.mem_of_getElem? (i := 706) (by decide +kernel)) (by decide +kernel)
theorem wm_707 : (Cond.static ({ cls := "PedlarPack", name := "farmsOf", desc := "(I)I" } : Jvm.MethodName)) ∈ pp_tb := pp_tb_mem (List.mem_of_getElem? (i := 707) (by decide +kernel)) (by decide +kernel)
theorem wm_708 : (Cond.code ({ cls := "PedlarPack", name := "farmsOf", desc := "(I)I" } : Jvm.MethodName) prog_1_method_53_code (2 : Nat) (Option.some Jvm.ClassFile.FieldType.int)) ∈ pp_tb := pp_tb_mem (List.mem_of_getElem? (i := 708) (by decide +kernel)) (by decide +kernel)
theorem wm_709 : (Cond.methodLink "PedlarPack" (275 : Nat) ({ cls := "PedlarPack", name := "farmOf", desc := "(II)I" } : Jvm.MethodName)) ∈ pp_tb := pp_tb_mem (List.mem_of_getElem? (i := 709) (by decide +kernel)) (by decide +kernel)
theorem wm_710 : (Cond.static ({ cls := "PedlarPack", name := "farmOf", desc := "(II)I" } : Jvm.MethodName)) ∈ pp_tb := pp_tb_mem (List.mem_of_getElem? (i := 710) (by decide +kernel)) (by decide +kernel)
theorem wm_711 : (Cond.code ({ cls := "PedlarPack", name := "farmOf", desc := "(II)I" } : Jvm.MethodName) prog_1_method_54_code (2 : Nat) (Option.some Jvm.ClassFile.FieldType.int)) ∈ pp_tb := pp_tb_mem (List.mem_of_getElem? (i := 711) (by decide +kernel)) (by decide +kernel)
theorem wm_713 : (Cond.instanceMethod ({ cls := "PedlarPack", name := "rounds", desc := "(I)J" } : Jvm.MethodName)) ∈ pp_tb := pp_tb_mem (List.mem_of_getElem? (i := 713) (by decide +kernel)) (by decide +kernel)
theorem wm_714 : (Cond.selects "PedlarPack" ({ cls := "PedlarPack", name := "rounds", desc := "(I)J" } : Jvm.MethodName) ({ cls := "PedlarPack", name := "rounds", desc := "(I)J" } : Jvm.MethodName)) ∈ pp_tb := pp_tb_mem (List.mem_of_getElem? (i := 714) (by decide +kernel)) (by decide +kernel)
theorem wm_715 : (Cond.code ({ cls := "PedlarPack", name := "rounds", desc := "(I)J" } : Jvm.MethodName) prog_1_method_25_code (2 : Nat) (Option.some Jvm.ClassFile.FieldType.long)) ∈ pp_tb := pp_tb_mem (List.mem_of_getElem? (i := 715) (by decide +kernel)) (by decide +kernel)
theorem wm_717 : (Cond.instanceMethod ({ cls := "PedlarPack", name := "onward", desc := "(II)I" } : Jvm.MethodName)) ∈ pp_tb := pp_tb_mem (List.mem_of_getElem? (i := 717) (by decide +kernel)) (by decide +kernel)
theorem wm_718 : (Cond.selects "PedlarPack" ({ cls := "PedlarPack", name := "onward", desc := "(II)I" } : Jvm.MethodName) ({ cls := "PedlarPack", name := "onward", desc := "(II)I" } : Jvm.MethodName)) ∈ pp_tb := pp_tb_mem (List.mem_of_getElem? (i := 718) (by decide +kernel)) (by decide +kernel)
theorem wm_719 : (Cond.code ({ cls := "PedlarPack", name := "onward", desc := "(II)I" } : Jvm.MethodName) prog_1_method_26_code (5 : Nat) (Option.some Jvm.ClassFile.FieldType.int)) ∈ pp_tb := pp_tb_mem (List.mem_of_getElem? (i := 719) (by decide +kernel)) (by decide +kernel)
theorem wm_720 : (Cond.methodLink "PedlarPack" (281 : Nat) ({ cls := "PedlarPack$Rounds", name := "findOnward", desc := "(IIII)V" } : Jvm.MethodName)) ∈ pp_tb := pp_tb_mem (List.mem_of_getElem? (i := 720) (by decide +kernel)) (by decide +kernel)
theorem wm_721 : (Cond.instanceMethod ({ cls := "PedlarPack$Rounds", name := "findOnward", desc := "(IIII)V" } : Jvm.MethodName)) ∈ pp_tb := pp_tb_mem (List.mem_of_getElem? (i := 721) (by decide +kernel)) (by decide +kernel)
theorem wm_722 : (Cond.selects "PedlarPack$Rounds" ({ cls := "PedlarPack$Rounds", name := "findOnward", desc := "(IIII)V" } : Jvm.MethodName) ({ cls := "PedlarPack$Rounds", name := "findOnward", desc := "(IIII)V" } : Jvm.MethodName)) ∈ pp_tb := pp_tb_mem (List.mem_of_getElem? (i := 722) (by decide +kernel)) (by decide +kernel)
theorem wm_723 : (Cond.code ({ cls := "PedlarPack$Rounds", name := "findOnward", desc := "(IIII)V" } : Jvm.MethodName) prog_8_method_4_code (5 : Nat) (Option.none : Option Jvm.ClassFile.FieldType)) ∈ pp_tb := pp_tb_mem (List.mem_of_getElem? (i := 723) (by decide +kernel)) (by decide +kernel)
theorem wm_725 : (Cond.instanceMethod ({ cls := "PedlarPack", name := "trust", desc := "(IIIII)I" } : Jvm.MethodName)) ∈ pp_tb := pp_tb_mem (List.mem_of_getElem? (i := 725) (by decide +kernel)) (by decide +kernel)
theorem wm_726 : (Cond.selects "PedlarPack" ({ cls := "PedlarPack", name := "trust", desc := "(IIIII)I" } : Jvm.MethodName) ({ cls := "PedlarPack", name := "trust", desc := "(IIIII)I" } : Jvm.MethodName)) ∈ pp_tb := pp_tb_mem (List.mem_of_getElem? (i := 726) (by decide +kernel)) (by decide +kernel)
theorem wm_727 : (Cond.code ({ cls := "PedlarPack", name := "trust", desc := "(IIIII)I" } : Jvm.MethodName) prog_1_method_27_code (10 : Nat) (Option.some Jvm.ClassFile.FieldType.int)) ∈ pp_tb := pp_tb_mem (List.mem_of_getElem? (i := 727) (by decide +kernel)) (by decide +kernel)
theorem wm_728 : (Cond.constantLong "PedlarPack" (285 : Nat) (16777216 : Int64)) ∈ pp_tb := pp_tb_mem (List.mem_of_getElem? (i := 728) (by decide +kernel)) (by decide +kernel)
theorem wm_730 : (Cond.instanceMethod ({ cls := "PedlarPack", name := "two", desc := "(I)I" } : Jvm.MethodName)) ∈ pp_tb := pp_tb_mem (List.mem_of_getElem? (i := 730) (by decide +kernel)) (by decide +kernel)
theorem wm_731 : (Cond.selects "PedlarPack" ({ cls := "PedlarPack", name := "two", desc := "(I)I" } : Jvm.MethodName) ({ cls := "PedlarPack", name := "two", desc := "(I)I" } : Jvm.MethodName)) ∈ pp_tb := pp_tb_mem (List.mem_of_getElem? (i := 731) (by decide +kernel)) (by decide +kernel)
theorem wm_732 : (Cond.code ({ cls := "PedlarPack", name := "two", desc := "(I)I" } : Jvm.MethodName) prog_1_method_28_code (2 : Nat) (Option.some Jvm.ClassFile.FieldType.int)) ∈ pp_tb := pp_tb_mem (List.mem_of_getElem? (i := 732) (by decide +kernel)) (by decide +kernel)
theorem wm_733 : (Cond.methodLink "PedlarPack" (287 : Nat) ({ cls := "PedlarPack$Rounds", name := "part", desc := "(I)V" } : Jvm.MethodName)) ∈ pp_tb := pp_tb_mem (List.mem_of_getElem? (i := 733) (by decide +kernel)) (by decide +kernel)
theorem wm_734 : (Cond.instanceMethod ({ cls := "PedlarPack$Rounds", name := "part", desc := "(I)V" } : Jvm.MethodName)) ∈ pp_tb := pp_tb_mem (List.mem_of_getElem? (i := 734) (by decide +kernel)) (by decide +kernel)
theorem wm_735 : (Cond.selects "PedlarPack$Rounds" ({ cls := "PedlarPack$Rounds", name := "part", desc := "(I)V" } : Jvm.MethodName) ({ cls := "PedlarPack$Rounds", name := "part", desc := "(I)V" } : Jvm.MethodName)) ∈ pp_tb := pp_tb_mem (List.mem_of_getElem? (i := 735) (by decide +kernel)) (by decide +kernel)
theorem wm_736 : (Cond.code ({ cls := "PedlarPack$Rounds", name := "part", desc := "(I)V" } : Jvm.MethodName) prog_8_method_12_code (3 : Nat) (Option.none : Option Jvm.ClassFile.FieldType)) ∈ pp_tb := pp_tb_mem (List.mem_of_getElem? (i := 736) (by decide +kernel)) (by decide +kernel)
theorem wm_737 : (Cond.methodLink "PedlarPack$Rounds" (130 : Nat) ({ cls := "PedlarPack$Rounds", name := "partWith", desc := "(II)V" } : Jvm.MethodName)) ∈ pp_tb := pp_tb_mem (List.mem_of_getElem? (i := 737) (by decide +kernel)) (by decide +kernel)
theorem wm_739 : (Cond.instanceMethod ({ cls := "PedlarPack$Rounds", name := "partWith", desc := "(II)V" } : Jvm.MethodName)) ∈ pp_tb := pp_tb_mem (List.mem_of_getElem? (i := 739) (by decide +kernel)) (by decide +kernel)
theorem wm_740 : (Cond.code ({ cls := "PedlarPack$Rounds", name := "partWith", desc := "(II)V" } : Jvm.MethodName) prog_8_method_13_code (4 : Nat) (Option.none : Option Jvm.ClassFile.FieldType)) ∈ pp_tb := pp_tb_mem (List.mem_of_getElem? (i := 740) (by decide +kernel)) (by decide +kernel)
theorem wm_742 : (Cond.instanceMethod ({ cls := "PedlarPack", name := "both", desc := "(I)J" } : Jvm.MethodName)) ∈ pp_tb := pp_tb_mem (List.mem_of_getElem? (i := 742) (by decide +kernel)) (by decide +kernel)
end
section
theorem wm_743 : (Cond.selects "PedlarPack" ({ cls := "PedlarPack", name := "both", desc := "(I)J" } : Jvm.MethodName) ({ cls := "PedlarPack", name := "both", desc := "(I)J" } : Jvm.MethodName)) ∈ pp_tb := pp_tb_mem (List.mem_of_getElem? (i := 743) (by decide +kernel)) (by decide +kernel)
theorem wm_744 : (Cond.code ({ cls := "PedlarPack", name := "both", desc := "(I)J" } : Jvm.MethodName) prog_1_method_29_code (2 : Nat) (Option.some Jvm.ClassFile.FieldType.long)) ∈ pp_tb := pp_tb_mem (List.mem_of_getElem? (i := 744) (by decide +kernel)) (by decide +kernel)
theorem wm_746 : (Cond.instanceMethod ({ cls := "PedlarPack", name := "brings", desc := "(II)J" } : Jvm.MethodName)) ∈ pp_tb := pp_tb_mem (List.mem_of_getElem? (i := 746) (by decide +kernel)) (by decide +kernel)
theorem wm_747 : (Cond.selects "PedlarPack" ({ cls := "PedlarPack", name := "brings", desc := "(II)J" } : Jvm.MethodName) ({ cls := "PedlarPack", name := "brings", desc := "(II)J" } : Jvm.MethodName)) ∈ pp_tb := pp_tb_mem (List.mem_of_getElem? (i := 747) (by decide +kernel)) (by decide +kernel)
theorem wm_748 : (Cond.code ({ cls := "PedlarPack", name := "brings", desc := "(II)J" } : Jvm.MethodName) prog_1_method_30_code (5 : Nat) (Option.some Jvm.ClassFile.FieldType.long)) ∈ pp_tb := pp_tb_mem (List.mem_of_getElem? (i := 748) (by decide +kernel)) (by decide +kernel)
theorem wm_750 : (Cond.instanceMethod ({ cls := "PedlarPack", name := "straps", desc := "()I" } : Jvm.MethodName)) ∈ pp_tb := pp_tb_mem (List.mem_of_getElem? (i := 750) (by decide +kernel)) (by decide +kernel)
theorem wm_751 : (Cond.selects "PedlarPack" ({ cls := "PedlarPack", name := "straps", desc := "()I" } : Jvm.MethodName) ({ cls := "PedlarPack", name := "straps", desc := "()I" } : Jvm.MethodName)) ∈ pp_tb := pp_tb_mem (List.mem_of_getElem? (i := 751) (by decide +kernel)) (by decide +kernel)
theorem wm_752 : (Cond.code ({ cls := "PedlarPack", name := "straps", desc := "()I" } : Jvm.MethodName) prog_1_method_31_code (1 : Nat) (Option.some Jvm.ClassFile.FieldType.int)) ∈ pp_tb := pp_tb_mem (List.mem_of_getElem? (i := 752) (by decide +kernel)) (by decide +kernel)
theorem wm_753 : (Cond.methodLink "PedlarPack" (303 : Nat) ({ cls := "PedlarPack$Packer", name := "leastBringing", desc := "(I)I" } : Jvm.MethodName)) ∈ pp_tb := pp_tb_mem (List.mem_of_getElem? (i := 753) (by decide +kernel)) (by decide +kernel)
theorem wm_754 : (Cond.instanceMethod ({ cls := "PedlarPack$Packer", name := "leastBringing", desc := "(I)I" } : Jvm.MethodName)) ∈ pp_tb := pp_tb_mem (List.mem_of_getElem? (i := 754) (by decide +kernel)) (by decide +kernel)
theorem wm_755 : (Cond.selects "PedlarPack$Packer" ({ cls := "PedlarPack$Packer", name := "leastBringing", desc := "(I)I" } : Jvm.MethodName) ({ cls := "PedlarPack$Packer", name := "leastBringing", desc := "(I)I" } : Jvm.MethodName)) ∈ pp_tb := pp_tb_mem (List.mem_of_getElem? (i := 755) (by decide +kernel)) (by decide +kernel)
theorem wm_756 : (Cond.code ({ cls := "PedlarPack$Packer", name := "leastBringing", desc := "(I)I" } : Jvm.MethodName) prog_7_method_15_code (12 : Nat) (Option.some Jvm.ClassFile.FieldType.int)) ∈ pp_tb := pp_tb_mem (List.mem_of_getElem? (i := 756) (by decide +kernel)) (by decide +kernel)
theorem wm_758 : (Cond.instanceMethod ({ cls := "PedlarPack", name := "sheet", desc := "(III)I" } : Jvm.MethodName)) ∈ pp_tb := pp_tb_mem (List.mem_of_getElem? (i := 758) (by decide +kernel)) (by decide +kernel)
theorem wm_759 : (Cond.selects "PedlarPack" ({ cls := "PedlarPack", name := "sheet", desc := "(III)I" } : Jvm.MethodName) ({ cls := "PedlarPack", name := "sheet", desc := "(III)I" } : Jvm.MethodName)) ∈ pp_tb := pp_tb_mem (List.mem_of_getElem? (i := 759) (by decide +kernel)) (by decide +kernel)
theorem wm_760 : (Cond.code ({ cls := "PedlarPack", name := "sheet", desc := "(III)I" } : Jvm.MethodName) prog_1_method_32_code (4 : Nat) (Option.some Jvm.ClassFile.FieldType.int)) ∈ pp_tb := pp_tb_mem (List.mem_of_getElem? (i := 760) (by decide +kernel)) (by decide +kernel)
theorem wm_761 : (Cond.methodLink "PedlarPack" (306 : Nat) ({ cls := "PedlarPack", name := "isForm", desc := "(I)Z" } : Jvm.MethodName)) ∈ pp_tb := pp_tb_mem (List.mem_of_getElem? (i := 761) (by decide +kernel)) (by decide +kernel)
theorem wm_762 : (Cond.static ({ cls := "PedlarPack", name := "isForm", desc := "(I)Z" } : Jvm.MethodName)) ∈ pp_tb := pp_tb_mem (List.mem_of_getElem? (i := 762) (by decide +kernel)) (by decide +kernel)
theorem wm_763 : (Cond.code ({ cls := "PedlarPack", name := "isForm", desc := "(I)Z" } : Jvm.MethodName) prog_1_method_47_code (1 : Nat) (Option.some Jvm.ClassFile.FieldType.boolean)) ∈ pp_tb := pp_tb_mem (List.mem_of_getElem? (i := 763) (by decide +kernel)) (by decide +kernel)
theorem wm_764 : (Cond.methodLink "PedlarPack" (309 : Nat) ({ cls := "PedlarPack$Sheets", name := "renew", desc := "(III)V" } : Jvm.MethodName)) ∈ pp_tb := pp_tb_mem (List.mem_of_getElem? (i := 764) (by decide +kernel)) (by decide +kernel)
theorem wm_765 : (Cond.instanceMethod ({ cls := "PedlarPack$Sheets", name := "renew", desc := "(III)V" } : Jvm.MethodName)) ∈ pp_tb := pp_tb_mem (List.mem_of_getElem? (i := 765) (by decide +kernel)) (by decide +kernel)
theorem wm_766 : (Cond.selects "PedlarPack$Sheets" ({ cls := "PedlarPack$Sheets", name := "renew", desc := "(III)V" } : Jvm.MethodName) ({ cls := "PedlarPack$Sheets", name := "renew", desc := "(III)V" } : Jvm.MethodName)) ∈ pp_tb := pp_tb_mem (List.mem_of_getElem? (i := 766) (by decide +kernel)) (by decide +kernel)
theorem wm_767 : (Cond.code ({ cls := "PedlarPack$Sheets", name := "renew", desc := "(III)V" } : Jvm.MethodName) prog_9_method_4_code (5 : Nat) (Option.none : Option Jvm.ClassFile.FieldType)) ∈ pp_tb := pp_tb_mem (List.mem_of_getElem? (i := 767) (by decide +kernel)) (by decide +kernel)
theorem wm_769 : (Cond.instanceMethod ({ cls := "PedlarPack", name := "lose", desc := "(I)I" } : Jvm.MethodName)) ∈ pp_tb := pp_tb_mem (List.mem_of_getElem? (i := 769) (by decide +kernel)) (by decide +kernel)
theorem wm_770 : (Cond.selects "PedlarPack" ({ cls := "PedlarPack", name := "lose", desc := "(I)I" } : Jvm.MethodName) ({ cls := "PedlarPack", name := "lose", desc := "(I)I" } : Jvm.MethodName)) ∈ pp_tb := pp_tb_mem (List.mem_of_getElem? (i := 770) (by decide +kernel)) (by decide +kernel)
theorem wm_771 : (Cond.code ({ cls := "PedlarPack", name := "lose", desc := "(I)I" } : Jvm.MethodName) prog_1_method_33_code (3 : Nat) (Option.some Jvm.ClassFile.FieldType.int)) ∈ pp_tb := pp_tb_mem (List.mem_of_getElem? (i := 771) (by decide +kernel)) (by decide +kernel)
theorem wm_773 : (Cond.instanceMethod ({ cls := "PedlarPack", name := "put", desc := "(IIII)I" } : Jvm.MethodName)) ∈ pp_tb := pp_tb_mem (List.mem_of_getElem? (i := 773) (by decide +kernel)) (by decide +kernel)
theorem wm_774 : (Cond.selects "PedlarPack" ({ cls := "PedlarPack", name := "put", desc := "(IIII)I" } : Jvm.MethodName) ({ cls := "PedlarPack", name := "put", desc := "(IIII)I" } : Jvm.MethodName)) ∈ pp_tb := pp_tb_mem (List.mem_of_getElem? (i := 774) (by decide +kernel)) (by decide +kernel)
theorem wm_775 : (Cond.code ({ cls := "PedlarPack", name := "put", desc := "(IIII)I" } : Jvm.MethodName) prog_1_method_34_code (6 : Nat) (Option.some Jvm.ClassFile.FieldType.int)) ∈ pp_tb := pp_tb_mem (List.mem_of_getElem? (i := 775) (by decide +kernel)) (by decide +kernel)
theorem wm_776 : (Cond.methodLink "PedlarPack" (312 : Nat) ({ cls := "PedlarPack$Sheets", name := "findingAt", desc := "(III)I" } : Jvm.MethodName)) ∈ pp_tb := pp_tb_mem (List.mem_of_getElem? (i := 776) (by decide +kernel)) (by decide +kernel)
theorem wm_777 : (Cond.instanceMethod ({ cls := "PedlarPack$Sheets", name := "findingAt", desc := "(III)I" } : Jvm.MethodName)) ∈ pp_tb := pp_tb_mem (List.mem_of_getElem? (i := 777) (by decide +kernel)) (by decide +kernel)
theorem wm_778 : (Cond.selects "PedlarPack$Sheets" ({ cls := "PedlarPack$Sheets", name := "findingAt", desc := "(III)I" } : Jvm.MethodName) ({ cls := "PedlarPack$Sheets", name := "findingAt", desc := "(III)I" } : Jvm.MethodName)) ∈ pp_tb := pp_tb_mem (List.mem_of_getElem? (i := 778) (by decide +kernel)) (by decide +kernel)
theorem wm_779 : (Cond.code ({ cls := "PedlarPack$Sheets", name := "findingAt", desc := "(III)I" } : Jvm.MethodName) prog_9_method_5_code (4 : Nat) (Option.some Jvm.ClassFile.FieldType.int)) ∈ pp_tb := pp_tb_mem (List.mem_of_getElem? (i := 779) (by decide +kernel)) (by decide +kernel)
theorem wm_780 : (Cond.methodLink "PedlarPack$Sheets" (27 : Nat) ({ cls := "PedlarPack$Sheets", name := "isLost", desc := "(I)Z" } : Jvm.MethodName)) ∈ pp_tb := pp_tb_mem (List.mem_of_getElem? (i := 780) (by decide +kernel)) (by decide +kernel)
theorem wm_782 : (Cond.methodLink "PedlarPack" (315 : Nat) ({ cls := "PedlarPack$Sheets", name := "lay", desc := "(III)V" } : Jvm.MethodName)) ∈ pp_tb := pp_tb_mem (List.mem_of_getElem? (i := 782) (by decide +kernel)) (by decide +kernel)
theorem wm_783 : (Cond.instanceMethod ({ cls := "PedlarPack$Sheets", name := "lay", desc := "(III)V" } : Jvm.MethodName)) ∈ pp_tb := pp_tb_mem (List.mem_of_getElem? (i := 783) (by decide +kernel)) (by decide +kernel)
theorem wm_784 : (Cond.selects "PedlarPack$Sheets" ({ cls := "PedlarPack$Sheets", name := "lay", desc := "(III)V" } : Jvm.MethodName) ({ cls := "PedlarPack$Sheets", name := "lay", desc := "(III)V" } : Jvm.MethodName)) ∈ pp_tb := pp_tb_mem (List.mem_of_getElem? (i := 784) (by decide +kernel)) (by decide +kernel)
theorem wm_785 : (Cond.code ({ cls := "PedlarPack$Sheets", name := "lay", desc := "(III)V" } : Jvm.MethodName) prog_9_method_7_code (5 : Nat) (Option.none : Option Jvm.ClassFile.FieldType)) ∈ pp_tb := pp_tb_mem (List.mem_of_getElem? (i := 785) (by decide +kernel)) (by decide +kernel)
theorem wm_787 : (Cond.instanceMethod ({ cls := "PedlarPack", name := "get", desc := "(III)I" } : Jvm.MethodName)) ∈ pp_tb := pp_tb_mem (List.mem_of_getElem? (i := 787) (by decide +kernel)) (by decide +kernel)
theorem wm_788 : (Cond.selects "PedlarPack" ({ cls := "PedlarPack", name := "get", desc := "(III)I" } : Jvm.MethodName) ({ cls := "PedlarPack", name := "get", desc := "(III)I" } : Jvm.MethodName)) ∈ pp_tb := pp_tb_mem (List.mem_of_getElem? (i := 788) (by decide +kernel)) (by decide +kernel)
theorem wm_789 : (Cond.code ({ cls := "PedlarPack", name := "get", desc := "(III)I" } : Jvm.MethodName) prog_1_method_35_code (5 : Nat) (Option.some Jvm.ClassFile.FieldType.int)) ∈ pp_tb := pp_tb_mem (List.mem_of_getElem? (i := 789) (by decide +kernel)) (by decide +kernel)
theorem wm_790 : (Cond.constant "PedlarPack" (320 : Nat) (-2147483648 : Int32)) ∈ pp_tb := pp_tb_mem (List.mem_of_getElem? (i := 790) (by decide +kernel)) (by decide +kernel)
theorem wm_792 : (Cond.instanceMethod ({ cls := "PedlarPack", name := "copy", desc := "(IIIII)I" } : Jvm.MethodName)) ∈ pp_tb := pp_tb_mem (List.mem_of_getElem? (i := 792) (by decide +kernel)) (by decide +kernel)
theorem wm_793 : (Cond.selects "PedlarPack" ({ cls := "PedlarPack", name := "copy", desc := "(IIIII)I" } : Jvm.MethodName) ({ cls := "PedlarPack", name := "copy", desc := "(IIIII)I" } : Jvm.MethodName)) ∈ pp_tb := pp_tb_mem (List.mem_of_getElem? (i := 793) (by decide +kernel)) (by decide +kernel)
theorem wm_794 : (Cond.code ({ cls := "PedlarPack", name := "copy", desc := "(IIIII)I" } : Jvm.MethodName) prog_1_method_36_code (6 : Nat) (Option.some Jvm.ClassFile.FieldType.int)) ∈ pp_tb := pp_tb_mem (List.mem_of_getElem? (i := 794) (by decide +kernel)) (by decide +kernel)
theorem wm_795 : (Cond.methodLink "PedlarPack" (324 : Nat) ({ cls := "PedlarPack$Sheets", name := "hasItems", desc := "(III)Z" } : Jvm.MethodName)) ∈ pp_tb := pp_tb_mem (List.mem_of_getElem? (i := 795) (by decide +kernel)) (by decide +kernel)
theorem wm_796 : (Cond.instanceMethod ({ cls := "PedlarPack$Sheets", name := "hasItems", desc := "(III)Z" } : Jvm.MethodName)) ∈ pp_tb := pp_tb_mem (List.mem_of_getElem? (i := 796) (by decide +kernel)) (by decide +kernel)
theorem wm_797 : (Cond.selects "PedlarPack$Sheets" ({ cls := "PedlarPack$Sheets", name := "hasItems", desc := "(III)Z" } : Jvm.MethodName) ({ cls := "PedlarPack$Sheets", name := "hasItems", desc := "(III)Z" } : Jvm.MethodName)) ∈ pp_tb := pp_tb_mem (List.mem_of_getElem? (i := 797) (by decide +kernel)) (by decide +kernel)
theorem wm_798 : (Cond.code ({ cls := "PedlarPack$Sheets", name := "hasItems", desc := "(III)Z" } : Jvm.MethodName) prog_9_method_6_code (4 : Nat) (Option.some Jvm.ClassFile.FieldType.boolean)) ∈ pp_tb := pp_tb_mem (List.mem_of_getElem? (i := 798) (by decide +kernel)) (by decide +kernel)
theorem wm_799 : (Cond.methodLink "PedlarPack" (327 : Nat) ({ cls := "java/lang/System", name := "arraycopy", desc := "(Ljava/lang/Object;ILjava/lang/Object;II)V" } : Jvm.MethodName)) ∈ pp_tb := pp_tb_mem (List.mem_of_getElem? (i := 799) (by decide +kernel)) (by decide +kernel)
theorem wm_800 : (Cond.static ({ cls := "java/lang/System", name := "arraycopy", desc := "(Ljava/lang/Object;ILjava/lang/Object;II)V" } : Jvm.MethodName)) ∈ pp_tb := pp_tb_mem (List.mem_of_getElem? (i := 800) (by decide +kernel)) (by decide +kernel)
theorem wm_801 : (Cond.native ({ cls := "java/lang/System", name := "arraycopy", desc := "(Ljava/lang/Object;ILjava/lang/Object;II)V" } : Jvm.MethodName)) ∈ pp_tb := pp_tb_mem (List.mem_of_getElem? (i := 801) (by decide +kernel)) (by decide +kernel)
theorem wm_803 : (Cond.instanceMethod ({ cls := "PedlarPack", name := "write", desc := "(I)I" } : Jvm.MethodName)) ∈ pp_tb := pp_tb_mem (List.mem_of_getElem? (i := 803) (by decide +kernel)) (by decide +kernel)
theorem wm_804 : (Cond.selects "PedlarPack" ({ cls := "PedlarPack", name := "write", desc := "(I)I" } : Jvm.MethodName) ({ cls := "PedlarPack", name := "write", desc := "(I)I" } : Jvm.MethodName)) ∈ pp_tb := pp_tb_mem (List.mem_of_getElem? (i := 804) (by decide +kernel)) (by decide +kernel)
theorem wm_805 : (Cond.code ({ cls := "PedlarPack", name := "write", desc := "(I)I" } : Jvm.MethodName) prog_1_method_37_code (4 : Nat) (Option.some Jvm.ClassFile.FieldType.int)) ∈ pp_tb := pp_tb_mem (List.mem_of_getElem? (i := 805) (by decide +kernel)) (by decide +kernel)
theorem wm_807 : (Cond.instanceMethod ({ cls := "PedlarPack", name := "count", desc := "(I)I" } : Jvm.MethodName)) ∈ pp_tb := pp_tb_mem (List.mem_of_getElem? (i := 807) (by decide +kernel)) (by decide +kernel)
theorem wm_808 : (Cond.selects "PedlarPack" ({ cls := "PedlarPack", name := "count", desc := "(I)I" } : Jvm.MethodName) ({ cls := "PedlarPack", name := "count", desc := "(I)I" } : Jvm.MethodName)) ∈ pp_tb := pp_tb_mem (List.mem_of_getElem? (i := 808) (by decide +kernel)) (by decide +kernel)
theorem wm_809 : (Cond.code ({ cls := "PedlarPack", name := "count", desc := "(I)I" } : Jvm.MethodName) prog_1_method_38_code (2 : Nat) (Option.some Jvm.ClassFile.FieldType.int)) ∈ pp_tb := pp_tb_mem (List.mem_of_getElem? (i := 809) (by decide +kernel)) (by decide +kernel)
theorem wm_810 : (Cond.methodLink "PedlarPack" (333 : Nat) ({ cls := "PedlarPack$Land", name := "countRoads", desc := "()I" } : Jvm.MethodName)) ∈ pp_tb := pp_tb_mem (List.mem_of_getElem? (i := 810) (by decide +kernel)) (by decide +kernel)
theorem wm_811 : (Cond.instanceMethod ({ cls := "PedlarPack$Land", name := "countRoads", desc := "()I" } : Jvm.MethodName)) ∈ pp_tb := pp_tb_mem (List.mem_of_getElem? (i := 811) (by decide +kernel)) (by decide +kernel)
theorem wm_812 : (Cond.selects "PedlarPack$Land" ({ cls := "PedlarPack$Land", name := "countRoads", desc := "()I" } : Jvm.MethodName) ({ cls := "PedlarPack$Land", name := "countRoads", desc := "()I" } : Jvm.MethodName)) ∈ pp_tb := pp_tb_mem (List.mem_of_getElem? (i := 812) (by decide +kernel)) (by decide +kernel)
theorem wm_813 : (Cond.code ({ cls := "PedlarPack$Land", name := "countRoads", desc := "()I" } : Jvm.MethodName) prog_4_method_5_code (4 : Nat) (Option.some Jvm.ClassFile.FieldType.int)) ∈ pp_tb := pp_tb_mem (List.mem_of_getElem? (i := 813) (by decide +kernel)) (by decide +kernel)
theorem wm_814 : (Cond.methodLink "PedlarPack" (336 : Nat) ({ cls := "PedlarPack$Market", name := "countChances", desc := "()I" } : Jvm.MethodName)) ∈ pp_tb := pp_tb_mem (List.mem_of_getElem? (i := 814) (by decide +kernel)) (by decide +kernel)
theorem wm_815 : (Cond.instanceMethod ({ cls := "PedlarPack$Market", name := "countChances", desc := "()I" } : Jvm.MethodName)) ∈ pp_tb := pp_tb_mem (List.mem_of_getElem? (i := 815) (by decide +kernel)) (by decide +kernel)
theorem wm_816 : (Cond.selects "PedlarPack$Market" ({ cls := "PedlarPack$Market", name := "countChances", desc := "()I" } : Jvm.MethodName) ({ cls := "PedlarPack$Market", name := "countChances", desc := "()I" } : Jvm.MethodName)) ∈ pp_tb := pp_tb_mem (List.mem_of_getElem? (i := 816) (by decide +kernel)) (by decide +kernel)
theorem wm_817 : (Cond.code ({ cls := "PedlarPack$Market", name := "countChances", desc := "()I" } : Jvm.MethodName) prog_6_method_4_code (5 : Nat) (Option.some Jvm.ClassFile.FieldType.int)) ∈ pp_tb := pp_tb_mem (List.mem_of_getElem? (i := 817) (by decide +kernel)) (by decide +kernel)
theorem wm_818 : (Cond.methodLink "PedlarPack$Market" (24 : Nat) ({ cls := "PedlarPack$Market", name := "chanceOf", desc := "(III)I" } : Jvm.MethodName)) ∈ pp_tb := pp_tb_mem (List.mem_of_getElem? (i := 818) (by decide +kernel)) (by decide +kernel)
theorem wm_820 : (Cond.instanceMethod ({ cls := "PedlarPack", name := "digest", desc := "()J" } : Jvm.MethodName)) ∈ pp_tb := pp_tb_mem (List.mem_of_getElem? (i := 820) (by decide +kernel)) (by decide +kernel)
theorem wm_821 : (Cond.selects "PedlarPack" ({ cls := "PedlarPack", name := "digest", desc := "()J" } : Jvm.MethodName) ({ cls := "PedlarPack", name := "digest", desc := "()J" } : Jvm.MethodName)) ∈ pp_tb := pp_tb_mem (List.mem_of_getElem? (i := 821) (by decide +kernel)) (by decide +kernel)
theorem wm_822 : (Cond.code ({ cls := "PedlarPack", name := "digest", desc := "()J" } : Jvm.MethodName) prog_1_method_39_code (5 : Nat) (Option.some Jvm.ClassFile.FieldType.long)) ∈ pp_tb := pp_tb_mem (List.mem_of_getElem? (i := 822) (by decide +kernel)) (by decide +kernel)
theorem wm_823 : (Cond.constantLong "PedlarPack" (342 : Nat) (17 : Int64)) ∈ pp_tb := pp_tb_mem (List.mem_of_getElem? (i := 823) (by decide +kernel)) (by decide +kernel)
theorem wm_824 : (Cond.constantLong "PedlarPack" (344 : Nat) (31 : Int64)) ∈ pp_tb := pp_tb_mem (List.mem_of_getElem? (i := 824) (by decide +kernel)) (by decide +kernel)
theorem wm_825 : (Cond.methodLink "PedlarPack" (346 : Nat) ({ cls := "PedlarPack", name := "count", desc := "(I)I" } : Jvm.MethodName)) ∈ pp_tb := pp_tb_mem (List.mem_of_getElem? (i := 825) (by decide +kernel)) (by decide +kernel)
theorem wm_826 : (Cond.methodLink "PedlarPack" (349 : Nat) ({ cls := "PedlarPack", name := "fault", desc := "()I" } : Jvm.MethodName)) ∈ pp_tb := pp_tb_mem (List.mem_of_getElem? (i := 826) (by decide +kernel)) (by decide +kernel)
theorem wm_827 : (Cond.methodLink "PedlarPack" (352 : Nat) ({ cls := "PedlarPack", name := "judged", desc := "()I" } : Jvm.MethodName)) ∈ pp_tb := pp_tb_mem (List.mem_of_getElem? (i := 827) (by decide +kernel)) (by decide +kernel)
theorem wm_834 : (Cond.fieldLink "PedlarPackModel" (7 : Nat) "PedlarPackModel" "cost" "[I") ∈ pp_tb := pp_tb_mem (List.mem_of_getElem? (i := 834) (by decide +kernel)) (by decide +kernel)
theorem wm_835 : (Cond.fieldLink "PedlarPackModel" (13 : Nat) "PedlarPackModel" "weight" "[I") ∈ pp_tb := pp_tb_mem (List.mem_of_getElem? (i := 835) (by decide +kernel)) (by decide +kernel)
theorem wm_836 : (Cond.fieldLink "PedlarPackModel" (16 : Nat) "PedlarPackModel" "loss" "[I") ∈ pp_tb := pp_tb_mem (List.mem_of_getElem? (i := 836) (by decide +kernel)) (by decide +kernel)
theorem wm_837 : (Cond.fieldLink "PedlarPackModel" (19 : Nat) "PedlarPackModel" "price" "[I") ∈ pp_tb := pp_tb_mem (List.mem_of_getElem? (i := 837) (by decide +kernel)) (by decide +kernel)
theorem wm_838 : (Cond.fieldLink "PedlarPackModel" (22 : Nat) "PedlarPackModel" "roads" "[I") ∈ pp_tb := pp_tb_mem (List.mem_of_getElem? (i := 838) (by decide +kernel)) (by decide +kernel)
theorem wm_839 : (Cond.fieldLink "PedlarPackModel" (25 : Nat) "PedlarPackModel" "ways" "[I") ∈ pp_tb := pp_tb_mem (List.mem_of_getElem? (i := 839) (by decide +kernel)) (by decide +kernel)
theorem wm_840 : (Cond.fieldLink "PedlarPackModel" (28 : Nat) "PedlarPackModel" "day" "I") ∈ pp_tb := pp_tb_mem (List.mem_of_getElem? (i := 840) (by decide +kernel)) (by decide +kernel)
theorem wm_841 : (Cond.fieldLink "PedlarPackModel" (32 : Nat) "PedlarPackModel" "limit" "I") ∈ pp_tb := pp_tb_mem (List.mem_of_getElem? (i := 841) (by decide +kernel)) (by decide +kernel)
theorem wm_842 : (Cond.fieldLink "PedlarPackModel" (35 : Nat) "PedlarPackModel" "open" "I") ∈ pp_tb := pp_tb_mem (List.mem_of_getElem? (i := 842) (by decide +kernel)) (by decide +kernel)
theorem wm_843 : (Cond.fieldLink "PedlarPackModel" (38 : Nat) "PedlarPackModel" "wanted" "[I") ∈ pp_tb := pp_tb_mem (List.mem_of_getElem? (i := 843) (by decide +kernel)) (by decide +kernel)
theorem wm_844 : (Cond.fieldLink "PedlarPackModel" (41 : Nat) "PedlarPackModel" "shops" "[I") ∈ pp_tb := pp_tb_mem (List.mem_of_getElem? (i := 844) (by decide +kernel)) (by decide +kernel)
theorem wm_845 : (Cond.fieldLink "PedlarPackModel" (132 : Nat) "PedlarPackModel" "typed" "I") ∈ pp_tb := pp_tb_mem (List.mem_of_getElem? (i := 845) (by decide +kernel)) (by decide +kernel)
theorem wm_846 : (Cond.fieldLink "PedlarPackModel" (44 : Nat) "PedlarPackModel" "text" "[I") ∈ pp_tb := pp_tb_mem (List.mem_of_getElem? (i := 846) (by decide +kernel)) (by decide +kernel)
theorem wm_847 : (Cond.fieldLink "PedlarPackModel" (135 : Nat) "PedlarPackModel" "at" "I") ∈ pp_tb := pp_tb_mem (List.mem_of_getElem? (i := 847) (by decide +kernel)) (by decide +kernel)
theorem wm_848 : (Cond.fieldLink "PedlarPackModel" (138 : Nat) "PedlarPackModel" "fault" "I") ∈ pp_tb := pp_tb_mem (List.mem_of_getElem? (i := 848) (by decide +kernel)) (by decide +kernel)
theorem wm_849 : (Cond.fieldLink "PedlarPackModel" (153 : Nat) "PedlarPackModel" "parts" "I") ∈ pp_tb := pp_tb_mem (List.mem_of_getElem? (i := 849) (by decide +kernel)) (by decide +kernel)
theorem wm_850 : (Cond.fieldLink "PedlarPackModel" (47 : Nat) "PedlarPackModel" "partFarm" "[I") ∈ pp_tb := pp_tb_mem (List.mem_of_getElem? (i := 850) (by decide +kernel)) (by decide +kernel)
theorem wm_851 : (Cond.fieldLink "PedlarPackModel" (50 : Nat) "PedlarPackModel" "partThing" "[I") ∈ pp_tb := pp_tb_mem (List.mem_of_getElem? (i := 851) (by decide +kernel)) (by decide +kernel)
theorem wm_852 : (Cond.fieldLink "PedlarPackModel" (53 : Nat) "PedlarPackModel" "partChance" "[I") ∈ pp_tb := pp_tb_mem (List.mem_of_getElem? (i := 852) (by decide +kernel)) (by decide +kernel)
theorem wm_853 : (Cond.fieldLink "PedlarPackModel" (178 : Nat) "PedlarPackModel" "rowMany" "I") ∈ pp_tb := pp_tb_mem (List.mem_of_getElem? (i := 853) (by decide +kernel)) (by decide +kernel)
theorem wm_854 : (Cond.fieldLink "PedlarPackModel" (56 : Nat) "PedlarPackModel" "rowOf" "[I") ∈ pp_tb := pp_tb_mem (List.mem_of_getElem? (i := 854) (by decide +kernel)) (by decide +kernel)
theorem wm_855 : (Cond.fieldLink "PedlarPackModel" (59 : Nat) "PedlarPackModel" "pack" "[I") ∈ pp_tb := pp_tb_mem (List.mem_of_getElem? (i := 855) (by decide +kernel)) (by decide +kernel)
theorem wm_856 : (Cond.fieldLink "PedlarPackModel" (184 : Nat) "PedlarPackModel" "lookMany" "I") ∈ pp_tb := pp_tb_mem (List.mem_of_getElem? (i := 856) (by decide +kernel)) (by decide +kernel)
theorem wm_857 : (Cond.fieldLink "PedlarPackModel" (62 : Nat) "PedlarPackModel" "look" "[I") ∈ pp_tb := pp_tb_mem (List.mem_of_getElem? (i := 857) (by decide +kernel)) (by decide +kernel)
theorem wm_858 : (Cond.fieldLink "PedlarPackModel" (65 : Nat) "PedlarPackModel" "worth" "[J") ∈ pp_tb := pp_tb_mem (List.mem_of_getElem? (i := 858) (by decide +kernel)) (by decide +kernel)
theorem wm_859 : (Cond.fieldLink "PedlarPackModel" (69 : Nat) "PedlarPackModel" "asked" "[I") ∈ pp_tb := pp_tb_mem (List.mem_of_getElem? (i := 859) (by decide +kernel)) (by decide +kernel)
theorem wm_860 : (Cond.fieldLink "PedlarPackModel" (72 : Nat) "PedlarPackModel" "just" "[J") ∈ pp_tb := pp_tb_mem (List.mem_of_getElem? (i := 860) (by decide +kernel)) (by decide +kernel)
theorem wm_861 : (Cond.fieldLink "PedlarPackModel" (75 : Nat) "PedlarPackModel" "bestPack" "[I") ∈ pp_tb := pp_tb_mem (List.mem_of_getElem? (i := 861) (by decide +kernel)) (by decide +kernel)
theorem wm_862 : (Cond.fieldLink "PedlarPackModel" (228 : Nat) "PedlarPackModel" "bestGain" "J") ∈ pp_tb := pp_tb_mem (List.mem_of_getElem? (i := 862) (by decide +kernel)) (by decide +kernel)
theorem wm_863 : (Cond.fieldLink "PedlarPackModel" (78 : Nat) "PedlarPackModel" "load" "[I") ∈ pp_tb := pp_tb_mem (List.mem_of_getElem? (i := 863) (by decide +kernel)) (by decide +kernel)
theorem wm_864 : (Cond.fieldLink "PedlarPackModel" (241 : Nat) "PedlarPackModel" "loadWeight" "I") ∈ pp_tb := pp_tb_mem (List.mem_of_getElem? (i := 864) (by decide +kernel)) (by decide +kernel)
theorem wm_865 : (Cond.fieldLink "PedlarPackModel" (81 : Nat) "PedlarPackModel" "openFarm" "[I") ∈ pp_tb := pp_tb_mem (List.mem_of_getElem? (i := 865) (by decide +kernel)) (by decide +kernel)
theorem wm_866 : (Cond.fieldLink "PedlarPackModel" (256 : Nat) "PedlarPackModel" "openMany" "I") ∈ pp_tb := pp_tb_mem (List.mem_of_getElem? (i := 866) (by decide +kernel)) (by decide +kernel)
theorem wm_867 : (Cond.fieldLink "PedlarPackModel" (84 : Nat) "PedlarPackModel" "knap" "[J") ∈ pp_tb := pp_tb_mem (List.mem_of_getElem? (i := 867) (by decide +kernel)) (by decide +kernel)
theorem wm_868 : (Cond.fieldLink "PedlarPackModel" (259 : Nat) "PedlarPackModel" "roundMany" "I") ∈ pp_tb := pp_tb_mem (List.mem_of_getElem? (i := 868) (by decide +kernel)) (by decide +kernel)
theorem wm_869 : (Cond.fieldLink "PedlarPackModel" (87 : Nat) "PedlarPackModel" "roundRow" "[I") ∈ pp_tb := pp_tb_mem (List.mem_of_getElem? (i := 869) (by decide +kernel)) (by decide +kernel)
theorem wm_870 : (Cond.fieldLink "PedlarPackModel" (262 : Nat) "PedlarPackModel" "roundGain" "J") ∈ pp_tb := pp_tb_mem (List.mem_of_getElem? (i := 870) (by decide +kernel)) (by decide +kernel)
theorem wm_871 : (Cond.fieldLink "PedlarPackModel" (90 : Nat) "PedlarPackModel" "setGain" "[J") ∈ pp_tb := pp_tb_mem (List.mem_of_getElem? (i := 871) (by decide +kernel)) (by decide +kernel)
theorem wm_872 : (Cond.fieldLink "PedlarPackModel" (284 : Nat) "PedlarPackModel" "bestOne" "I") ∈ pp_tb := pp_tb_mem (List.mem_of_getElem? (i := 872) (by decide +kernel)) (by decide +kernel)
theorem wm_873 : (Cond.fieldLink "PedlarPackModel" (287 : Nat) "PedlarPackModel" "bestTwo" "I") ∈ pp_tb := pp_tb_mem (List.mem_of_getElem? (i := 873) (by decide +kernel)) (by decide +kernel)
theorem wm_874 : (Cond.fieldLink "PedlarPackModel" (281 : Nat) "PedlarPackModel" "bestBoth" "J") ∈ pp_tb := pp_tb_mem (List.mem_of_getElem? (i := 874) (by decide +kernel)) (by decide +kernel)
theorem wm_875 : (Cond.fieldLink "PedlarPackModel" (93 : Nat) "PedlarPackModel" "packed" "[I") ∈ pp_tb := pp_tb_mem (List.mem_of_getElem? (i := 875) (by decide +kernel)) (by decide +kernel)
theorem wm_876 : (Cond.fieldLink "PedlarPackModel" (96 : Nat) "PedlarPackModel" "isThere" "[Z") ∈ pp_tb := pp_tb_mem (List.mem_of_getElem? (i := 876) (by decide +kernel)) (by decide +kernel)
theorem wm_877 : (Cond.fieldLink "PedlarPackModel" (100 : Nat) "PedlarPackModel" "forms" "[I") ∈ pp_tb := pp_tb_mem (List.mem_of_getElem? (i := 877) (by decide +kernel)) (by decide +kernel)
theorem wm_878 : (Cond.fieldLink "PedlarPackModel" (103 : Nat) "PedlarPackModel" "sizes" "[I") ∈ pp_tb := pp_tb_mem (List.mem_of_getElem? (i := 878) (by decide +kernel)) (by decide +kernel)
theorem wm_879 : (Cond.fieldLink "PedlarPackModel" (106 : Nat) "PedlarPackModel" "items" "[I") ∈ pp_tb := pp_tb_mem (List.mem_of_getElem? (i := 879) (by decide +kernel)) (by decide +kernel)
theorem wm_880 : (Cond.fieldLink "PedlarPackModel" (109 : Nat) "PedlarPackModel" "moved" "[I") ∈ pp_tb := pp_tb_mem (List.mem_of_getElem? (i := 880) (by decide +kernel)) (by decide +kernel)
theorem wm_881 : (Cond.fieldLink "PedlarPackModel" (299 : Nat) "PedlarPackModel" "finding" "I") ∈ pp_tb := pp_tb_mem (List.mem_of_getElem? (i := 881) (by decide +kernel)) (by decide +kernel)
theorem wm_882 : (Cond.laysFinal "PedlarPackModel" "PedlarPackModel" "cost" "[I") ∈ pp_tb := pp_tb_mem (List.mem_of_getElem? (i := 882) (by decide +kernel)) (by decide +kernel)
theorem wm_884 : (Cond.laysFinal "PedlarPackModel" "PedlarPackModel" "weight" "[I") ∈ pp_tb := pp_tb_mem (List.mem_of_getElem? (i := 884) (by decide +kernel)) (by decide +kernel)
theorem wm_886 : (Cond.laysFinal "PedlarPackModel" "PedlarPackModel" "loss" "[I") ∈ pp_tb := pp_tb_mem (List.mem_of_getElem? (i := 886) (by decide +kernel)) (by decide +kernel)
theorem wm_888 : (Cond.laysFinal "PedlarPackModel" "PedlarPackModel" "price" "[I") ∈ pp_tb := pp_tb_mem (List.mem_of_getElem? (i := 888) (by decide +kernel)) (by decide +kernel)
theorem wm_890 : (Cond.laysFinal "PedlarPackModel" "PedlarPackModel" "roads" "[I") ∈ pp_tb := pp_tb_mem (List.mem_of_getElem? (i := 890) (by decide +kernel)) (by decide +kernel)
theorem wm_892 : (Cond.laysFinal "PedlarPackModel" "PedlarPackModel" "ways" "[I") ∈ pp_tb := pp_tb_mem (List.mem_of_getElem? (i := 892) (by decide +kernel)) (by decide +kernel)
theorem wm_894 : (Cond.lays "PedlarPackModel" "PedlarPackModel" "day" "I") ∈ pp_tb := pp_tb_mem (List.mem_of_getElem? (i := 894) (by decide +kernel)) (by decide +kernel)
theorem wm_896 : (Cond.lays "PedlarPackModel" "PedlarPackModel" "limit" "I") ∈ pp_tb := pp_tb_mem (List.mem_of_getElem? (i := 896) (by decide +kernel)) (by decide +kernel)
theorem wm_898 : (Cond.lays "PedlarPackModel" "PedlarPackModel" "open" "I") ∈ pp_tb := pp_tb_mem (List.mem_of_getElem? (i := 898) (by decide +kernel)) (by decide +kernel)
theorem wm_900 : (Cond.laysFinal "PedlarPackModel" "PedlarPackModel" "wanted" "[I") ∈ pp_tb := pp_tb_mem (List.mem_of_getElem? (i := 900) (by decide +kernel)) (by decide +kernel)
theorem wm_902 : (Cond.laysFinal "PedlarPackModel" "PedlarPackModel" "shops" "[I") ∈ pp_tb := pp_tb_mem (List.mem_of_getElem? (i := 902) (by decide +kernel)) (by decide +kernel)
theorem wm_904 : (Cond.lays "PedlarPackModel" "PedlarPackModel" "typed" "I") ∈ pp_tb := pp_tb_mem (List.mem_of_getElem? (i := 904) (by decide +kernel)) (by decide +kernel)
theorem wm_906 : (Cond.laysFinal "PedlarPackModel" "PedlarPackModel" "text" "[I") ∈ pp_tb := pp_tb_mem (List.mem_of_getElem? (i := 906) (by decide +kernel)) (by decide +kernel)
theorem wm_908 : (Cond.lays "PedlarPackModel" "PedlarPackModel" "at" "I") ∈ pp_tb := pp_tb_mem (List.mem_of_getElem? (i := 908) (by decide +kernel)) (by decide +kernel)
theorem wm_910 : (Cond.lays "PedlarPackModel" "PedlarPackModel" "fault" "I") ∈ pp_tb := pp_tb_mem (List.mem_of_getElem? (i := 910) (by decide +kernel)) (by decide +kernel)
theorem wm_912 : (Cond.lays "PedlarPackModel" "PedlarPackModel" "parts" "I") ∈ pp_tb := pp_tb_mem (List.mem_of_getElem? (i := 912) (by decide +kernel)) (by decide +kernel)
theorem wm_914 : (Cond.laysFinal "PedlarPackModel" "PedlarPackModel" "partFarm" "[I") ∈ pp_tb := pp_tb_mem (List.mem_of_getElem? (i := 914) (by decide +kernel)) (by decide +kernel)
theorem wm_916 : (Cond.laysFinal "PedlarPackModel" "PedlarPackModel" "partThing" "[I") ∈ pp_tb := pp_tb_mem (List.mem_of_getElem? (i := 916) (by decide +kernel)) (by decide +kernel)
theorem wm_918 : (Cond.laysFinal "PedlarPackModel" "PedlarPackModel" "partChance" "[I") ∈ pp_tb := pp_tb_mem (List.mem_of_getElem? (i := 918) (by decide +kernel)) (by decide +kernel)
theorem wm_920 : (Cond.lays "PedlarPackModel" "PedlarPackModel" "rowMany" "I") ∈ pp_tb := pp_tb_mem (List.mem_of_getElem? (i := 920) (by decide +kernel)) (by decide +kernel)
theorem wm_922 : (Cond.laysFinal "PedlarPackModel" "PedlarPackModel" "rowOf" "[I") ∈ pp_tb := pp_tb_mem (List.mem_of_getElem? (i := 922) (by decide +kernel)) (by decide +kernel)
theorem wm_924 : (Cond.laysFinal "PedlarPackModel" "PedlarPackModel" "pack" "[I") ∈ pp_tb := pp_tb_mem (List.mem_of_getElem? (i := 924) (by decide +kernel)) (by decide +kernel)
theorem wm_926 : (Cond.lays "PedlarPackModel" "PedlarPackModel" "lookMany" "I") ∈ pp_tb := pp_tb_mem (List.mem_of_getElem? (i := 926) (by decide +kernel)) (by decide +kernel)
theorem wm_928 : (Cond.laysFinal "PedlarPackModel" "PedlarPackModel" "look" "[I") ∈ pp_tb := pp_tb_mem (List.mem_of_getElem? (i := 928) (by decide +kernel)) (by decide +kernel)
theorem wm_930 : (Cond.laysFinal "PedlarPackModel" "PedlarPackModel" "worth" "[J") ∈ pp_tb := pp_tb_mem (List.mem_of_getElem? (i := 930) (by decide +kernel)) (by decide +kernel)
theorem wm_932 : (Cond.laysFinal "PedlarPackModel" "PedlarPackModel" "asked" "[I") ∈ pp_tb := pp_tb_mem (List.mem_of_getElem? (i := 932) (by decide +kernel)) (by decide +kernel)
theorem wm_934 : (Cond.laysFinal "PedlarPackModel" "PedlarPackModel" "just" "[J") ∈ pp_tb := pp_tb_mem (List.mem_of_getElem? (i := 934) (by decide +kernel)) (by decide +kernel)
theorem wm_936 : (Cond.laysFinal "PedlarPackModel" "PedlarPackModel" "bestPack" "[I") ∈ pp_tb := pp_tb_mem (List.mem_of_getElem? (i := 936) (by decide +kernel)) (by decide +kernel)
theorem wm_938 : (Cond.lays "PedlarPackModel" "PedlarPackModel" "bestGain" "J") ∈ pp_tb := pp_tb_mem (List.mem_of_getElem? (i := 938) (by decide +kernel)) (by decide +kernel)
theorem wm_940 : (Cond.laysFinal "PedlarPackModel" "PedlarPackModel" "load" "[I") ∈ pp_tb := pp_tb_mem (List.mem_of_getElem? (i := 940) (by decide +kernel)) (by decide +kernel)
theorem wm_942 : (Cond.lays "PedlarPackModel" "PedlarPackModel" "loadWeight" "I") ∈ pp_tb := pp_tb_mem (List.mem_of_getElem? (i := 942) (by decide +kernel)) (by decide +kernel)
theorem wm_944 : (Cond.laysFinal "PedlarPackModel" "PedlarPackModel" "openFarm" "[I") ∈ pp_tb := pp_tb_mem (List.mem_of_getElem? (i := 944) (by decide +kernel)) (by decide +kernel)
theorem wm_946 : (Cond.lays "PedlarPackModel" "PedlarPackModel" "openMany" "I") ∈ pp_tb := pp_tb_mem (List.mem_of_getElem? (i := 946) (by decide +kernel)) (by decide +kernel)
theorem wm_948 : (Cond.laysFinal "PedlarPackModel" "PedlarPackModel" "knap" "[J") ∈ pp_tb := pp_tb_mem (List.mem_of_getElem? (i := 948) (by decide +kernel)) (by decide +kernel)
theorem wm_950 : (Cond.lays "PedlarPackModel" "PedlarPackModel" "roundMany" "I") ∈ pp_tb := pp_tb_mem (List.mem_of_getElem? (i := 950) (by decide +kernel)) (by decide +kernel)
theorem wm_952 : (Cond.laysFinal "PedlarPackModel" "PedlarPackModel" "roundRow" "[I") ∈ pp_tb := pp_tb_mem (List.mem_of_getElem? (i := 952) (by decide +kernel)) (by decide +kernel)
theorem wm_954 : (Cond.lays "PedlarPackModel" "PedlarPackModel" "roundGain" "J") ∈ pp_tb := pp_tb_mem (List.mem_of_getElem? (i := 954) (by decide +kernel)) (by decide +kernel)
theorem wm_956 : (Cond.laysFinal "PedlarPackModel" "PedlarPackModel" "setGain" "[J") ∈ pp_tb := pp_tb_mem (List.mem_of_getElem? (i := 956) (by decide +kernel)) (by decide +kernel)
theorem wm_958 : (Cond.lays "PedlarPackModel" "PedlarPackModel" "bestOne" "I") ∈ pp_tb := pp_tb_mem (List.mem_of_getElem? (i := 958) (by decide +kernel)) (by decide +kernel)
theorem wm_960 : (Cond.lays "PedlarPackModel" "PedlarPackModel" "bestTwo" "I") ∈ pp_tb := pp_tb_mem (List.mem_of_getElem? (i := 960) (by decide +kernel)) (by decide +kernel)
theorem wm_962 : (Cond.lays "PedlarPackModel" "PedlarPackModel" "bestBoth" "J") ∈ pp_tb := pp_tb_mem (List.mem_of_getElem? (i := 962) (by decide +kernel)) (by decide +kernel)
theorem wm_964 : (Cond.laysFinal "PedlarPackModel" "PedlarPackModel" "packed" "[I") ∈ pp_tb := pp_tb_mem (List.mem_of_getElem? (i := 964) (by decide +kernel)) (by decide +kernel)
theorem wm_966 : (Cond.laysFinal "PedlarPackModel" "PedlarPackModel" "isThere" "[Z") ∈ pp_tb := pp_tb_mem (List.mem_of_getElem? (i := 966) (by decide +kernel)) (by decide +kernel)
theorem wm_968 : (Cond.laysFinal "PedlarPackModel" "PedlarPackModel" "forms" "[I") ∈ pp_tb := pp_tb_mem (List.mem_of_getElem? (i := 968) (by decide +kernel)) (by decide +kernel)
theorem wm_970 : (Cond.laysFinal "PedlarPackModel" "PedlarPackModel" "sizes" "[I") ∈ pp_tb := pp_tb_mem (List.mem_of_getElem? (i := 970) (by decide +kernel)) (by decide +kernel)
theorem wm_972 : (Cond.laysFinal "PedlarPackModel" "PedlarPackModel" "items" "[I") ∈ pp_tb := pp_tb_mem (List.mem_of_getElem? (i := 972) (by decide +kernel)) (by decide +kernel)
theorem wm_974 : (Cond.laysFinal "PedlarPackModel" "PedlarPackModel" "moved" "[I") ∈ pp_tb := pp_tb_mem (List.mem_of_getElem? (i := 974) (by decide +kernel)) (by decide +kernel)
theorem wm_976 : (Cond.lays "PedlarPackModel" "PedlarPackModel" "finding" "I") ∈ pp_tb := pp_tb_mem (List.mem_of_getElem? (i := 976) (by decide +kernel)) (by decide +kernel)
theorem wm_980 : (Cond.instanceMethod ({ cls := "PedlarPackModel", name := "thing", desc := "(III)I" } : Jvm.MethodName)) ∈ pp_tb := pp_tb_mem (List.mem_of_getElem? (i := 980) (by decide +kernel)) (by decide +kernel)
theorem wm_981 : (Cond.selects "PedlarPackModel" ({ cls := "PedlarPackModel", name := "thing", desc := "(III)I" } : Jvm.MethodName) ({ cls := "PedlarPackModel", name := "thing", desc := "(III)I" } : Jvm.MethodName)) ∈ pp_tb := pp_tb_mem (List.mem_of_getElem? (i := 981) (by decide +kernel)) (by decide +kernel)
theorem wm_982 : (Cond.code ({ cls := "PedlarPackModel", name := "thing", desc := "(III)I" } : Jvm.MethodName) prog_11_method_12_code (7 : Nat) (Option.some Jvm.ClassFile.FieldType.int)) ∈ pp_tb := pp_tb_mem (List.mem_of_getElem? (i := 982) (by decide +kernel)) (by decide +kernel)
theorem wm_983 : (Cond.methodLink "PedlarPackModel" (118 : Nat) ({ cls := "PedlarPackModel", name := "isThing", desc := "(I)Z" } : Jvm.MethodName)) ∈ pp_tb := pp_tb_mem (List.mem_of_getElem? (i := 983) (by decide +kernel)) (by decide +kernel)
theorem wm_984 : (Cond.static ({ cls := "PedlarPackModel", name := "isThing", desc := "(I)Z" } : Jvm.MethodName)) ∈ pp_tb := pp_tb_mem (List.mem_of_getElem? (i := 984) (by decide +kernel)) (by decide +kernel)
theorem wm_985 : (Cond.code ({ cls := "PedlarPackModel", name := "isThing", desc := "(I)Z" } : Jvm.MethodName) prog_11_method_8_code (1 : Nat) (Option.some Jvm.ClassFile.FieldType.boolean)) ∈ pp_tb := pp_tb_mem (List.mem_of_getElem? (i := 985) (by decide +kernel)) (by decide +kernel)
theorem wm_986 : (Cond.methodLink "PedlarPackModel" (114 : Nat) ({ cls := "PedlarPackModel", name := "in", desc := "(III)Z" } : Jvm.MethodName)) ∈ pp_tb := pp_tb_mem (List.mem_of_getElem? (i := 986) (by decide +kernel)) (by decide +kernel)
theorem wm_987 : (Cond.static ({ cls := "PedlarPackModel", name := "in", desc := "(III)Z" } : Jvm.MethodName)) ∈ pp_tb := pp_tb_mem (List.mem_of_getElem? (i := 987) (by decide +kernel)) (by decide +kernel)
theorem wm_988 : (Cond.code ({ cls := "PedlarPackModel", name := "in", desc := "(III)Z" } : Jvm.MethodName) prog_11_method_3_code (3 : Nat) (Option.some Jvm.ClassFile.FieldType.boolean)) ∈ pp_tb := pp_tb_mem (List.mem_of_getElem? (i := 988) (by decide +kernel)) (by decide +kernel)
theorem wm_989 : (Cond.methodLink "PedlarPackModel" (122 : Nat) ({ cls := "PedlarPackModel", name := "thingNow", desc := "(II)I" } : Jvm.MethodName)) ∈ pp_tb := pp_tb_mem (List.mem_of_getElem? (i := 989) (by decide +kernel)) (by decide +kernel)
theorem wm_991 : (Cond.instanceMethod ({ cls := "PedlarPackModel", name := "thingNow", desc := "(II)I" } : Jvm.MethodName)) ∈ pp_tb := pp_tb_mem (List.mem_of_getElem? (i := 991) (by decide +kernel)) (by decide +kernel)
theorem wm_992 : (Cond.code ({ cls := "PedlarPackModel", name := "thingNow", desc := "(II)I" } : Jvm.MethodName) prog_11_method_11_code (3 : Nat) (Option.some Jvm.ClassFile.FieldType.int)) ∈ pp_tb := pp_tb_mem (List.mem_of_getElem? (i := 992) (by decide +kernel)) (by decide +kernel)
theorem wm_994 : (Cond.instanceMethod ({ cls := "PedlarPackModel", name := "road", desc := "(III)I" } : Jvm.MethodName)) ∈ pp_tb := pp_tb_mem (List.mem_of_getElem? (i := 994) (by decide +kernel)) (by decide +kernel)
theorem wm_995 : (Cond.selects "PedlarPackModel" ({ cls := "PedlarPackModel", name := "road", desc := "(III)I" } : Jvm.MethodName) ({ cls := "PedlarPackModel", name := "road", desc := "(III)I" } : Jvm.MethodName)) ∈ pp_tb := pp_tb_mem (List.mem_of_getElem? (i := 995) (by decide +kernel)) (by decide +kernel)
theorem wm_996 : (Cond.code ({ cls := "PedlarPackModel", name := "road", desc := "(III)I" } : Jvm.MethodName) prog_11_method_13_code (5 : Nat) (Option.some Jvm.ClassFile.FieldType.int)) ∈ pp_tb := pp_tb_mem (List.mem_of_getElem? (i := 996) (by decide +kernel)) (by decide +kernel)
theorem wm_997 : (Cond.methodLink "PedlarPackModel" (126 : Nat) ({ cls := "PedlarPackModel", name := "isPlace", desc := "(I)Z" } : Jvm.MethodName)) ∈ pp_tb := pp_tb_mem (List.mem_of_getElem? (i := 997) (by decide +kernel)) (by decide +kernel)
theorem wm_998 : (Cond.static ({ cls := "PedlarPackModel", name := "isPlace", desc := "(I)Z" } : Jvm.MethodName)) ∈ pp_tb := pp_tb_mem (List.mem_of_getElem? (i := 998) (by decide +kernel)) (by decide +kernel)
theorem wm_999 : (Cond.code ({ cls := "PedlarPackModel", name := "isPlace", desc := "(I)Z" } : Jvm.MethodName) prog_11_method_9_code (1 : Nat) (Option.some Jvm.ClassFile.FieldType.boolean)) ∈ pp_tb := pp_tb_mem (List.mem_of_getElem? (i := 999) (by decide +kernel)) (by decide +kernel)
theorem wm_1001 : (Cond.instanceMethod ({ cls := "PedlarPackModel", name := "way", desc := "(II)I" } : Jvm.MethodName)) ∈ pp_tb := pp_tb_mem (List.mem_of_getElem? (i := 1001) (by decide +kernel)) (by decide +kernel)
theorem wm_1002 : (Cond.selects "PedlarPackModel" ({ cls := "PedlarPackModel", name := "way", desc := "(II)I" } : Jvm.MethodName) ({ cls := "PedlarPackModel", name := "way", desc := "(II)I" } : Jvm.MethodName)) ∈ pp_tb := pp_tb_mem (List.mem_of_getElem? (i := 1002) (by decide +kernel)) (by decide +kernel)
theorem wm_1003 : (Cond.code ({ cls := "PedlarPackModel", name := "way", desc := "(II)I" } : Jvm.MethodName) prog_11_method_15_code (3 : Nat) (Option.some Jvm.ClassFile.FieldType.int)) ∈ pp_tb := pp_tb_mem (List.mem_of_getElem? (i := 1003) (by decide +kernel)) (by decide +kernel)
theorem wm_1004 : (Cond.methodLink "PedlarPackModel" (129 : Nat) ({ cls := "PedlarPackModel", name := "laysWays", desc := "()V" } : Jvm.MethodName)) ∈ pp_tb := pp_tb_mem (List.mem_of_getElem? (i := 1004) (by decide +kernel)) (by decide +kernel)
theorem wm_1006 : (Cond.instanceMethod ({ cls := "PedlarPackModel", name := "laysWays", desc := "()V" } : Jvm.MethodName)) ∈ pp_tb := pp_tb_mem (List.mem_of_getElem? (i := 1006) (by decide +kernel)) (by decide +kernel)
theorem wm_1007 : (Cond.code ({ cls := "PedlarPackModel", name := "laysWays", desc := "()V" } : Jvm.MethodName) prog_11_method_14_code (4 : Nat) (Option.none : Option Jvm.ClassFile.FieldType)) ∈ pp_tb := pp_tb_mem (List.mem_of_getElem? (i := 1007) (by decide +kernel)) (by decide +kernel)
theorem wm_1009 : (Cond.instanceMethod ({ cls := "PedlarPackModel", name := "set", desc := "(II)I" } : Jvm.MethodName)) ∈ pp_tb := pp_tb_mem (List.mem_of_getElem? (i := 1009) (by decide +kernel)) (by decide +kernel)
theorem wm_1010 : (Cond.selects "PedlarPackModel" ({ cls := "PedlarPackModel", name := "set", desc := "(II)I" } : Jvm.MethodName) ({ cls := "PedlarPackModel", name := "set", desc := "(II)I" } : Jvm.MethodName)) ∈ pp_tb := pp_tb_mem (List.mem_of_getElem? (i := 1010) (by decide +kernel)) (by decide +kernel)
theorem wm_1011 : (Cond.code ({ cls := "PedlarPackModel", name := "set", desc := "(II)I" } : Jvm.MethodName) prog_11_method_16_code (4 : Nat) (Option.some Jvm.ClassFile.FieldType.int)) ∈ pp_tb := pp_tb_mem (List.mem_of_getElem? (i := 1011) (by decide +kernel)) (by decide +kernel)
theorem wm_1013 : (Cond.instanceMethod ({ cls := "PedlarPackModel", name := "type", desc := "(I)I" } : Jvm.MethodName)) ∈ pp_tb := pp_tb_mem (List.mem_of_getElem? (i := 1013) (by decide +kernel)) (by decide +kernel)
theorem wm_1014 : (Cond.selects "PedlarPackModel" ({ cls := "PedlarPackModel", name := "type", desc := "(I)I" } : Jvm.MethodName) ({ cls := "PedlarPackModel", name := "type", desc := "(I)I" } : Jvm.MethodName)) ∈ pp_tb := pp_tb_mem (List.mem_of_getElem? (i := 1014) (by decide +kernel)) (by decide +kernel)
theorem wm_1015 : (Cond.code ({ cls := "PedlarPackModel", name := "type", desc := "(I)I" } : Jvm.MethodName) prog_11_method_17_code (2 : Nat) (Option.some Jvm.ClassFile.FieldType.int)) ∈ pp_tb := pp_tb_mem (List.mem_of_getElem? (i := 1015) (by decide +kernel)) (by decide +kernel)
theorem wm_1017 : (Cond.instanceMethod ({ cls := "PedlarPackModel", name := "wipe", desc := "()I" } : Jvm.MethodName)) ∈ pp_tb := pp_tb_mem (List.mem_of_getElem? (i := 1017) (by decide +kernel)) (by decide +kernel)
theorem wm_1018 : (Cond.selects "PedlarPackModel" ({ cls := "PedlarPackModel", name := "wipe", desc := "()I" } : Jvm.MethodName) ({ cls := "PedlarPackModel", name := "wipe", desc := "()I" } : Jvm.MethodName)) ∈ pp_tb := pp_tb_mem (List.mem_of_getElem? (i := 1018) (by decide +kernel)) (by decide +kernel)
theorem wm_1019 : (Cond.code ({ cls := "PedlarPackModel", name := "wipe", desc := "()I" } : Jvm.MethodName) prog_11_method_18_code (2 : Nat) (Option.some Jvm.ClassFile.FieldType.int)) ∈ pp_tb := pp_tb_mem (List.mem_of_getElem? (i := 1019) (by decide +kernel)) (by decide +kernel)
theorem wm_1021 : (Cond.instanceMethod ({ cls := "PedlarPackModel", name := "fault", desc := "()I" } : Jvm.MethodName)) ∈ pp_tb := pp_tb_mem (List.mem_of_getElem? (i := 1021) (by decide +kernel)) (by decide +kernel)
theorem wm_1022 : (Cond.selects "PedlarPackModel" ({ cls := "PedlarPackModel", name := "fault", desc := "()I" } : Jvm.MethodName) ({ cls := "PedlarPackModel", name := "fault", desc := "()I" } : Jvm.MethodName)) ∈ pp_tb := pp_tb_mem (List.mem_of_getElem? (i := 1022) (by decide +kernel)) (by decide +kernel)
theorem wm_1023 : (Cond.code ({ cls := "PedlarPackModel", name := "fault", desc := "()I" } : Jvm.MethodName) prog_11_method_24_code (1 : Nat) (Option.some Jvm.ClassFile.FieldType.int)) ∈ pp_tb := pp_tb_mem (List.mem_of_getElem? (i := 1023) (by decide +kernel)) (by decide +kernel)
theorem wm_1024 : (Cond.methodLink "PedlarPackModel" (159 : Nat) ({ cls := "PedlarPackModel", name := "faultNow", desc := "()I" } : Jvm.MethodName)) ∈ pp_tb := pp_tb_mem (List.mem_of_getElem? (i := 1024) (by decide +kernel)) (by decide +kernel)
theorem wm_1026 : (Cond.instanceMethod ({ cls := "PedlarPackModel", name := "faultNow", desc := "()I" } : Jvm.MethodName)) ∈ pp_tb := pp_tb_mem (List.mem_of_getElem? (i := 1026) (by decide +kernel)) (by decide +kernel)
theorem wm_1027 : (Cond.code ({ cls := "PedlarPackModel", name := "faultNow", desc := "()I" } : Jvm.MethodName) prog_11_method_23_code (1 : Nat) (Option.some Jvm.ClassFile.FieldType.int)) ∈ pp_tb := pp_tb_mem (List.mem_of_getElem? (i := 1027) (by decide +kernel)) (by decide +kernel)
theorem wm_1028 : (Cond.methodLink "PedlarPackModel" (156 : Nat) ({ cls := "PedlarPackModel", name := "part", desc := "()V" } : Jvm.MethodName)) ∈ pp_tb := pp_tb_mem (List.mem_of_getElem? (i := 1028) (by decide +kernel)) (by decide +kernel)
theorem wm_1030 : (Cond.instanceMethod ({ cls := "PedlarPackModel", name := "part", desc := "()V" } : Jvm.MethodName)) ∈ pp_tb := pp_tb_mem (List.mem_of_getElem? (i := 1030) (by decide +kernel)) (by decide +kernel)
theorem wm_1031 : (Cond.code ({ cls := "PedlarPackModel", name := "part", desc := "()V" } : Jvm.MethodName) prog_11_method_22_code (6 : Nat) (Option.none : Option Jvm.ClassFile.FieldType)) ∈ pp_tb := pp_tb_mem (List.mem_of_getElem? (i := 1031) (by decide +kernel)) (by decide +kernel)
theorem wm_1032 : (Cond.methodLink "PedlarPackModel" (145 : Nat) ({ cls := "PedlarPackModel", name := "number", desc := "(III)I" } : Jvm.MethodName)) ∈ pp_tb := pp_tb_mem (List.mem_of_getElem? (i := 1032) (by decide +kernel)) (by decide +kernel)
theorem wm_1034 : (Cond.instanceMethod ({ cls := "PedlarPackModel", name := "number", desc := "(III)I" } : Jvm.MethodName)) ∈ pp_tb := pp_tb_mem (List.mem_of_getElem? (i := 1034) (by decide +kernel)) (by decide +kernel)
theorem wm_1035 : (Cond.code ({ cls := "PedlarPackModel", name := "number", desc := "(III)I" } : Jvm.MethodName) prog_11_method_21_code (6 : Nat) (Option.some Jvm.ClassFile.FieldType.int)) ∈ pp_tb := pp_tb_mem (List.mem_of_getElem? (i := 1035) (by decide +kernel)) (by decide +kernel)
theorem wm_1036 : (Cond.methodLink "PedlarPackModel" (141 : Nat) ({ cls := "PedlarPackModel", name := "byteNow", desc := "()I" } : Jvm.MethodName)) ∈ pp_tb := pp_tb_mem (List.mem_of_getElem? (i := 1036) (by decide +kernel)) (by decide +kernel)
theorem wm_1038 : (Cond.instanceMethod ({ cls := "PedlarPackModel", name := "byteNow", desc := "()I" } : Jvm.MethodName)) ∈ pp_tb := pp_tb_mem (List.mem_of_getElem? (i := 1038) (by decide +kernel)) (by decide +kernel)
theorem wm_1039 : (Cond.code ({ cls := "PedlarPackModel", name := "byteNow", desc := "()I" } : Jvm.MethodName) prog_11_method_19_code (1 : Nat) (Option.some Jvm.ClassFile.FieldType.int)) ∈ pp_tb := pp_tb_mem (List.mem_of_getElem? (i := 1039) (by decide +kernel)) (by decide +kernel)
theorem wm_1040 : (Cond.methodLink "PedlarPackModel" (149 : Nat) ({ cls := "PedlarPackModel", name := "expects", desc := "(I)V" } : Jvm.MethodName)) ∈ pp_tb := pp_tb_mem (List.mem_of_getElem? (i := 1040) (by decide +kernel)) (by decide +kernel)
theorem wm_1042 : (Cond.instanceMethod ({ cls := "PedlarPackModel", name := "expects", desc := "(I)V" } : Jvm.MethodName)) ∈ pp_tb := pp_tb_mem (List.mem_of_getElem? (i := 1042) (by decide +kernel)) (by decide +kernel)
theorem wm_1043 : (Cond.code ({ cls := "PedlarPackModel", name := "expects", desc := "(I)V" } : Jvm.MethodName) prog_11_method_20_code (2 : Nat) (Option.none : Option Jvm.ClassFile.FieldType)) ∈ pp_tb := pp_tb_mem (List.mem_of_getElem? (i := 1043) (by decide +kernel)) (by decide +kernel)
theorem wm_1045 : (Cond.instanceMethod ({ cls := "PedlarPackModel", name := "wants", desc := "()I" } : Jvm.MethodName)) ∈ pp_tb := pp_tb_mem (List.mem_of_getElem? (i := 1045) (by decide +kernel)) (by decide +kernel)
theorem wm_1046 : (Cond.selects "PedlarPackModel" ({ cls := "PedlarPackModel", name := "wants", desc := "()I" } : Jvm.MethodName) ({ cls := "PedlarPackModel", name := "wants", desc := "()I" } : Jvm.MethodName)) ∈ pp_tb := pp_tb_mem (List.mem_of_getElem? (i := 1046) (by decide +kernel)) (by decide +kernel)
theorem wm_1047 : (Cond.code ({ cls := "PedlarPackModel", name := "wants", desc := "()I" } : Jvm.MethodName) prog_11_method_26_code (3 : Nat) (Option.some Jvm.ClassFile.FieldType.int)) ∈ pp_tb := pp_tb_mem (List.mem_of_getElem? (i := 1047) (by decide +kernel)) (by decide +kernel)
theorem wm_1048 : (Cond.methodLink "PedlarPackModel" (162 : Nat) ({ cls := "PedlarPackModel", name := "place", desc := "(II)I" } : Jvm.MethodName)) ∈ pp_tb := pp_tb_mem (List.mem_of_getElem? (i := 1048) (by decide +kernel)) (by decide +kernel)
theorem wm_1049 : (Cond.static ({ cls := "PedlarPackModel", name := "place", desc := "(II)I" } : Jvm.MethodName)) ∈ pp_tb := pp_tb_mem (List.mem_of_getElem? (i := 1049) (by decide +kernel)) (by decide +kernel)
theorem wm_1050 : (Cond.code ({ cls := "PedlarPackModel", name := "place", desc := "(II)I" } : Jvm.MethodName) prog_11_method_25_code (2 : Nat) (Option.some Jvm.ClassFile.FieldType.int)) ∈ pp_tb := pp_tb_mem (List.mem_of_getElem? (i := 1050) (by decide +kernel)) (by decide +kernel)
theorem wm_1052 : (Cond.instanceMethod ({ cls := "PedlarPackModel", name := "read", desc := "(II)I" } : Jvm.MethodName)) ∈ pp_tb := pp_tb_mem (List.mem_of_getElem? (i := 1052) (by decide +kernel)) (by decide +kernel)
theorem wm_1053 : (Cond.selects "PedlarPackModel" ({ cls := "PedlarPackModel", name := "read", desc := "(II)I" } : Jvm.MethodName) ({ cls := "PedlarPackModel", name := "read", desc := "(II)I" } : Jvm.MethodName)) ∈ pp_tb := pp_tb_mem (List.mem_of_getElem? (i := 1053) (by decide +kernel)) (by decide +kernel)
theorem wm_1054 : (Cond.code ({ cls := "PedlarPackModel", name := "read", desc := "(II)I" } : Jvm.MethodName) prog_11_method_27_code (6 : Nat) (Option.some Jvm.ClassFile.FieldType.int)) ∈ pp_tb := pp_tb_mem (List.mem_of_getElem? (i := 1054) (by decide +kernel)) (by decide +kernel)
theorem wm_1055 : (Cond.methodLink "PedlarPackModel" (165 : Nat) ({ cls := "PedlarPackModel", name := "isSheet", desc := "(I)Z" } : Jvm.MethodName)) ∈ pp_tb := pp_tb_mem (List.mem_of_getElem? (i := 1055) (by decide +kernel)) (by decide +kernel)
theorem wm_1056 : (Cond.static ({ cls := "PedlarPackModel", name := "isSheet", desc := "(I)Z" } : Jvm.MethodName)) ∈ pp_tb := pp_tb_mem (List.mem_of_getElem? (i := 1056) (by decide +kernel)) (by decide +kernel)
theorem wm_1057 : (Cond.code ({ cls := "PedlarPackModel", name := "isSheet", desc := "(I)Z" } : Jvm.MethodName) prog_11_method_75_code (1 : Nat) (Option.some Jvm.ClassFile.FieldType.boolean)) ∈ pp_tb := pp_tb_mem (List.mem_of_getElem? (i := 1057) (by decide +kernel)) (by decide +kernel)
theorem wm_1058 : (Cond.methodLink "PedlarPackModel" (168 : Nat) ({ cls := "PedlarPackModel", name := "isFarm", desc := "(I)Z" } : Jvm.MethodName)) ∈ pp_tb := pp_tb_mem (List.mem_of_getElem? (i := 1058) (by decide +kernel)) (by decide +kernel)
theorem wm_1059 : (Cond.static ({ cls := "PedlarPackModel", name := "isFarm", desc := "(I)Z" } : Jvm.MethodName)) ∈ pp_tb := pp_tb_mem (List.mem_of_getElem? (i := 1059) (by decide +kernel)) (by decide +kernel)
theorem wm_1060 : (Cond.code ({ cls := "PedlarPackModel", name := "isFarm", desc := "(I)Z" } : Jvm.MethodName) prog_11_method_10_code (1 : Nat) (Option.some Jvm.ClassFile.FieldType.boolean)) ∈ pp_tb := pp_tb_mem (List.mem_of_getElem? (i := 1060) (by decide +kernel)) (by decide +kernel)
theorem wm_1061 : (Cond.methodLink "PedlarPackModel" (171 : Nat) ({ cls := "PedlarPackModel", name := "meets", desc := "(I)I" } : Jvm.MethodName)) ∈ pp_tb := pp_tb_mem (List.mem_of_getElem? (i := 1061) (by decide +kernel)) (by decide +kernel)
theorem wm_1063 : (Cond.instanceMethod ({ cls := "PedlarPackModel", name := "meets", desc := "(I)I" } : Jvm.MethodName)) ∈ pp_tb := pp_tb_mem (List.mem_of_getElem? (i := 1063) (by decide +kernel)) (by decide +kernel)
theorem wm_1064 : (Cond.code ({ cls := "PedlarPackModel", name := "meets", desc := "(I)I" } : Jvm.MethodName) prog_11_method_74_code (2 : Nat) (Option.some Jvm.ClassFile.FieldType.int)) ∈ pp_tb := pp_tb_mem (List.mem_of_getElem? (i := 1064) (by decide +kernel)) (by decide +kernel)
theorem wm_1066 : (Cond.instanceMethod ({ cls := "PedlarPackModel", name := "chance", desc := "(III)I" } : Jvm.MethodName)) ∈ pp_tb := pp_tb_mem (List.mem_of_getElem? (i := 1066) (by decide +kernel)) (by decide +kernel)
theorem wm_1067 : (Cond.selects "PedlarPackModel" ({ cls := "PedlarPackModel", name := "chance", desc := "(III)I" } : Jvm.MethodName) ({ cls := "PedlarPackModel", name := "chance", desc := "(III)I" } : Jvm.MethodName)) ∈ pp_tb := pp_tb_mem (List.mem_of_getElem? (i := 1067) (by decide +kernel)) (by decide +kernel)
theorem wm_1068 : (Cond.code ({ cls := "PedlarPackModel", name := "chance", desc := "(III)I" } : Jvm.MethodName) prog_11_method_29_code (4 : Nat) (Option.some Jvm.ClassFile.FieldType.int)) ∈ pp_tb := pp_tb_mem (List.mem_of_getElem? (i := 1068) (by decide +kernel)) (by decide +kernel)
theorem wm_1069 : (Cond.methodLink "PedlarPackModel" (175 : Nat) ({ cls := "PedlarPackModel", name := "chanceNow", desc := "(III)I" } : Jvm.MethodName)) ∈ pp_tb := pp_tb_mem (List.mem_of_getElem? (i := 1069) (by decide +kernel)) (by decide +kernel)
theorem wm_1071 : (Cond.instanceMethod ({ cls := "PedlarPackModel", name := "chanceNow", desc := "(III)I" } : Jvm.MethodName)) ∈ pp_tb := pp_tb_mem (List.mem_of_getElem? (i := 1071) (by decide +kernel)) (by decide +kernel)
theorem wm_1072 : (Cond.code ({ cls := "PedlarPackModel", name := "chanceNow", desc := "(III)I" } : Jvm.MethodName) prog_11_method_28_code (5 : Nat) (Option.some Jvm.ClassFile.FieldType.int)) ∈ pp_tb := pp_tb_mem (List.mem_of_getElem? (i := 1072) (by decide +kernel)) (by decide +kernel)
theorem wm_1074 : (Cond.instanceMethod ({ cls := "PedlarPackModel", name := "shop", desc := "(II)I" } : Jvm.MethodName)) ∈ pp_tb := pp_tb_mem (List.mem_of_getElem? (i := 1074) (by decide +kernel)) (by decide +kernel)
theorem wm_1075 : (Cond.selects "PedlarPackModel" ({ cls := "PedlarPackModel", name := "shop", desc := "(II)I" } : Jvm.MethodName) ({ cls := "PedlarPackModel", name := "shop", desc := "(II)I" } : Jvm.MethodName)) ∈ pp_tb := pp_tb_mem (List.mem_of_getElem? (i := 1075) (by decide +kernel)) (by decide +kernel)
theorem wm_1076 : (Cond.code ({ cls := "PedlarPackModel", name := "shop", desc := "(II)I" } : Jvm.MethodName) prog_11_method_30_code (4 : Nat) (Option.some Jvm.ClassFile.FieldType.int)) ∈ pp_tb := pp_tb_mem (List.mem_of_getElem? (i := 1076) (by decide +kernel)) (by decide +kernel)
theorem wm_1078 : (Cond.instanceMethod ({ cls := "PedlarPackModel", name := "row", desc := "(I)I" } : Jvm.MethodName)) ∈ pp_tb := pp_tb_mem (List.mem_of_getElem? (i := 1078) (by decide +kernel)) (by decide +kernel)
theorem wm_1079 : (Cond.selects "PedlarPackModel" ({ cls := "PedlarPackModel", name := "row", desc := "(I)I" } : Jvm.MethodName) ({ cls := "PedlarPackModel", name := "row", desc := "(I)I" } : Jvm.MethodName)) ∈ pp_tb := pp_tb_mem (List.mem_of_getElem? (i := 1079) (by decide +kernel)) (by decide +kernel)
theorem wm_1080 : (Cond.code ({ cls := "PedlarPackModel", name := "row", desc := "(I)I" } : Jvm.MethodName) prog_11_method_31_code (5 : Nat) (Option.some Jvm.ClassFile.FieldType.int)) ∈ pp_tb := pp_tb_mem (List.mem_of_getElem? (i := 1080) (by decide +kernel)) (by decide +kernel)
theorem wm_1082 : (Cond.instanceMethod ({ cls := "PedlarPackModel", name := "pack", desc := "(I)I" } : Jvm.MethodName)) ∈ pp_tb := pp_tb_mem (List.mem_of_getElem? (i := 1082) (by decide +kernel)) (by decide +kernel)
theorem wm_1083 : (Cond.selects "PedlarPackModel" ({ cls := "PedlarPackModel", name := "pack", desc := "(I)I" } : Jvm.MethodName) ({ cls := "PedlarPackModel", name := "pack", desc := "(I)I" } : Jvm.MethodName)) ∈ pp_tb := pp_tb_mem (List.mem_of_getElem? (i := 1083) (by decide +kernel)) (by decide +kernel)
theorem wm_1084 : (Cond.code ({ cls := "PedlarPackModel", name := "pack", desc := "(I)I" } : Jvm.MethodName) prog_11_method_33_code (3 : Nat) (Option.some Jvm.ClassFile.FieldType.int)) ∈ pp_tb := pp_tb_mem (List.mem_of_getElem? (i := 1084) (by decide +kernel)) (by decide +kernel)
theorem wm_1085 : (Cond.methodLink "PedlarPackModel" (181 : Nat) ({ cls := "PedlarPackModel", name := "packWeight", desc := "()I" } : Jvm.MethodName)) ∈ pp_tb := pp_tb_mem (List.mem_of_getElem? (i := 1085) (by decide +kernel)) (by decide +kernel)
theorem wm_1087 : (Cond.instanceMethod ({ cls := "PedlarPackModel", name := "packWeight", desc := "()I" } : Jvm.MethodName)) ∈ pp_tb := pp_tb_mem (List.mem_of_getElem? (i := 1087) (by decide +kernel)) (by decide +kernel)
theorem wm_1088 : (Cond.code ({ cls := "PedlarPackModel", name := "packWeight", desc := "()I" } : Jvm.MethodName) prog_11_method_32_code (3 : Nat) (Option.some Jvm.ClassFile.FieldType.int)) ∈ pp_tb := pp_tb_mem (List.mem_of_getElem? (i := 1088) (by decide +kernel)) (by decide +kernel)
theorem wm_1090 : (Cond.instanceMethod ({ cls := "PedlarPackModel", name := "hours", desc := "()I" } : Jvm.MethodName)) ∈ pp_tb := pp_tb_mem (List.mem_of_getElem? (i := 1090) (by decide +kernel)) (by decide +kernel)
theorem wm_1091 : (Cond.selects "PedlarPackModel" ({ cls := "PedlarPackModel", name := "hours", desc := "()I" } : Jvm.MethodName) ({ cls := "PedlarPackModel", name := "hours", desc := "()I" } : Jvm.MethodName)) ∈ pp_tb := pp_tb_mem (List.mem_of_getElem? (i := 1091) (by decide +kernel)) (by decide +kernel)
theorem wm_1092 : (Cond.code ({ cls := "PedlarPackModel", name := "hours", desc := "()I" } : Jvm.MethodName) prog_11_method_39_code (1 : Nat) (Option.some Jvm.ClassFile.FieldType.int)) ∈ pp_tb := pp_tb_mem (List.mem_of_getElem? (i := 1092) (by decide +kernel)) (by decide +kernel)
theorem wm_1093 : (Cond.methodLink "PedlarPackModel" (205 : Nat) ({ cls := "PedlarPackModel", name := "hoursNow", desc := "()I" } : Jvm.MethodName)) ∈ pp_tb := pp_tb_mem (List.mem_of_getElem? (i := 1093) (by decide +kernel)) (by decide +kernel)
theorem wm_1095 : (Cond.instanceMethod ({ cls := "PedlarPackModel", name := "hoursNow", desc := "()I" } : Jvm.MethodName)) ∈ pp_tb := pp_tb_mem (List.mem_of_getElem? (i := 1095) (by decide +kernel)) (by decide +kernel)
theorem wm_1096 : (Cond.code ({ cls := "PedlarPackModel", name := "hoursNow", desc := "()I" } : Jvm.MethodName) prog_11_method_38_code (1 : Nat) (Option.some Jvm.ClassFile.FieldType.int)) ∈ pp_tb := pp_tb_mem (List.mem_of_getElem? (i := 1096) (by decide +kernel)) (by decide +kernel)
theorem wm_1097 : (Cond.methodLink "PedlarPackModel" (199 : Nat) ({ cls := "PedlarPackModel", name := "looksAtRow", desc := "()V" } : Jvm.MethodName)) ∈ pp_tb := pp_tb_mem (List.mem_of_getElem? (i := 1097) (by decide +kernel)) (by decide +kernel)
theorem wm_1099 : (Cond.instanceMethod ({ cls := "PedlarPackModel", name := "looksAtRow", desc := "()V" } : Jvm.MethodName)) ∈ pp_tb := pp_tb_mem (List.mem_of_getElem? (i := 1099) (by decide +kernel)) (by decide +kernel)
theorem wm_1100 : (Cond.code ({ cls := "PedlarPackModel", name := "looksAtRow", desc := "()V" } : Jvm.MethodName) prog_11_method_35_code (2 : Nat) (Option.none : Option Jvm.ClassFile.FieldType)) ∈ pp_tb := pp_tb_mem (List.mem_of_getElem? (i := 1100) (by decide +kernel)) (by decide +kernel)
theorem wm_1101 : (Cond.methodLink "PedlarPackModel" (187 : Nat) ({ cls := "PedlarPackModel", name := "laysWorth", desc := "()V" } : Jvm.MethodName)) ∈ pp_tb := pp_tb_mem (List.mem_of_getElem? (i := 1101) (by decide +kernel)) (by decide +kernel)
theorem wm_1103 : (Cond.instanceMethod ({ cls := "PedlarPackModel", name := "laysWorth", desc := "()V" } : Jvm.MethodName)) ∈ pp_tb := pp_tb_mem (List.mem_of_getElem? (i := 1103) (by decide +kernel)) (by decide +kernel)
theorem wm_1104 : (Cond.code ({ cls := "PedlarPackModel", name := "laysWorth", desc := "()V" } : Jvm.MethodName) prog_11_method_36_code (18 : Nat) (Option.none : Option Jvm.ClassFile.FieldType)) ∈ pp_tb := pp_tb_mem (List.mem_of_getElem? (i := 1104) (by decide +kernel)) (by decide +kernel)
theorem wm_1105 : (Cond.methodLink "PedlarPackModel" (190 : Nat) ({ cls := "PedlarPackModel", name := "spot", desc := "(III)I" } : Jvm.MethodName)) ∈ pp_tb := pp_tb_mem (List.mem_of_getElem? (i := 1105) (by decide +kernel)) (by decide +kernel)
theorem wm_1106 : (Cond.static ({ cls := "PedlarPackModel", name := "spot", desc := "(III)I" } : Jvm.MethodName)) ∈ pp_tb := pp_tb_mem (List.mem_of_getElem? (i := 1106) (by decide +kernel)) (by decide +kernel)
theorem wm_1107 : (Cond.code ({ cls := "PedlarPackModel", name := "spot", desc := "(III)I" } : Jvm.MethodName) prog_11_method_34_code (3 : Nat) (Option.some Jvm.ClassFile.FieldType.int)) ∈ pp_tb := pp_tb_mem (List.mem_of_getElem? (i := 1107) (by decide +kernel)) (by decide +kernel)
theorem wm_1108 : (Cond.methodLink "PedlarPackModel" (193 : Nat) ({ cls := "PedlarPackModel", name := "sixteen", desc := "(I)J" } : Jvm.MethodName)) ∈ pp_tb := pp_tb_mem (List.mem_of_getElem? (i := 1108) (by decide +kernel)) (by decide +kernel)
theorem wm_1109 : (Cond.static ({ cls := "PedlarPackModel", name := "sixteen", desc := "(I)J" } : Jvm.MethodName)) ∈ pp_tb := pp_tb_mem (List.mem_of_getElem? (i := 1109) (by decide +kernel)) (by decide +kernel)
theorem wm_1110 : (Cond.code ({ cls := "PedlarPackModel", name := "sixteen", desc := "(I)J" } : Jvm.MethodName) prog_11_method_6_code (1 : Nat) (Option.some Jvm.ClassFile.FieldType.long)) ∈ pp_tb := pp_tb_mem (List.mem_of_getElem? (i := 1110) (by decide +kernel)) (by decide +kernel)
theorem wm_1111 : (Cond.constantLong "PedlarPackModel" (197 : Nat) (16 : Int64)) ∈ pp_tb := pp_tb_mem (List.mem_of_getElem? (i := 1111) (by decide +kernel)) (by decide +kernel)
theorem wm_1112 : (Cond.methodLink "PedlarPackModel" (202 : Nat) ({ cls := "PedlarPackModel", name := "hoursFrom", desc := "(I)I" } : Jvm.MethodName)) ∈ pp_tb := pp_tb_mem (List.mem_of_getElem? (i := 1112) (by decide +kernel)) (by decide +kernel)
theorem wm_1114 : (Cond.instanceMethod ({ cls := "PedlarPackModel", name := "hoursFrom", desc := "(I)I" } : Jvm.MethodName)) ∈ pp_tb := pp_tb_mem (List.mem_of_getElem? (i := 1114) (by decide +kernel)) (by decide +kernel)
theorem wm_1115 : (Cond.code ({ cls := "PedlarPackModel", name := "hoursFrom", desc := "(I)I" } : Jvm.MethodName) prog_11_method_37_code (5 : Nat) (Option.some Jvm.ClassFile.FieldType.int)) ∈ pp_tb := pp_tb_mem (List.mem_of_getElem? (i := 1115) (by decide +kernel)) (by decide +kernel)
theorem wm_1117 : (Cond.instanceMethod ({ cls := "PedlarPackModel", name := "judged", desc := "()I" } : Jvm.MethodName)) ∈ pp_tb := pp_tb_mem (List.mem_of_getElem? (i := 1117) (by decide +kernel)) (by decide +kernel)
theorem wm_1118 : (Cond.selects "PedlarPackModel" ({ cls := "PedlarPackModel", name := "judged", desc := "()I" } : Jvm.MethodName) ({ cls := "PedlarPackModel", name := "judged", desc := "()I" } : Jvm.MethodName)) ∈ pp_tb := pp_tb_mem (List.mem_of_getElem? (i := 1118) (by decide +kernel)) (by decide +kernel)
theorem wm_1119 : (Cond.code ({ cls := "PedlarPackModel", name := "judged", desc := "()I" } : Jvm.MethodName) prog_11_method_41_code (1 : Nat) (Option.some Jvm.ClassFile.FieldType.int)) ∈ pp_tb := pp_tb_mem (List.mem_of_getElem? (i := 1119) (by decide +kernel)) (by decide +kernel)
theorem wm_1120 : (Cond.methodLink "PedlarPackModel" (208 : Nat) ({ cls := "PedlarPackModel", name := "judgedNow", desc := "()I" } : Jvm.MethodName)) ∈ pp_tb := pp_tb_mem (List.mem_of_getElem? (i := 1120) (by decide +kernel)) (by decide +kernel)
theorem wm_1122 : (Cond.instanceMethod ({ cls := "PedlarPackModel", name := "judgedNow", desc := "()I" } : Jvm.MethodName)) ∈ pp_tb := pp_tb_mem (List.mem_of_getElem? (i := 1122) (by decide +kernel)) (by decide +kernel)
theorem wm_1123 : (Cond.code ({ cls := "PedlarPackModel", name := "judgedNow", desc := "()I" } : Jvm.MethodName) prog_11_method_40_code (1 : Nat) (Option.some Jvm.ClassFile.FieldType.int)) ∈ pp_tb := pp_tb_mem (List.mem_of_getElem? (i := 1123) (by decide +kernel)) (by decide +kernel)
theorem wm_1125 : (Cond.instanceMethod ({ cls := "PedlarPackModel", name := "sold", desc := "(IIIII)J" } : Jvm.MethodName)) ∈ pp_tb := pp_tb_mem (List.mem_of_getElem? (i := 1125) (by decide +kernel)) (by decide +kernel)
theorem wm_1126 : (Cond.selects "PedlarPackModel" ({ cls := "PedlarPackModel", name := "sold", desc := "(IIIII)J" } : Jvm.MethodName) ({ cls := "PedlarPackModel", name := "sold", desc := "(IIIII)J" } : Jvm.MethodName)) ∈ pp_tb := pp_tb_mem (List.mem_of_getElem? (i := 1126) (by decide +kernel)) (by decide +kernel)
theorem wm_1127 : (Cond.code ({ cls := "PedlarPackModel", name := "sold", desc := "(IIIII)J" } : Jvm.MethodName) prog_11_method_42_code (12 : Nat) (Option.some Jvm.ClassFile.FieldType.long)) ∈ pp_tb := pp_tb_mem (List.mem_of_getElem? (i := 1127) (by decide +kernel)) (by decide +kernel)
theorem wm_1128 : (Cond.methodLink "PedlarPackModel" (211 : Nat) ({ cls := "PedlarPackModel", name := "no", desc := "(I)J" } : Jvm.MethodName)) ∈ pp_tb := pp_tb_mem (List.mem_of_getElem? (i := 1128) (by decide +kernel)) (by decide +kernel)
theorem wm_1129 : (Cond.static ({ cls := "PedlarPackModel", name := "no", desc := "(I)J" } : Jvm.MethodName)) ∈ pp_tb := pp_tb_mem (List.mem_of_getElem? (i := 1129) (by decide +kernel)) (by decide +kernel)
theorem wm_1130 : (Cond.code ({ cls := "PedlarPackModel", name := "no", desc := "(I)J" } : Jvm.MethodName) prog_11_method_4_code (1 : Nat) (Option.some Jvm.ClassFile.FieldType.long)) ∈ pp_tb := pp_tb_mem (List.mem_of_getElem? (i := 1130) (by decide +kernel)) (by decide +kernel)
theorem wm_1131 : (Cond.constantLong "PedlarPackModel" (112 : Nat) (-9223372036854775808 : Int64)) ∈ pp_tb := pp_tb_mem (List.mem_of_getElem? (i := 1131) (by decide +kernel)) (by decide +kernel)
theorem wm_1132 : (Cond.methodLink "PedlarPackModel" (214 : Nat) ({ cls := "PedlarPackModel", name := "lowest", desc := "(JJI)J" } : Jvm.MethodName)) ∈ pp_tb := pp_tb_mem (List.mem_of_getElem? (i := 1132) (by decide +kernel)) (by decide +kernel)
theorem wm_1133 : (Cond.static ({ cls := "PedlarPackModel", name := "lowest", desc := "(JJI)J" } : Jvm.MethodName)) ∈ pp_tb := pp_tb_mem (List.mem_of_getElem? (i := 1133) (by decide +kernel)) (by decide +kernel)
theorem wm_1134 : (Cond.code ({ cls := "PedlarPackModel", name := "lowest", desc := "(JJI)J" } : Jvm.MethodName) prog_11_method_5_code (11 : Nat) (Option.some Jvm.ClassFile.FieldType.long)) ∈ pp_tb := pp_tb_mem (List.mem_of_getElem? (i := 1134) (by decide +kernel)) (by decide +kernel)
theorem wm_1136 : (Cond.instanceMethod ({ cls := "PedlarPackModel", name := "ask", desc := "(III)I" } : Jvm.MethodName)) ∈ pp_tb := pp_tb_mem (List.mem_of_getElem? (i := 1136) (by decide +kernel)) (by decide +kernel)
theorem wm_1137 : (Cond.selects "PedlarPackModel" ({ cls := "PedlarPackModel", name := "ask", desc := "(III)I" } : Jvm.MethodName) ({ cls := "PedlarPackModel", name := "ask", desc := "(III)I" } : Jvm.MethodName)) ∈ pp_tb := pp_tb_mem (List.mem_of_getElem? (i := 1137) (by decide +kernel)) (by decide +kernel)
theorem wm_1138 : (Cond.code ({ cls := "PedlarPackModel", name := "ask", desc := "(III)I" } : Jvm.MethodName) prog_11_method_43_code (4 : Nat) (Option.some Jvm.ClassFile.FieldType.int)) ∈ pp_tb := pp_tb_mem (List.mem_of_getElem? (i := 1138) (by decide +kernel)) (by decide +kernel)
theorem wm_1140 : (Cond.instanceMethod ({ cls := "PedlarPackModel", name := "value", desc := "(IIII)J" } : Jvm.MethodName)) ∈ pp_tb := pp_tb_mem (List.mem_of_getElem? (i := 1140) (by decide +kernel)) (by decide +kernel)
theorem wm_1141 : (Cond.selects "PedlarPackModel" ({ cls := "PedlarPackModel", name := "value", desc := "(IIII)J" } : Jvm.MethodName) ({ cls := "PedlarPackModel", name := "value", desc := "(IIII)J" } : Jvm.MethodName)) ∈ pp_tb := pp_tb_mem (List.mem_of_getElem? (i := 1141) (by decide +kernel)) (by decide +kernel)
end
section
theorem wm_1142 : (Cond.code ({ cls := "PedlarPackModel", name := "value", desc := "(IIII)J" } : Jvm.MethodName) prog_11_method_44_code (5 : Nat) (Option.some Jvm.ClassFile.FieldType.long)) ∈ pp_tb := pp_tb_mem (List.mem_of_getElem? (i := 1142) (by decide +kernel)) (by decide +kernel)
theorem wm_1144 : (Cond.instanceMethod ({ cls := "PedlarPackModel", name := "gain", desc := "(I)J" } : Jvm.MethodName)) ∈ pp_tb := pp_tb_mem (List.mem_of_getElem? (i := 1144) (by decide +kernel)) (by decide +kernel)
theorem wm_1145 : (Cond.selects "PedlarPackModel" ({ cls := "PedlarPackModel", name := "gain", desc := "(I)J" } : Jvm.MethodName) ({ cls := "PedlarPackModel", name := "gain", desc := "(I)J" } : Jvm.MethodName)) ∈ pp_tb := pp_tb_mem (List.mem_of_getElem? (i := 1145) (by decide +kernel)) (by decide +kernel)
theorem wm_1146 : (Cond.code ({ cls := "PedlarPackModel", name := "gain", desc := "(I)J" } : Jvm.MethodName) prog_11_method_47_code (2 : Nat) (Option.some Jvm.ClassFile.FieldType.long)) ∈ pp_tb := pp_tb_mem (List.mem_of_getElem? (i := 1146) (by decide +kernel)) (by decide +kernel)
theorem wm_1147 : (Cond.methodLink "PedlarPackModel" (222 : Nat) ({ cls := "PedlarPackModel", name := "gainNow", desc := "()J" } : Jvm.MethodName)) ∈ pp_tb := pp_tb_mem (List.mem_of_getElem? (i := 1147) (by decide +kernel)) (by decide +kernel)
theorem wm_1149 : (Cond.instanceMethod ({ cls := "PedlarPackModel", name := "gainNow", desc := "()J" } : Jvm.MethodName)) ∈ pp_tb := pp_tb_mem (List.mem_of_getElem? (i := 1149) (by decide +kernel)) (by decide +kernel)
theorem wm_1150 : (Cond.code ({ cls := "PedlarPackModel", name := "gainNow", desc := "()J" } : Jvm.MethodName) prog_11_method_46_code (4 : Nat) (Option.some Jvm.ClassFile.FieldType.long)) ∈ pp_tb := pp_tb_mem (List.mem_of_getElem? (i := 1150) (by decide +kernel)) (by decide +kernel)
theorem wm_1151 : (Cond.methodLink "PedlarPackModel" (218 : Nat) ({ cls := "PedlarPackModel", name := "gainOf", desc := "(II)J" } : Jvm.MethodName)) ∈ pp_tb := pp_tb_mem (List.mem_of_getElem? (i := 1151) (by decide +kernel)) (by decide +kernel)
theorem wm_1153 : (Cond.instanceMethod ({ cls := "PedlarPackModel", name := "gainOf", desc := "(II)J" } : Jvm.MethodName)) ∈ pp_tb := pp_tb_mem (List.mem_of_getElem? (i := 1153) (by decide +kernel)) (by decide +kernel)
theorem wm_1154 : (Cond.code ({ cls := "PedlarPackModel", name := "gainOf", desc := "(II)J" } : Jvm.MethodName) prog_11_method_45_code (3 : Nat) (Option.some Jvm.ClassFile.FieldType.long)) ∈ pp_tb := pp_tb_mem (List.mem_of_getElem? (i := 1154) (by decide +kernel)) (by decide +kernel)
theorem wm_1156 : (Cond.instanceMethod ({ cls := "PedlarPackModel", name := "best", desc := "(I)I" } : Jvm.MethodName)) ∈ pp_tb := pp_tb_mem (List.mem_of_getElem? (i := 1156) (by decide +kernel)) (by decide +kernel)
theorem wm_1157 : (Cond.selects "PedlarPackModel" ({ cls := "PedlarPackModel", name := "best", desc := "(I)I" } : Jvm.MethodName) ({ cls := "PedlarPackModel", name := "best", desc := "(I)I" } : Jvm.MethodName)) ∈ pp_tb := pp_tb_mem (List.mem_of_getElem? (i := 1157) (by decide +kernel)) (by decide +kernel)
theorem wm_1158 : (Cond.code ({ cls := "PedlarPackModel", name := "best", desc := "(I)I" } : Jvm.MethodName) prog_11_method_51_code (2 : Nat) (Option.some Jvm.ClassFile.FieldType.int)) ∈ pp_tb := pp_tb_mem (List.mem_of_getElem? (i := 1158) (by decide +kernel)) (by decide +kernel)
theorem wm_1159 : (Cond.methodLink "PedlarPackModel" (238 : Nat) ({ cls := "PedlarPackModel", name := "bestNow", desc := "(I)I" } : Jvm.MethodName)) ∈ pp_tb := pp_tb_mem (List.mem_of_getElem? (i := 1159) (by decide +kernel)) (by decide +kernel)
theorem wm_1161 : (Cond.instanceMethod ({ cls := "PedlarPackModel", name := "bestNow", desc := "(I)I" } : Jvm.MethodName)) ∈ pp_tb := pp_tb_mem (List.mem_of_getElem? (i := 1161) (by decide +kernel)) (by decide +kernel)
theorem wm_1162 : (Cond.code ({ cls := "PedlarPackModel", name := "bestNow", desc := "(I)I" } : Jvm.MethodName) prog_11_method_50_code (4 : Nat) (Option.some Jvm.ClassFile.FieldType.int)) ∈ pp_tb := pp_tb_mem (List.mem_of_getElem? (i := 1162) (by decide +kernel)) (by decide +kernel)
theorem wm_1163 : (Cond.methodLink "PedlarPackModel" (232 : Nat) ({ cls := "PedlarPackModel", name := "packs", desc := "(I)V" } : Jvm.MethodName)) ∈ pp_tb := pp_tb_mem (List.mem_of_getElem? (i := 1163) (by decide +kernel)) (by decide +kernel)
theorem wm_1165 : (Cond.instanceMethod ({ cls := "PedlarPackModel", name := "packs", desc := "(I)V" } : Jvm.MethodName)) ∈ pp_tb := pp_tb_mem (List.mem_of_getElem? (i := 1165) (by decide +kernel)) (by decide +kernel)
theorem wm_1166 : (Cond.code ({ cls := "PedlarPackModel", name := "packs", desc := "(I)V" } : Jvm.MethodName) prog_11_method_48_code (10 : Nat) (Option.none : Option Jvm.ClassFile.FieldType)) ∈ pp_tb := pp_tb_mem (List.mem_of_getElem? (i := 1166) (by decide +kernel)) (by decide +kernel)
theorem wm_1167 : (Cond.constantLong "PedlarPackModel" (226 : Nat) (-1000000000000000000 : Int64)) ∈ pp_tb := pp_tb_mem (List.mem_of_getElem? (i := 1167) (by decide +kernel)) (by decide +kernel)
theorem wm_1168 : (Cond.methodLink "PedlarPackModel" (235 : Nat) ({ cls := "PedlarPackModel", name := "weightOf", desc := "(II)I" } : Jvm.MethodName)) ∈ pp_tb := pp_tb_mem (List.mem_of_getElem? (i := 1168) (by decide +kernel)) (by decide +kernel)
theorem wm_1170 : (Cond.instanceMethod ({ cls := "PedlarPackModel", name := "weightOf", desc := "(II)I" } : Jvm.MethodName)) ∈ pp_tb := pp_tb_mem (List.mem_of_getElem? (i := 1170) (by decide +kernel)) (by decide +kernel)
theorem wm_1171 : (Cond.code ({ cls := "PedlarPackModel", name := "weightOf", desc := "(II)I" } : Jvm.MethodName) prog_11_method_49_code (3 : Nat) (Option.some Jvm.ClassFile.FieldType.int)) ∈ pp_tb := pp_tb_mem (List.mem_of_getElem? (i := 1171) (by decide +kernel)) (by decide +kernel)
theorem wm_1173 : (Cond.instanceMethod ({ cls := "PedlarPackModel", name := "loaded", desc := "(I)I" } : Jvm.MethodName)) ∈ pp_tb := pp_tb_mem (List.mem_of_getElem? (i := 1173) (by decide +kernel)) (by decide +kernel)
theorem wm_1174 : (Cond.selects "PedlarPackModel" ({ cls := "PedlarPackModel", name := "loaded", desc := "(I)I" } : Jvm.MethodName) ({ cls := "PedlarPackModel", name := "loaded", desc := "(I)I" } : Jvm.MethodName)) ∈ pp_tb := pp_tb_mem (List.mem_of_getElem? (i := 1174) (by decide +kernel)) (by decide +kernel)
theorem wm_1175 : (Cond.code ({ cls := "PedlarPackModel", name := "loaded", desc := "(I)I" } : Jvm.MethodName) prog_11_method_54_code (2 : Nat) (Option.some Jvm.ClassFile.FieldType.int)) ∈ pp_tb := pp_tb_mem (List.mem_of_getElem? (i := 1175) (by decide +kernel)) (by decide +kernel)
theorem wm_1176 : (Cond.methodLink "PedlarPackModel" (247 : Nat) ({ cls := "PedlarPackModel", name := "loadedNow", desc := "(I)I" } : Jvm.MethodName)) ∈ pp_tb := pp_tb_mem (List.mem_of_getElem? (i := 1176) (by decide +kernel)) (by decide +kernel)
theorem wm_1178 : (Cond.instanceMethod ({ cls := "PedlarPackModel", name := "loadedNow", desc := "(I)I" } : Jvm.MethodName)) ∈ pp_tb := pp_tb_mem (List.mem_of_getElem? (i := 1178) (by decide +kernel)) (by decide +kernel)
theorem wm_1179 : (Cond.code ({ cls := "PedlarPackModel", name := "loadedNow", desc := "(I)I" } : Jvm.MethodName) prog_11_method_53_code (2 : Nat) (Option.some Jvm.ClassFile.FieldType.int)) ∈ pp_tb := pp_tb_mem (List.mem_of_getElem? (i := 1179) (by decide +kernel)) (by decide +kernel)
theorem wm_1180 : (Cond.methodLink "PedlarPackModel" (244 : Nat) ({ cls := "PedlarPackModel", name := "loads", desc := "()V" } : Jvm.MethodName)) ∈ pp_tb := pp_tb_mem (List.mem_of_getElem? (i := 1180) (by decide +kernel)) (by decide +kernel)
theorem wm_1182 : (Cond.instanceMethod ({ cls := "PedlarPackModel", name := "loads", desc := "()V" } : Jvm.MethodName)) ∈ pp_tb := pp_tb_mem (List.mem_of_getElem? (i := 1182) (by decide +kernel)) (by decide +kernel)
theorem wm_1183 : (Cond.code ({ cls := "PedlarPackModel", name := "loads", desc := "()V" } : Jvm.MethodName) prog_11_method_52_code (8 : Nat) (Option.none : Option Jvm.ClassFile.FieldType)) ∈ pp_tb := pp_tb_mem (List.mem_of_getElem? (i := 1183) (by decide +kernel)) (by decide +kernel)
theorem wm_1185 : (Cond.instanceMethod ({ cls := "PedlarPackModel", name := "load", desc := "(II)J" } : Jvm.MethodName)) ∈ pp_tb := pp_tb_mem (List.mem_of_getElem? (i := 1185) (by decide +kernel)) (by decide +kernel)
theorem wm_1186 : (Cond.selects "PedlarPackModel" ({ cls := "PedlarPackModel", name := "load", desc := "(II)J" } : Jvm.MethodName) ({ cls := "PedlarPackModel", name := "load", desc := "(II)J" } : Jvm.MethodName)) ∈ pp_tb := pp_tb_mem (List.mem_of_getElem? (i := 1186) (by decide +kernel)) (by decide +kernel)
theorem wm_1187 : (Cond.code ({ cls := "PedlarPackModel", name := "load", desc := "(II)J" } : Jvm.MethodName) prog_11_method_57_code (3 : Nat) (Option.some Jvm.ClassFile.FieldType.long)) ∈ pp_tb := pp_tb_mem (List.mem_of_getElem? (i := 1187) (by decide +kernel)) (by decide +kernel)
theorem wm_1188 : (Cond.methodLink "PedlarPackModel" (253 : Nat) ({ cls := "PedlarPackModel", name := "loadNow", desc := "(II)J" } : Jvm.MethodName)) ∈ pp_tb := pp_tb_mem (List.mem_of_getElem? (i := 1188) (by decide +kernel)) (by decide +kernel)
theorem wm_1190 : (Cond.instanceMethod ({ cls := "PedlarPackModel", name := "loadNow", desc := "(II)J" } : Jvm.MethodName)) ∈ pp_tb := pp_tb_mem (List.mem_of_getElem? (i := 1190) (by decide +kernel)) (by decide +kernel)
theorem wm_1191 : (Cond.code ({ cls := "PedlarPackModel", name := "loadNow", desc := "(II)J" } : Jvm.MethodName) prog_11_method_56_code (6 : Nat) (Option.some Jvm.ClassFile.FieldType.long)) ∈ pp_tb := pp_tb_mem (List.mem_of_getElem? (i := 1191) (by decide +kernel)) (by decide +kernel)
theorem wm_1192 : (Cond.methodLink "PedlarPackModel" (250 : Nat) ({ cls := "PedlarPackModel", name := "boundNow", desc := "(I)J" } : Jvm.MethodName)) ∈ pp_tb := pp_tb_mem (List.mem_of_getElem? (i := 1192) (by decide +kernel)) (by decide +kernel)
theorem wm_1194 : (Cond.instanceMethod ({ cls := "PedlarPackModel", name := "boundNow", desc := "(I)J" } : Jvm.MethodName)) ∈ pp_tb := pp_tb_mem (List.mem_of_getElem? (i := 1194) (by decide +kernel)) (by decide +kernel)
theorem wm_1195 : (Cond.code ({ cls := "PedlarPackModel", name := "boundNow", desc := "(I)J" } : Jvm.MethodName) prog_11_method_55_code (13 : Nat) (Option.some Jvm.ClassFile.FieldType.long)) ∈ pp_tb := pp_tb_mem (List.mem_of_getElem? (i := 1195) (by decide +kernel)) (by decide +kernel)
theorem wm_1197 : (Cond.instanceMethod ({ cls := "PedlarPackModel", name := "round", desc := "(I)I" } : Jvm.MethodName)) ∈ pp_tb := pp_tb_mem (List.mem_of_getElem? (i := 1197) (by decide +kernel)) (by decide +kernel)
theorem wm_1198 : (Cond.selects "PedlarPackModel" ({ cls := "PedlarPackModel", name := "round", desc := "(I)I" } : Jvm.MethodName) ({ cls := "PedlarPackModel", name := "round", desc := "(I)I" } : Jvm.MethodName)) ∈ pp_tb := pp_tb_mem (List.mem_of_getElem? (i := 1198) (by decide +kernel)) (by decide +kernel)
theorem wm_1199 : (Cond.code ({ cls := "PedlarPackModel", name := "round", desc := "(I)I" } : Jvm.MethodName) prog_11_method_63_code (2 : Nat) (Option.some Jvm.ClassFile.FieldType.int)) ∈ pp_tb := pp_tb_mem (List.mem_of_getElem? (i := 1199) (by decide +kernel)) (by decide +kernel)
theorem wm_1200 : (Cond.methodLink "PedlarPackModel" (274 : Nat) ({ cls := "PedlarPackModel", name := "gathers", desc := "()Z" } : Jvm.MethodName)) ∈ pp_tb := pp_tb_mem (List.mem_of_getElem? (i := 1200) (by decide +kernel)) (by decide +kernel)
theorem wm_1202 : (Cond.instanceMethod ({ cls := "PedlarPackModel", name := "gathers", desc := "()Z" } : Jvm.MethodName)) ∈ pp_tb := pp_tb_mem (List.mem_of_getElem? (i := 1202) (by decide +kernel)) (by decide +kernel)
theorem wm_1203 : (Cond.code ({ cls := "PedlarPackModel", name := "gathers", desc := "()Z" } : Jvm.MethodName) prog_11_method_58_code (2 : Nat) (Option.some Jvm.ClassFile.FieldType.boolean)) ∈ pp_tb := pp_tb_mem (List.mem_of_getElem? (i := 1203) (by decide +kernel)) (by decide +kernel)
theorem wm_1204 : (Cond.methodLink "PedlarPackModel" (278 : Nat) ({ cls := "PedlarPackModel", name := "goesRound", desc := "()V" } : Jvm.MethodName)) ∈ pp_tb := pp_tb_mem (List.mem_of_getElem? (i := 1204) (by decide +kernel)) (by decide +kernel)
theorem wm_1206 : (Cond.instanceMethod ({ cls := "PedlarPackModel", name := "goesRound", desc := "()V" } : Jvm.MethodName)) ∈ pp_tb := pp_tb_mem (List.mem_of_getElem? (i := 1206) (by decide +kernel)) (by decide +kernel)
theorem wm_1207 : (Cond.code ({ cls := "PedlarPackModel", name := "goesRound", desc := "()V" } : Jvm.MethodName) prog_11_method_62_code (7 : Nat) (Option.none : Option Jvm.ClassFile.FieldType)) ∈ pp_tb := pp_tb_mem (List.mem_of_getElem? (i := 1207) (by decide +kernel)) (by decide +kernel)
theorem wm_1208 : (Cond.methodLink "PedlarPackModel" (265 : Nat) ({ cls := "PedlarPackModel", name := "fives", desc := "(I)I" } : Jvm.MethodName)) ∈ pp_tb := pp_tb_mem (List.mem_of_getElem? (i := 1208) (by decide +kernel)) (by decide +kernel)
theorem wm_1209 : (Cond.static ({ cls := "PedlarPackModel", name := "fives", desc := "(I)I" } : Jvm.MethodName)) ∈ pp_tb := pp_tb_mem (List.mem_of_getElem? (i := 1209) (by decide +kernel)) (by decide +kernel)
theorem wm_1210 : (Cond.code ({ cls := "PedlarPackModel", name := "fives", desc := "(I)I" } : Jvm.MethodName) prog_11_method_61_code (3 : Nat) (Option.some Jvm.ClassFile.FieldType.int)) ∈ pp_tb := pp_tb_mem (List.mem_of_getElem? (i := 1210) (by decide +kernel)) (by decide +kernel)
theorem wm_1211 : (Cond.methodLink "PedlarPackModel" (268 : Nat) ({ cls := "PedlarPackModel", name := "looksAt", desc := "(II)I" } : Jvm.MethodName)) ∈ pp_tb := pp_tb_mem (List.mem_of_getElem? (i := 1211) (by decide +kernel)) (by decide +kernel)
theorem wm_1213 : (Cond.instanceMethod ({ cls := "PedlarPackModel", name := "looksAt", desc := "(II)I" } : Jvm.MethodName)) ∈ pp_tb := pp_tb_mem (List.mem_of_getElem? (i := 1213) (by decide +kernel)) (by decide +kernel)
theorem wm_1214 : (Cond.code ({ cls := "PedlarPackModel", name := "looksAt", desc := "(II)I" } : Jvm.MethodName) prog_11_method_59_code (7 : Nat) (Option.some Jvm.ClassFile.FieldType.int)) ∈ pp_tb := pp_tb_mem (List.mem_of_getElem? (i := 1214) (by decide +kernel)) (by decide +kernel)
theorem wm_1215 : (Cond.methodLink "PedlarPackModel" (271 : Nat) ({ cls := "PedlarPackModel", name := "mostGain", desc := "()J" } : Jvm.MethodName)) ∈ pp_tb := pp_tb_mem (List.mem_of_getElem? (i := 1215) (by decide +kernel)) (by decide +kernel)
theorem wm_1217 : (Cond.instanceMethod ({ cls := "PedlarPackModel", name := "mostGain", desc := "()J" } : Jvm.MethodName)) ∈ pp_tb := pp_tb_mem (List.mem_of_getElem? (i := 1217) (by decide +kernel)) (by decide +kernel)
theorem wm_1218 : (Cond.code ({ cls := "PedlarPackModel", name := "mostGain", desc := "()J" } : Jvm.MethodName) prog_11_method_60_code (6 : Nat) (Option.some Jvm.ClassFile.FieldType.long)) ∈ pp_tb := pp_tb_mem (List.mem_of_getElem? (i := 1218) (by decide +kernel)) (by decide +kernel)
theorem wm_1220 : (Cond.instanceMethod ({ cls := "PedlarPackModel", name := "rounds", desc := "(I)J" } : Jvm.MethodName)) ∈ pp_tb := pp_tb_mem (List.mem_of_getElem? (i := 1220) (by decide +kernel)) (by decide +kernel)
theorem wm_1221 : (Cond.selects "PedlarPackModel" ({ cls := "PedlarPackModel", name := "rounds", desc := "(I)J" } : Jvm.MethodName) ({ cls := "PedlarPackModel", name := "rounds", desc := "(I)J" } : Jvm.MethodName)) ∈ pp_tb := pp_tb_mem (List.mem_of_getElem? (i := 1221) (by decide +kernel)) (by decide +kernel)
theorem wm_1222 : (Cond.code ({ cls := "PedlarPackModel", name := "rounds", desc := "(I)J" } : Jvm.MethodName) prog_11_method_64_code (2 : Nat) (Option.some Jvm.ClassFile.FieldType.long)) ∈ pp_tb := pp_tb_mem (List.mem_of_getElem? (i := 1222) (by decide +kernel)) (by decide +kernel)
theorem wm_1224 : (Cond.instanceMethod ({ cls := "PedlarPackModel", name := "onward", desc := "(II)I" } : Jvm.MethodName)) ∈ pp_tb := pp_tb_mem (List.mem_of_getElem? (i := 1224) (by decide +kernel)) (by decide +kernel)
theorem wm_1225 : (Cond.selects "PedlarPackModel" ({ cls := "PedlarPackModel", name := "onward", desc := "(II)I" } : Jvm.MethodName) ({ cls := "PedlarPackModel", name := "onward", desc := "(II)I" } : Jvm.MethodName)) ∈ pp_tb := pp_tb_mem (List.mem_of_getElem? (i := 1225) (by decide +kernel)) (by decide +kernel)
theorem wm_1226 : (Cond.code ({ cls := "PedlarPackModel", name := "onward", desc := "(II)I" } : Jvm.MethodName) prog_11_method_65_code (12 : Nat) (Option.some Jvm.ClassFile.FieldType.int)) ∈ pp_tb := pp_tb_mem (List.mem_of_getElem? (i := 1226) (by decide +kernel)) (by decide +kernel)
theorem wm_1228 : (Cond.instanceMethod ({ cls := "PedlarPackModel", name := "trust", desc := "(IIIII)I" } : Jvm.MethodName)) ∈ pp_tb := pp_tb_mem (List.mem_of_getElem? (i := 1228) (by decide +kernel)) (by decide +kernel)
theorem wm_1229 : (Cond.selects "PedlarPackModel" ({ cls := "PedlarPackModel", name := "trust", desc := "(IIIII)I" } : Jvm.MethodName) ({ cls := "PedlarPackModel", name := "trust", desc := "(IIIII)I" } : Jvm.MethodName)) ∈ pp_tb := pp_tb_mem (List.mem_of_getElem? (i := 1229) (by decide +kernel)) (by decide +kernel)
theorem wm_1230 : (Cond.code ({ cls := "PedlarPackModel", name := "trust", desc := "(IIIII)I" } : Jvm.MethodName) prog_11_method_66_code (8 : Nat) (Option.some Jvm.ClassFile.FieldType.int)) ∈ pp_tb := pp_tb_mem (List.mem_of_getElem? (i := 1230) (by decide +kernel)) (by decide +kernel)
theorem wm_1232 : (Cond.instanceMethod ({ cls := "PedlarPackModel", name := "two", desc := "(I)I" } : Jvm.MethodName)) ∈ pp_tb := pp_tb_mem (List.mem_of_getElem? (i := 1232) (by decide +kernel)) (by decide +kernel)
theorem wm_1233 : (Cond.selects "PedlarPackModel" ({ cls := "PedlarPackModel", name := "two", desc := "(I)I" } : Jvm.MethodName) ({ cls := "PedlarPackModel", name := "two", desc := "(I)I" } : Jvm.MethodName)) ∈ pp_tb := pp_tb_mem (List.mem_of_getElem? (i := 1233) (by decide +kernel)) (by decide +kernel)
theorem wm_1234 : (Cond.code ({ cls := "PedlarPackModel", name := "two", desc := "(I)I" } : Jvm.MethodName) prog_11_method_68_code (5 : Nat) (Option.some Jvm.ClassFile.FieldType.int)) ∈ pp_tb := pp_tb_mem (List.mem_of_getElem? (i := 1234) (by decide +kernel)) (by decide +kernel)
theorem wm_1235 : (Cond.methodLink "PedlarPackModel" (290 : Nat) ({ cls := "PedlarPackModel", name := "parted", desc := "()V" } : Jvm.MethodName)) ∈ pp_tb := pp_tb_mem (List.mem_of_getElem? (i := 1235) (by decide +kernel)) (by decide +kernel)
theorem wm_1237 : (Cond.instanceMethod ({ cls := "PedlarPackModel", name := "parted", desc := "()V" } : Jvm.MethodName)) ∈ pp_tb := pp_tb_mem (List.mem_of_getElem? (i := 1237) (by decide +kernel)) (by decide +kernel)
theorem wm_1238 : (Cond.code ({ cls := "PedlarPackModel", name := "parted", desc := "()V" } : Jvm.MethodName) prog_11_method_67_code (3 : Nat) (Option.none : Option Jvm.ClassFile.FieldType)) ∈ pp_tb := pp_tb_mem (List.mem_of_getElem? (i := 1238) (by decide +kernel)) (by decide +kernel)
theorem wm_1240 : (Cond.instanceMethod ({ cls := "PedlarPackModel", name := "both", desc := "(I)J" } : Jvm.MethodName)) ∈ pp_tb := pp_tb_mem (List.mem_of_getElem? (i := 1240) (by decide +kernel)) (by decide +kernel)
theorem wm_1241 : (Cond.selects "PedlarPackModel" ({ cls := "PedlarPackModel", name := "both", desc := "(I)J" } : Jvm.MethodName) ({ cls := "PedlarPackModel", name := "both", desc := "(I)J" } : Jvm.MethodName)) ∈ pp_tb := pp_tb_mem (List.mem_of_getElem? (i := 1241) (by decide +kernel)) (by decide +kernel)
theorem wm_1242 : (Cond.code ({ cls := "PedlarPackModel", name := "both", desc := "(I)J" } : Jvm.MethodName) prog_11_method_69_code (2 : Nat) (Option.some Jvm.ClassFile.FieldType.long)) ∈ pp_tb := pp_tb_mem (List.mem_of_getElem? (i := 1242) (by decide +kernel)) (by decide +kernel)
theorem wm_1244 : (Cond.instanceMethod ({ cls := "PedlarPackModel", name := "brings", desc := "(II)J" } : Jvm.MethodName)) ∈ pp_tb := pp_tb_mem (List.mem_of_getElem? (i := 1244) (by decide +kernel)) (by decide +kernel)
theorem wm_1245 : (Cond.selects "PedlarPackModel" ({ cls := "PedlarPackModel", name := "brings", desc := "(II)J" } : Jvm.MethodName) ({ cls := "PedlarPackModel", name := "brings", desc := "(II)J" } : Jvm.MethodName)) ∈ pp_tb := pp_tb_mem (List.mem_of_getElem? (i := 1245) (by decide +kernel)) (by decide +kernel)
theorem wm_1246 : (Cond.code ({ cls := "PedlarPackModel", name := "brings", desc := "(II)J" } : Jvm.MethodName) prog_11_method_71_code (3 : Nat) (Option.some Jvm.ClassFile.FieldType.long)) ∈ pp_tb := pp_tb_mem (List.mem_of_getElem? (i := 1246) (by decide +kernel)) (by decide +kernel)
theorem wm_1247 : (Cond.methodLink "PedlarPackModel" (293 : Nat) ({ cls := "PedlarPackModel", name := "bringsNow", desc := "(I)J" } : Jvm.MethodName)) ∈ pp_tb := pp_tb_mem (List.mem_of_getElem? (i := 1247) (by decide +kernel)) (by decide +kernel)
theorem wm_1249 : (Cond.instanceMethod ({ cls := "PedlarPackModel", name := "bringsNow", desc := "(I)J" } : Jvm.MethodName)) ∈ pp_tb := pp_tb_mem (List.mem_of_getElem? (i := 1249) (by decide +kernel)) (by decide +kernel)
theorem wm_1250 : (Cond.code ({ cls := "PedlarPackModel", name := "bringsNow", desc := "(I)J" } : Jvm.MethodName) prog_11_method_70_code (4 : Nat) (Option.some Jvm.ClassFile.FieldType.long)) ∈ pp_tb := pp_tb_mem (List.mem_of_getElem? (i := 1250) (by decide +kernel)) (by decide +kernel)
theorem wm_1252 : (Cond.instanceMethod ({ cls := "PedlarPackModel", name := "straps", desc := "()I" } : Jvm.MethodName)) ∈ pp_tb := pp_tb_mem (List.mem_of_getElem? (i := 1252) (by decide +kernel)) (by decide +kernel)
theorem wm_1253 : (Cond.selects "PedlarPackModel" ({ cls := "PedlarPackModel", name := "straps", desc := "()I" } : Jvm.MethodName) ({ cls := "PedlarPackModel", name := "straps", desc := "()I" } : Jvm.MethodName)) ∈ pp_tb := pp_tb_mem (List.mem_of_getElem? (i := 1253) (by decide +kernel)) (by decide +kernel)
theorem wm_1254 : (Cond.code ({ cls := "PedlarPackModel", name := "straps", desc := "()I" } : Jvm.MethodName) prog_11_method_73_code (1 : Nat) (Option.some Jvm.ClassFile.FieldType.int)) ∈ pp_tb := pp_tb_mem (List.mem_of_getElem? (i := 1254) (by decide +kernel)) (by decide +kernel)
theorem wm_1255 : (Cond.methodLink "PedlarPackModel" (296 : Nat) ({ cls := "PedlarPackModel", name := "strapsNow", desc := "()I" } : Jvm.MethodName)) ∈ pp_tb := pp_tb_mem (List.mem_of_getElem? (i := 1255) (by decide +kernel)) (by decide +kernel)
theorem wm_1257 : (Cond.instanceMethod ({ cls := "PedlarPackModel", name := "strapsNow", desc := "()I" } : Jvm.MethodName)) ∈ pp_tb := pp_tb_mem (List.mem_of_getElem? (i := 1257) (by decide +kernel)) (by decide +kernel)
theorem wm_1258 : (Cond.code ({ cls := "PedlarPackModel", name := "strapsNow", desc := "()I" } : Jvm.MethodName) prog_11_method_72_code (7 : Nat) (Option.some Jvm.ClassFile.FieldType.int)) ∈ pp_tb := pp_tb_mem (List.mem_of_getElem? (i := 1258) (by decide +kernel)) (by decide +kernel)
theorem wm_1260 : (Cond.instanceMethod ({ cls := "PedlarPackModel", name := "sheet", desc := "(III)I" } : Jvm.MethodName)) ∈ pp_tb := pp_tb_mem (List.mem_of_getElem? (i := 1260) (by decide +kernel)) (by decide +kernel)
theorem wm_1261 : (Cond.selects "PedlarPackModel" ({ cls := "PedlarPackModel", name := "sheet", desc := "(III)I" } : Jvm.MethodName) ({ cls := "PedlarPackModel", name := "sheet", desc := "(III)I" } : Jvm.MethodName)) ∈ pp_tb := pp_tb_mem (List.mem_of_getElem? (i := 1261) (by decide +kernel)) (by decide +kernel)
theorem wm_1262 : (Cond.code ({ cls := "PedlarPackModel", name := "sheet", desc := "(III)I" } : Jvm.MethodName) prog_11_method_76_code (5 : Nat) (Option.some Jvm.ClassFile.FieldType.int)) ∈ pp_tb := pp_tb_mem (List.mem_of_getElem? (i := 1262) (by decide +kernel)) (by decide +kernel)
theorem wm_1264 : (Cond.instanceMethod ({ cls := "PedlarPackModel", name := "lose", desc := "(I)I" } : Jvm.MethodName)) ∈ pp_tb := pp_tb_mem (List.mem_of_getElem? (i := 1264) (by decide +kernel)) (by decide +kernel)
theorem wm_1265 : (Cond.selects "PedlarPackModel" ({ cls := "PedlarPackModel", name := "lose", desc := "(I)I" } : Jvm.MethodName) ({ cls := "PedlarPackModel", name := "lose", desc := "(I)I" } : Jvm.MethodName)) ∈ pp_tb := pp_tb_mem (List.mem_of_getElem? (i := 1265) (by decide +kernel)) (by decide +kernel)
theorem wm_1266 : (Cond.code ({ cls := "PedlarPackModel", name := "lose", desc := "(I)I" } : Jvm.MethodName) prog_11_method_77_code (2 : Nat) (Option.some Jvm.ClassFile.FieldType.int)) ∈ pp_tb := pp_tb_mem (List.mem_of_getElem? (i := 1266) (by decide +kernel)) (by decide +kernel)
theorem wm_1268 : (Cond.instanceMethod ({ cls := "PedlarPackModel", name := "put", desc := "(IIII)I" } : Jvm.MethodName)) ∈ pp_tb := pp_tb_mem (List.mem_of_getElem? (i := 1268) (by decide +kernel)) (by decide +kernel)
theorem wm_1269 : (Cond.selects "PedlarPackModel" ({ cls := "PedlarPackModel", name := "put", desc := "(IIII)I" } : Jvm.MethodName) ({ cls := "PedlarPackModel", name := "put", desc := "(IIII)I" } : Jvm.MethodName)) ∈ pp_tb := pp_tb_mem (List.mem_of_getElem? (i := 1269) (by decide +kernel)) (by decide +kernel)
theorem wm_1270 : (Cond.code ({ cls := "PedlarPackModel", name := "put", desc := "(IIII)I" } : Jvm.MethodName) prog_11_method_80_code (6 : Nat) (Option.some Jvm.ClassFile.FieldType.int)) ∈ pp_tb := pp_tb_mem (List.mem_of_getElem? (i := 1270) (by decide +kernel)) (by decide +kernel)
theorem wm_1271 : (Cond.methodLink "PedlarPackModel" (302 : Nat) ({ cls := "PedlarPackModel", name := "lacks", desc := "(III)I" } : Jvm.MethodName)) ∈ pp_tb := pp_tb_mem (List.mem_of_getElem? (i := 1271) (by decide +kernel)) (by decide +kernel)
theorem wm_1273 : (Cond.instanceMethod ({ cls := "PedlarPackModel", name := "lacks", desc := "(III)I" } : Jvm.MethodName)) ∈ pp_tb := pp_tb_mem (List.mem_of_getElem? (i := 1273) (by decide +kernel)) (by decide +kernel)
theorem wm_1274 : (Cond.code ({ cls := "PedlarPackModel", name := "lacks", desc := "(III)I" } : Jvm.MethodName) prog_11_method_78_code (4 : Nat) (Option.some Jvm.ClassFile.FieldType.int)) ∈ pp_tb := pp_tb_mem (List.mem_of_getElem? (i := 1274) (by decide +kernel)) (by decide +kernel)
theorem wm_1275 : (Cond.methodLink "PedlarPackModel" (305 : Nat) ({ cls := "PedlarPackModel", name := "keep", desc := "(III)V" } : Jvm.MethodName)) ∈ pp_tb := pp_tb_mem (List.mem_of_getElem? (i := 1275) (by decide +kernel)) (by decide +kernel)
theorem wm_1277 : (Cond.instanceMethod ({ cls := "PedlarPackModel", name := "keep", desc := "(III)V" } : Jvm.MethodName)) ∈ pp_tb := pp_tb_mem (List.mem_of_getElem? (i := 1277) (by decide +kernel)) (by decide +kernel)
theorem wm_1278 : (Cond.code ({ cls := "PedlarPackModel", name := "keep", desc := "(III)V" } : Jvm.MethodName) prog_11_method_79_code (4 : Nat) (Option.none : Option Jvm.ClassFile.FieldType)) ∈ pp_tb := pp_tb_mem (List.mem_of_getElem? (i := 1278) (by decide +kernel)) (by decide +kernel)
theorem wm_1280 : (Cond.instanceMethod ({ cls := "PedlarPackModel", name := "get", desc := "(III)I" } : Jvm.MethodName)) ∈ pp_tb := pp_tb_mem (List.mem_of_getElem? (i := 1280) (by decide +kernel)) (by decide +kernel)
theorem wm_1281 : (Cond.selects "PedlarPackModel" ({ cls := "PedlarPackModel", name := "get", desc := "(III)I" } : Jvm.MethodName) ({ cls := "PedlarPackModel", name := "get", desc := "(III)I" } : Jvm.MethodName)) ∈ pp_tb := pp_tb_mem (List.mem_of_getElem? (i := 1281) (by decide +kernel)) (by decide +kernel)
theorem wm_1282 : (Cond.code ({ cls := "PedlarPackModel", name := "get", desc := "(III)I" } : Jvm.MethodName) prog_11_method_81_code (5 : Nat) (Option.some Jvm.ClassFile.FieldType.int)) ∈ pp_tb := pp_tb_mem (List.mem_of_getElem? (i := 1282) (by decide +kernel)) (by decide +kernel)
theorem wm_1283 : (Cond.constant "PedlarPackModel" (309 : Nat) (-2147483648 : Int32)) ∈ pp_tb := pp_tb_mem (List.mem_of_getElem? (i := 1283) (by decide +kernel)) (by decide +kernel)
theorem wm_1285 : (Cond.instanceMethod ({ cls := "PedlarPackModel", name := "copy", desc := "(IIIII)I" } : Jvm.MethodName)) ∈ pp_tb := pp_tb_mem (List.mem_of_getElem? (i := 1285) (by decide +kernel)) (by decide +kernel)
theorem wm_1286 : (Cond.selects "PedlarPackModel" ({ cls := "PedlarPackModel", name := "copy", desc := "(IIIII)I" } : Jvm.MethodName) ({ cls := "PedlarPackModel", name := "copy", desc := "(IIIII)I" } : Jvm.MethodName)) ∈ pp_tb := pp_tb_mem (List.mem_of_getElem? (i := 1286) (by decide +kernel)) (by decide +kernel)
theorem wm_1287 : (Cond.code ({ cls := "PedlarPackModel", name := "copy", desc := "(IIIII)I" } : Jvm.MethodName) prog_11_method_82_code (7 : Nat) (Option.some Jvm.ClassFile.FieldType.int)) ∈ pp_tb := pp_tb_mem (List.mem_of_getElem? (i := 1287) (by decide +kernel)) (by decide +kernel)
theorem wm_1289 : (Cond.instanceMethod ({ cls := "PedlarPackModel", name := "write", desc := "(I)I" } : Jvm.MethodName)) ∈ pp_tb := pp_tb_mem (List.mem_of_getElem? (i := 1289) (by decide +kernel)) (by decide +kernel)
theorem wm_1290 : (Cond.selects "PedlarPackModel" ({ cls := "PedlarPackModel", name := "write", desc := "(I)I" } : Jvm.MethodName) ({ cls := "PedlarPackModel", name := "write", desc := "(I)I" } : Jvm.MethodName)) ∈ pp_tb := pp_tb_mem (List.mem_of_getElem? (i := 1290) (by decide +kernel)) (by decide +kernel)
theorem wm_1291 : (Cond.code ({ cls := "PedlarPackModel", name := "write", desc := "(I)I" } : Jvm.MethodName) prog_11_method_83_code (3 : Nat) (Option.some Jvm.ClassFile.FieldType.int)) ∈ pp_tb := pp_tb_mem (List.mem_of_getElem? (i := 1291) (by decide +kernel)) (by decide +kernel)
theorem wm_1293 : (Cond.instanceMethod ({ cls := "PedlarPackModel", name := "count", desc := "(I)I" } : Jvm.MethodName)) ∈ pp_tb := pp_tb_mem (List.mem_of_getElem? (i := 1293) (by decide +kernel)) (by decide +kernel)
theorem wm_1294 : (Cond.selects "PedlarPackModel" ({ cls := "PedlarPackModel", name := "count", desc := "(I)I" } : Jvm.MethodName) ({ cls := "PedlarPackModel", name := "count", desc := "(I)I" } : Jvm.MethodName)) ∈ pp_tb := pp_tb_mem (List.mem_of_getElem? (i := 1294) (by decide +kernel)) (by decide +kernel)
theorem wm_1295 : (Cond.code ({ cls := "PedlarPackModel", name := "count", desc := "(I)I" } : Jvm.MethodName) prog_11_method_85_code (2 : Nat) (Option.some Jvm.ClassFile.FieldType.int)) ∈ pp_tb := pp_tb_mem (List.mem_of_getElem? (i := 1295) (by decide +kernel)) (by decide +kernel)
theorem wm_1296 : (Cond.methodLink "PedlarPackModel" (310 : Nat) ({ cls := "PedlarPackModel", name := "countNow", desc := "(I)I" } : Jvm.MethodName)) ∈ pp_tb := pp_tb_mem (List.mem_of_getElem? (i := 1296) (by decide +kernel)) (by decide +kernel)
theorem wm_1298 : (Cond.instanceMethod ({ cls := "PedlarPackModel", name := "countNow", desc := "(I)I" } : Jvm.MethodName)) ∈ pp_tb := pp_tb_mem (List.mem_of_getElem? (i := 1298) (by decide +kernel)) (by decide +kernel)
theorem wm_1299 : (Cond.code ({ cls := "PedlarPackModel", name := "countNow", desc := "(I)I" } : Jvm.MethodName) prog_11_method_84_code (5 : Nat) (Option.some Jvm.ClassFile.FieldType.int)) ∈ pp_tb := pp_tb_mem (List.mem_of_getElem? (i := 1299) (by decide +kernel)) (by decide +kernel)
theorem wm_1301 : (Cond.instanceMethod ({ cls := "PedlarPackModel", name := "digest", desc := "()J" } : Jvm.MethodName)) ∈ pp_tb := pp_tb_mem (List.mem_of_getElem? (i := 1301) (by decide +kernel)) (by decide +kernel)
theorem wm_1302 : (Cond.selects "PedlarPackModel" ({ cls := "PedlarPackModel", name := "digest", desc := "()J" } : Jvm.MethodName) ({ cls := "PedlarPackModel", name := "digest", desc := "()J" } : Jvm.MethodName)) ∈ pp_tb := pp_tb_mem (List.mem_of_getElem? (i := 1302) (by decide +kernel)) (by decide +kernel)
theorem wm_1303 : (Cond.code ({ cls := "PedlarPackModel", name := "digest", desc := "()J" } : Jvm.MethodName) prog_11_method_86_code (6 : Nat) (Option.some Jvm.ClassFile.FieldType.long)) ∈ pp_tb := pp_tb_mem (List.mem_of_getElem? (i := 1303) (by decide +kernel)) (by decide +kernel)
theorem wm_1304 : (Cond.constantLong "PedlarPackModel" (313 : Nat) (17 : Int64)) ∈ pp_tb := pp_tb_mem (List.mem_of_getElem? (i := 1304) (by decide +kernel)) (by decide +kernel)
theorem wm_1305 : (Cond.constantLong "PedlarPackModel" (315 : Nat) (31 : Int64)) ∈ pp_tb := pp_tb_mem (List.mem_of_getElem? (i := 1305) (by decide +kernel)) (by decide +kernel)
theorem wm_1306 : (Cond.methodLink "PedlarPackModel" (317 : Nat) ({ cls := "PedlarPackModel", name := "count", desc := "(I)I" } : Jvm.MethodName)) ∈ pp_tb := pp_tb_mem (List.mem_of_getElem? (i := 1306) (by decide +kernel)) (by decide +kernel)
end
section
section PPM
variable {Γ : pp_G} {ds : List (Nat × Nat)} {cc : ByteArray} {nL : Nat} {own : String} {F L pc : Nat} {lv lv' : List (Nat × pp_V)} {st : List pp_V} {σ : pp_M}
theorem pp_mmin {x y : Int32} {idx : Nat} {rest : List pp_V} (hF : pp_Fx Γ ds cc nL own F L) (hk : Cond.methodLink own idx Lib.Math.min.name ∈ pp_tb) (hs : Cond.static Lib.Math.min.name ∈ pp_tb) (hi : Cond.initialized "java/lang/Math" ∈ pp_tb) (hc : Cond.code Lib.Math.min.name Lib.Math.min.code 2 (some .int) ∈ pp_tb) (hroom : 1 ≤ F ∧ 23 ≤ L) (hcs : pp_cs rest ≤ 8) (d : decode cc pc = .ok (.invokestatic idx, 3)) (kk : pp_E Γ ds cc nL (pc + 3) lv (ppI (if y < x then y else x) :: rest) σ) : pp_E Γ ds cc nL pc lv (ppI y :: ppI x :: rest) σ := by
  obtain ⟨⟨p, l, e, R, s, m, args, below, meth, c, Q, cl, sl, A⟩, X⟩ := Γ
  intro H locs ls hP hS hl
  obtain ⟨hx, hbc, hml, hown, hts, hK, ⟨hI, hok, hA⟩, hrm, hcl0, hlocks, hNw⟩ := hF
  exact va_mmin hx hbc (hml.trans hl.1.symm) hown (hts _ hk) (hts _ hs) (hts _ hi) (hts _ hc) (Nat.le_trans hroom.1 hrm.1) (by rw [pp_cs_eq]; have := hrm.2; have := hroom.2; omega) hcl0.1 hcl0.2 d (kk H locs ls hP hS hl)
theorem pp_mmax {x y : Int64} {idx : Nat} {rest : List pp_V} (hF : pp_Fx Γ ds cc nL own F L) (hk : Cond.methodLink own idx Lib.MathLoose.max_long.x ∈ pp_tb) (hs : Cond.static Lib.MathLoose.max_long.x ∈ pp_tb) (hi : Cond.initialized "java/lang/Math" ∈ pp_tb) (hc : Cond.code Lib.MathLoose.max_long.x Lib.MathLoose.max_long.code 4 (some .long) ∈ pp_tb) (hroom : 1 ≤ F ∧ 23 ≤ L) (hcs : pp_cs rest ≤ 8) (d : decode cc pc = .ok (.invokestatic idx, 3)) (kk : pp_E Γ ds cc nL (pc + 3) lv (ppL (if y < x then x else y) :: rest) σ) : pp_E Γ ds cc nL pc lv (ppL y :: ppL x :: rest) σ := by
  obtain ⟨⟨p, l, e, R, s, m, args, below, meth, c, Q, cl, sl, A⟩, X⟩ := Γ
  intro H locs ls hP hS hl
  obtain ⟨hx, hbc, hml, hown, hts, hK, ⟨hI, hok, hA⟩, hrm, hcl0, hlocks, hNw⟩ := hF
  exact va_mmax_long hx hbc (hml.trans hl.1.symm) hown (hts _ hk) (hts _ hs) (hts _ hi) (hts _ hc) (Nat.le_trans hroom.1 hrm.1) (by rw [pp_cs_eq]; have := hrm.2; have := hroom.2; omega) hcl0.1 hcl0.2 d (kk H locs ls hP hS hl)
theorem pp_mabs {x : Int64} {idx : Nat} {rest : List pp_V} (hF : pp_Fx Γ ds cc nL own F L) (hk : Cond.methodLink own idx Lib.MathLoose.abs_long.x ∈ pp_tb) (hs : Cond.static Lib.MathLoose.abs_long.x ∈ pp_tb) (hi : Cond.initialized "java/lang/Math" ∈ pp_tb) (hc : Cond.code Lib.MathLoose.abs_long.x Lib.MathLoose.abs_long.code 2 (some .long) ∈ pp_tb) (hroom : 1 ≤ F ∧ 23 ≤ L) (hcs : pp_cs rest ≤ 8) (d : decode cc pc = .ok (.invokestatic idx, 3)) (kk : pp_E Γ ds cc nL (pc + 3) lv (ppL (if 0 < x then x else -x) :: rest) σ) : pp_E Γ ds cc nL pc lv (ppL x :: rest) σ := by
  obtain ⟨⟨p, l, e, R, s, m, args, below, meth, c, Q, cl, sl, A⟩, X⟩ := Γ
  intro H locs ls hP hS hl
  obtain ⟨hx, hbc, hml, hown, hts, hK, ⟨hI, hok, hA⟩, hrm, hcl0, hlocks, hNw⟩ := hF
  exact va_mabs_long hx hbc (hml.trans hl.1.symm) hown (hts _ hk) (hts _ hs) (hts _ hi) (hts _ hc) (Nat.le_trans hroom.1 hrm.1) (by rw [pp_cs_eq]; have := hrm.2; have := hroom.2; omega) hcl0.1 hcl0.2 d (kk H locs ls hP hS hl)
end PPM
theorem wq_min : Cond.code Lib.Math.min.name Lib.Math.min.code 2 (some .int) ∈ pp_tb := pp_tb_mem (List.mem_of_getElem? (i := 107) (by decide +kernel)) (by decide +kernel)
theorem wq_max : Cond.code Lib.MathLoose.max_long.x Lib.MathLoose.max_long.code 4 (some .long) ∈ pp_tb := pp_tb_mem (List.mem_of_getElem? (i := 600) (by decide +kernel)) (by decide +kernel)
theorem wq_abs : Cond.code Lib.MathLoose.abs_long.x Lib.MathLoose.abs_long.code 2 (some .long) ∈ pp_tb := pp_tb_mem (List.mem_of_getElem? (i := 532) (by decide +kernel)) (by decide +kernel)
theorem mS_J6_bitCount_0f7a4 : pp_MS yJ6_bitCount_0f7a4 cJ6_bitCount_0f7a4 1 (some .int) 1 := ⟨wm_652, wm_68, ⟨by decide, by decide, by decide +kernel⟩, wm_651⟩
theorem mV_X0_bestLevel : pp_MV yX0_bestLevel cX0_bestLevel 11 (some .int) 4 := ⟨wm_555, wm_64, ⟨by decide, by decide, by decide +kernel⟩, wm_553, wm_554⟩
theorem mV_X0_callAt : pp_MV yX0_callAt cX0_callAt 6 none 2 := ⟨wm_551, wm_64, ⟨by decide, by decide, by decide +kernel⟩, wm_549, wm_550⟩
theorem mV_X0_comeHome : pp_MV yX0_comeHome cX0_comeHome 5 none 0 := ⟨wm_547, wm_64, ⟨by decide, by decide, by decide +kernel⟩, wm_545, wm_546⟩
theorem mV_X0_goAlong : pp_MV yX0_goAlong cX0_goAlong 4 none 2 := ⟨wm_543, wm_64, ⟨by decide, by decide, by decide +kernel⟩, wm_541, wm_542⟩
theorem mV_X0_meanAsked : pp_MV yX0_meanAsked cX0_meanAsked 11 (some .long) 5 := ⟨wm_559, wm_64, ⟨by decide, by decide, by decide +kernel⟩, wm_558, wm_5⟩
theorem mV_X0_meanSold : pp_MV yX0_meanSold cX0_meanSold 4 (some .long) 0 := ⟨wm_525, wm_64, ⟨by decide, by decide, by decide +kernel⟩, wm_523, wm_524⟩
theorem mV_X0_sell : pp_MV yX0_sell cX0_sell 12 none 5 := ⟨wm_518, wm_64, ⟨by decide, by decide, by decide +kernel⟩, wm_516, wm_517⟩
theorem mV_X1_mayBe : pp_MV yX1_mayBe cX1_mayBe 6 (some .boolean) 3 := ⟨wm_361, wm_58, ⟨by decide, by decide, by decide +kernel⟩, wm_359, wm_360⟩
theorem mV_X1_weightOf : pp_MV yX1_weightOf cX1_weightOf 4 (some .int) 1 := ⟨wm_487, wm_58, ⟨by decide, by decide, by decide +kernel⟩, wm_485, wm_486⟩
theorem mV_X2_build : pp_MV yX2_build cX2_build 4 none 3 := ⟨wm_377, wm_59, ⟨by decide, by decide, by decide +kernel⟩, wm_375, wm_376⟩
theorem mV_X2_countRoads : pp_MV yX2_countRoads cX2_countRoads 4 (some .int) 0 := ⟨wm_813, wm_59, ⟨by decide, by decide, by decide +kernel⟩, wm_811, wm_812⟩
theorem mV_X2_findWays : pp_MV yX2_findWays cX2_findWays 4 none 0 := ⟨wm_104, wm_59, ⟨by decide, by decide, by decide +kernel⟩, wm_103, wm_0⟩
theorem mV_X2_hoursOf : pp_MV yX2_hoursOf cX2_hoursOf 6 (some .int) 2 := ⟨wm_499, wm_59, ⟨by decide, by decide, by decide +kernel⟩, wm_497, wm_498⟩
theorem mV_X3_append : pp_MV yX3_append cX3_append 2 (some .boolean) 1 := ⟨wm_393, wm_62, ⟨by decide, by decide, by decide +kernel⟩, wm_391, wm_392⟩
theorem mV_X3_figureAt : pp_MV yX3_figureAt cX3_figureAt 2 (some .int) 1 := ⟨wm_413, wm_62, ⟨by decide, by decide, by decide +kernel⟩, wm_412, wm_2⟩
theorem mV_X3_findFault : pp_MV yX3_findFault cX3_findFault 4 (some .int) 0 := ⟨wm_405, wm_62, ⟨by decide, by decide, by decide +kernel⟩, wm_403, wm_404⟩
theorem mV_X3_isAt : pp_MV yX3_isAt cX3_isAt 3 (some .boolean) 2 := ⟨wm_421, wm_62, ⟨by decide, by decide, by decide +kernel⟩, wm_420, wm_3⟩
theorem mV_X3_readChances : pp_MV yX3_readChances cX3_readChances 7 (some .int) 1 := ⟨wm_426, wm_62, ⟨by decide, by decide, by decide +kernel⟩, wm_425, wm_4⟩
theorem mV_X3_readPart : pp_MV yX3_readPart cX3_readPart 2 (some .int) 1 := ⟨wm_409, wm_62, ⟨by decide, by decide, by decide +kernel⟩, wm_408, wm_1⟩
theorem mV_X3_tellTo : pp_MV yX3_tellTo cX3_tellTo 4 (some .int) 1 := ⟨wm_434, wm_62, ⟨by decide, by decide, by decide +kernel⟩, wm_432, wm_433⟩
theorem mV_X4_chanceOf : pp_MV yX4_chanceOf cX4_chanceOf 5 (some .int) 3 := ⟨wm_468, wm_61, ⟨by decide, by decide, by decide +kernel⟩, wm_466, wm_467⟩
theorem mV_X4_countChances : pp_MV yX4_countChances cX4_countChances 5 (some .int) 0 := ⟨wm_817, wm_61, ⟨by decide, by decide, by decide +kernel⟩, wm_815, wm_816⟩
theorem mV_X4_take : pp_MV yX4_take cX4_take 7 (some .boolean) 4 := ⟨wm_438, wm_61, ⟨by decide, by decide, by decide +kernel⟩, wm_436, wm_437⟩
theorem mV_X5_chooseBest : pp_MV yX5_chooseBest cX5_chooseBest 6 none 1 := ⟨wm_589, wm_65, ⟨by decide, by decide, by decide +kernel⟩, wm_587, wm_588⟩
theorem mV_X5_chooseLoaded : pp_MV yX5_chooseLoaded cX5_chooseLoaded 5 none 1 := ⟨wm_621, wm_65, ⟨by decide, by decide, by decide +kernel⟩, wm_619, wm_620⟩
theorem mV_X5_fillMost : pp_MV yX5_fillMost cX5_fillMost 10 none 3 := ⟨wm_597, wm_65, ⟨by decide, by decide, by decide +kernel⟩, wm_596, wm_7⟩
theorem mV_X5_findBound : pp_MV yX5_findBound cX5_findBound 8 none 1 := ⟨wm_633, wm_65, ⟨by decide, by decide, by decide +kernel⟩, wm_631, wm_632⟩
theorem mV_X5_gainOf : pp_MV yX5_gainOf cX5_gainOf 5 (some .long) 1 := ⟨wm_581, wm_65, ⟨by decide, by decide, by decide +kernel⟩, wm_579, wm_580⟩
theorem mV_X5_leastBringing : pp_MV yX5_leastBringing cX5_leastBringing 12 (some .int) 1 := ⟨wm_756, wm_65, ⟨by decide, by decide, by decide +kernel⟩, wm_754, wm_755⟩
theorem mV_X5_leastNumber : pp_MV yX5_leastNumber cX5_leastNumber 5 (some .int) 2 := ⟨wm_604, wm_65, ⟨by decide, by decide, by decide +kernel⟩, wm_603, wm_8⟩
theorem mV_X5_mostGain : pp_MV yX5_mostGain cX5_mostGain 4 (some .long) 2 := ⟨wm_593, wm_65, ⟨by decide, by decide, by decide +kernel⟩, wm_591, wm_592⟩
theorem mV_X5_nextLoaded : pp_MV yX5_nextLoaded cX5_nextLoaded 10 (some .int) 1 := ⟨wm_625, wm_65, ⟨by decide, by decide, by decide +kernel⟩, wm_624, wm_11⟩
theorem mV_X5_nextStep : pp_MV yX5_nextStep cX5_nextStep 9 (some .int) 0 := ⟨wm_637, wm_65, ⟨by decide, by decide, by decide +kernel⟩, wm_636, wm_13⟩
theorem mV_X5_peakGain : pp_MV yX5_peakGain cX5_peakGain 1 (some .long) 0 := ⟨wm_690, wm_65, ⟨by decide, by decide, by decide +kernel⟩, wm_688, wm_689⟩
theorem mV_X5_peaksFit : pp_MV yX5_peaksFit cX5_peaksFit 2 (some .boolean) 1 := ⟨wm_695, wm_65, ⟨by decide, by decide, by decide +kernel⟩, wm_693, wm_694⟩
theorem mV_X5_stepGain : pp_MV yX5_stepGain cX5_stepGain 3 (some .long) 2 := ⟨wm_629, wm_65, ⟨by decide, by decide, by decide +kernel⟩, wm_628, wm_12⟩
theorem mV_X5_weighGains : pp_MV yX5_weighGains cX5_weighGains 4 none 1 := ⟨wm_576, wm_65, ⟨by decide, by decide, by decide +kernel⟩, wm_574, wm_575⟩
theorem mV_X6_bestSet : pp_MV yX6_bestSet cX6_bestSet 3 (some .int) 0 := ⟨wm_705, wm_66, ⟨by decide, by decide, by decide +kernel⟩, wm_703, wm_704⟩
theorem mS_X6_bitOf : pp_MS yX6_bitOf cX6_bitOf 1 (some .int) 1 := ⟨wm_700, wm_66, ⟨by decide, by decide, by decide +kernel⟩, wm_699⟩
theorem mV_X6_clear : pp_MV yX6_clear cX6_clear 2 none 0 := ⟨wm_663, wm_66, ⟨by decide, by decide, by decide +kernel⟩, wm_662, wm_15⟩
theorem mV_X6_findOnward : pp_MV yX6_findOnward cX6_findOnward 5 none 4 := ⟨wm_723, wm_66, ⟨by decide, by decide, by decide +kernel⟩, wm_721, wm_722⟩
theorem mV_X6_findRounds : pp_MV yX6_findRounds cX6_findRounds 4 none 3 := ⟨wm_659, wm_66, ⟨by decide, by decide, by decide +kernel⟩, wm_657, wm_658⟩
theorem mV_X6_forget : pp_MV yX6_forget cX6_forget 1 none 0 := ⟨wm_366, wm_66, ⟨by decide, by decide, by decide +kernel⟩, wm_364, wm_365⟩
theorem mV_X6_isBetter : pp_MV yX6_isBetter cX6_isBetter 5 (some .boolean) 3 := ⟨wm_685, wm_66, ⟨by decide, by decide, by decide +kernel⟩, wm_684, wm_20⟩
theorem mV_X6_judge : pp_MV yX6_judge cX6_judge 7 none 3 := ⟨wm_673, wm_66, ⟨by decide, by decide, by decide +kernel⟩, wm_672, wm_17⟩
theorem mV_X6_keep : pp_MV yX6_keep cX6_keep 5 none 3 := ⟨wm_681, wm_66, ⟨by decide, by decide, by decide +kernel⟩, wm_680, wm_19⟩
theorem mV_X6_lengthen : pp_MV yX6_lengthen cX6_lengthen 9 none 5 := ⟨wm_669, wm_66, ⟨by decide, by decide, by decide +kernel⟩, wm_668, wm_16⟩
theorem mV_X6_part : pp_MV yX6_part cX6_part 3 none 1 := ⟨wm_736, wm_66, ⟨by decide, by decide, by decide +kernel⟩, wm_734, wm_735⟩
theorem mV_X6_partWith : pp_MV yX6_partWith cX6_partWith 4 none 2 := ⟨wm_740, wm_66, ⟨by decide, by decide, by decide +kernel⟩, wm_739, wm_21⟩
theorem mV_X6_valueOfPack : pp_MV yX6_valueOfPack cX6_valueOfPack 5 (some .long) 1 := ⟨wm_677, wm_66, ⟨by decide, by decide, by decide +kernel⟩, wm_676, wm_18⟩
theorem mV_X7_findingAt : pp_MV yX7_findingAt cX7_findingAt 4 (some .int) 3 := ⟨wm_779, wm_63, ⟨by decide, by decide, by decide +kernel⟩, wm_777, wm_778⟩
theorem mV_X7_found : pp_MV yX7_found cX7_found 2 (some .int) 1 := ⟨wm_455, wm_63, ⟨by decide, by decide, by decide +kernel⟩, wm_453, wm_454⟩
theorem mV_X7_hasItems : pp_MV yX7_hasItems cX7_hasItems 4 (some .boolean) 3 := ⟨wm_798, wm_63, ⟨by decide, by decide, by decide +kernel⟩, wm_796, wm_797⟩
theorem mV_X7_isLost : pp_MV yX7_isLost cX7_isLost 2 (some .boolean) 1 := ⟨wm_451, wm_63, ⟨by decide, by decide, by decide +kernel⟩, wm_449, wm_450⟩
theorem mV_X7_lay : pp_MV yX7_lay cX7_lay 5 none 3 := ⟨wm_785, wm_63, ⟨by decide, by decide, by decide +kernel⟩, wm_783, wm_784⟩
theorem mV_X7_renew : pp_MV yX7_renew cX7_renew 5 none 3 := ⟨wm_767, wm_63, ⟨by decide, by decide, by decide +kernel⟩, wm_765, wm_766⟩
theorem mS_X8_areFarms : pp_MS yX8_areFarms cX8_areFarms 4 (some .boolean) 2 := ⟨wm_479, wm_57, ⟨by decide, by decide, by decide +kernel⟩, wm_478⟩
theorem mV_X8_ask : pp_MV yX8_ask cX8_ask 4 (some .int) 3 := ⟨wm_539, wm_57, ⟨by decide, by decide, by decide +kernel⟩, wm_537, wm_538⟩
theorem mV_X8_best : pp_MV yX8_best cX8_best 2 (some .int) 1 := ⟨wm_585, wm_57, ⟨by decide, by decide, by decide +kernel⟩, wm_583, wm_584⟩
theorem mV_X8_both : pp_MV yX8_both cX8_both 2 (some .long) 1 := ⟨wm_744, wm_57, ⟨by decide, by decide, by decide +kernel⟩, wm_742, wm_743⟩
theorem mV_X8_brings : pp_MV yX8_brings cX8_brings 5 (some .long) 2 := ⟨wm_748, wm_57, ⟨by decide, by decide, by decide +kernel⟩, wm_746, wm_747⟩
theorem mV_X8_chance : pp_MV yX8_chance cX8_chance 4 (some .int) 3 := ⟨wm_461, wm_57, ⟨by decide, by decide, by decide +kernel⟩, wm_459, wm_460⟩
theorem mV_X8_copy : pp_MV yX8_copy cX8_copy 6 (some .int) 5 := ⟨wm_794, wm_57, ⟨by decide, by decide, by decide +kernel⟩, wm_792, wm_793⟩
theorem mV_X8_count : pp_MV yX8_count cX8_count 2 (some .int) 1 := ⟨wm_809, wm_57, ⟨by decide, by decide, by decide +kernel⟩, wm_807, wm_808⟩
theorem mV_X8_digest : pp_MV yX8_digest cX8_digest 5 (some .long) 0 := ⟨wm_822, wm_57, ⟨by decide, by decide, by decide +kernel⟩, wm_820, wm_821⟩
theorem mS_X8_farmOf : pp_MS yX8_farmOf cX8_farmOf 2 (some .int) 2 := ⟨wm_711, wm_57, ⟨by decide, by decide, by decide +kernel⟩, wm_710⟩
theorem mS_X8_farmsOf : pp_MS yX8_farmsOf cX8_farmsOf 2 (some .int) 1 := ⟨wm_708, wm_57, ⟨by decide, by decide, by decide +kernel⟩, wm_707⟩
theorem mV_X8_fault : pp_MV yX8_fault cX8_fault 1 (some .int) 0 := ⟨wm_401, wm_57, ⟨by decide, by decide, by decide +kernel⟩, wm_399, wm_400⟩
theorem mV_X8_gain : pp_MV yX8_gain cX8_gain 2 (some .long) 1 := ⟨wm_568, wm_57, ⟨by decide, by decide, by decide +kernel⟩, wm_566, wm_567⟩
theorem mV_X8_get : pp_MV yX8_get cX8_get 5 (some .int) 3 := ⟨wm_789, wm_57, ⟨by decide, by decide, by decide +kernel⟩, wm_787, wm_788⟩
theorem mV_X8_hours : pp_MV yX8_hours cX8_hours 1 (some .int) 0 := ⟨wm_495, wm_57, ⟨by decide, by decide, by decide +kernel⟩, wm_493, wm_494⟩
theorem mS_X8_isFarm : pp_MS yX8_isFarm cX8_isFarm 1 (some .boolean) 1 := ⟨wm_417, wm_57, ⟨by decide, by decide, by decide +kernel⟩, wm_416⟩
theorem mS_X8_isForm : pp_MS yX8_isForm cX8_isForm 1 (some .boolean) 1 := ⟨wm_763, wm_57, ⟨by decide, by decide, by decide +kernel⟩, wm_762⟩
theorem mS_X8_isLevel : pp_MS yX8_isLevel cX8_isLevel 1 (some .boolean) 1 := ⟨wm_464, wm_57, ⟨by decide, by decide, by decide +kernel⟩, wm_463⟩
theorem mS_X8_isNumber : pp_MS yX8_isNumber cX8_isNumber 1 (some .boolean) 1 := ⟨wm_507, wm_57, ⟨by decide, by decide, by decide +kernel⟩, wm_506⟩
theorem mS_X8_isPlace : pp_MS yX8_isPlace cX8_isPlace 1 (some .boolean) 1 := ⟨wm_373, wm_57, ⟨by decide, by decide, by decide +kernel⟩, wm_372⟩
theorem mS_X8_isSheet : pp_MS yX8_isSheet cX8_isSheet 1 (some .boolean) 1 := ⟨wm_446, wm_57, ⟨by decide, by decide, by decide +kernel⟩, wm_445⟩
theorem mS_X8_isTerm : pp_MS yX8_isTerm cX8_isTerm 1 (some .boolean) 1 := ⟨wm_510, wm_57, ⟨by decide, by decide, by decide +kernel⟩, wm_509⟩
theorem mS_X8_isThing : pp_MS yX8_isThing cX8_isThing 1 (some .boolean) 1 := ⟨wm_354, wm_57, ⟨by decide, by decide, by decide +kernel⟩, wm_353⟩
theorem mV_X8_judged : pp_MV yX8_judged cX8_judged 1 (some .int) 0 := ⟨wm_491, wm_57, ⟨by decide, by decide, by decide +kernel⟩, wm_489, wm_490⟩
theorem mV_X8_load : pp_MV yX8_load cX8_load 3 (some .long) 2 := ⟨wm_612, wm_57, ⟨by decide, by decide, by decide +kernel⟩, wm_610, wm_611⟩
theorem mV_X8_loadTerm : pp_MV yX8_loadTerm cX8_loadTerm 3 (some .long) 2 := ⟨wm_616, wm_57, ⟨by decide, by decide, by decide +kernel⟩, wm_615, wm_10⟩
theorem mV_X8_loaded : pp_MV yX8_loaded cX8_loaded 2 (some .int) 1 := ⟨wm_641, wm_57, ⟨by decide, by decide, by decide +kernel⟩, wm_639, wm_640⟩
theorem mV_X8_lose : pp_MV yX8_lose cX8_lose 3 (some .int) 1 := ⟨wm_771, wm_57, ⟨by decide, by decide, by decide +kernel⟩, wm_769, wm_770⟩
theorem mV_X8_numberOrWeight : pp_MV yX8_numberOrWeight cX8_numberOrWeight 3 (some .int) 2 := ⟨wm_608, wm_57, ⟨by decide, by decide, by decide +kernel⟩, wm_607, wm_9⟩
theorem mV_X8_onward : pp_MV yX8_onward cX8_onward 5 (some .int) 2 := ⟨wm_719, wm_57, ⟨by decide, by decide, by decide +kernel⟩, wm_717, wm_718⟩
theorem mV_X8_pack : pp_MV yX8_pack cX8_pack 4 (some .int) 1 := ⟨wm_483, wm_57, ⟨by decide, by decide, by decide +kernel⟩, wm_481, wm_482⟩
theorem mV_X8_put : pp_MV yX8_put cX8_put 6 (some .int) 4 := ⟨wm_775, wm_57, ⟨by decide, by decide, by decide +kernel⟩, wm_773, wm_774⟩
theorem mV_X8_read : pp_MV yX8_read cX8_read 6 (some .int) 2 := ⟨wm_443, wm_57, ⟨by decide, by decide, by decide +kernel⟩, wm_441, wm_442⟩
theorem mS_X8_refusal : pp_MS yX8_refusal cX8_refusal 1 (some .long) 1 := ⟨wm_513, wm_57, ⟨by decide, by decide, by decide +kernel⟩, wm_512⟩
theorem mV_X8_road : pp_MV yX8_road cX8_road 5 (some .int) 3 := ⟨wm_370, wm_57, ⟨by decide, by decide, by decide +kernel⟩, wm_368, wm_369⟩
theorem mV_X8_round : pp_MV yX8_round cX8_round 4 (some .int) 1 := ⟨wm_645, wm_57, ⟨by decide, by decide, by decide +kernel⟩, wm_643, wm_644⟩
theorem mV_X8_rounds : pp_MV yX8_rounds cX8_rounds 2 (some .long) 1 := ⟨wm_715, wm_57, ⟨by decide, by decide, by decide +kernel⟩, wm_713, wm_714⟩
theorem mV_X8_row : pp_MV yX8_row cX8_row 4 (some .int) 1 := ⟨wm_476, wm_57, ⟨by decide, by decide, by decide +kernel⟩, wm_474, wm_475⟩
theorem mV_X8_set : pp_MV yX8_set cX8_set 4 (some .int) 2 := ⟨wm_385, wm_57, ⟨by decide, by decide, by decide +kernel⟩, wm_383, wm_384⟩
theorem mS_X8_sharedDivisor : pp_MS yX8_sharedDivisor cX8_sharedDivisor 7 (some .long) 2 := ⟨wm_535, wm_57, ⟨by decide, by decide, by decide +kernel⟩, wm_534⟩
theorem mV_X8_sheet : pp_MV yX8_sheet cX8_sheet 4 (some .int) 3 := ⟨wm_760, wm_57, ⟨by decide, by decide, by decide +kernel⟩, wm_758, wm_759⟩
theorem mV_X8_shop : pp_MV yX8_shop cX8_shop 4 (some .int) 2 := ⟨wm_472, wm_57, ⟨by decide, by decide, by decide +kernel⟩, wm_470, wm_471⟩
theorem mV_X8_sold : pp_MV yX8_sold cX8_sold 6 (some .long) 5 := ⟨wm_504, wm_57, ⟨by decide, by decide, by decide +kernel⟩, wm_502, wm_503⟩
theorem mV_X8_straps : pp_MV yX8_straps cX8_straps 1 (some .int) 0 := ⟨wm_752, wm_57, ⟨by decide, by decide, by decide +kernel⟩, wm_750, wm_751⟩
theorem mS_X8_term : pp_MS yX8_term cX8_term 7 (some .long) 3 := ⟨wm_529, wm_57, ⟨by decide, by decide, by decide +kernel⟩, wm_528⟩
theorem mV_X8_thing : pp_MV yX8_thing cX8_thing 5 (some .int) 3 := ⟨wm_351, wm_57, ⟨by decide, by decide, by decide +kernel⟩, wm_349, wm_350⟩
theorem mV_X8_tooManyOpen : pp_MV yX8_tooManyOpen cX8_tooManyOpen 1 (some .boolean) 0 := ⟨wm_649, wm_57, ⟨by decide, by decide, by decide +kernel⟩, wm_648, wm_14⟩
theorem mV_X8_trust : pp_MV yX8_trust cX8_trust 10 (some .int) 5 := ⟨wm_727, wm_57, ⟨by decide, by decide, by decide +kernel⟩, wm_725, wm_726⟩
theorem mV_X8_two : pp_MV yX8_two cX8_two 2 (some .int) 1 := ⟨wm_732, wm_57, ⟨by decide, by decide, by decide +kernel⟩, wm_730, wm_731⟩
theorem mV_X8_type : pp_MV yX8_type cX8_type 2 (some .int) 1 := ⟨wm_389, wm_57, ⟨by decide, by decide, by decide +kernel⟩, wm_387, wm_388⟩
theorem mV_X8_value : pp_MV yX8_value cX8_value 5 (some .long) 4 := ⟨wm_564, wm_57, ⟨by decide, by decide, by decide +kernel⟩, wm_562, wm_563⟩
theorem mV_X8_wants : pp_MV yX8_wants cX8_wants 2 (some .int) 0 := ⟨wm_430, wm_57, ⟨by decide, by decide, by decide +kernel⟩, wm_428, wm_429⟩
theorem mV_X8_way : pp_MV yX8_way cX8_way 3 (some .int) 2 := ⟨wm_381, wm_57, ⟨by decide, by decide, by decide +kernel⟩, wm_379, wm_380⟩
theorem mV_X8_weighUp : pp_MV yX8_weighUp cX8_weighUp 1 none 0 := ⟨wm_572, wm_57, ⟨by decide, by decide, by decide +kernel⟩, wm_571, wm_6⟩
theorem mV_X8_wipe : pp_MV yX8_wipe cX8_wipe 2 (some .int) 0 := ⟨wm_397, wm_57, ⟨by decide, by decide, by decide +kernel⟩, wm_395, wm_396⟩
theorem mS_X8_within : pp_MS yX8_within cX8_within 3 (some .boolean) 3 := ⟨wm_357, wm_57, ⟨by decide, by decide, by decide +kernel⟩, wm_356⟩
theorem mV_X8_write : pp_MV yX8_write cX8_write 4 (some .int) 1 := ⟨wm_805, wm_57, ⟨by decide, by decide, by decide +kernel⟩, wm_803, wm_804⟩
theorem mV_X9_ask : pp_MV yX9_ask cX9_ask 4 (some .int) 3 := ⟨wm_1138, wm_67, ⟨by decide, by decide, by decide +kernel⟩, wm_1136, wm_1137⟩
theorem mV_X9_best : pp_MV yX9_best cX9_best 2 (some .int) 1 := ⟨wm_1158, wm_67, ⟨by decide, by decide, by decide +kernel⟩, wm_1156, wm_1157⟩
theorem mV_X9_bestNow : pp_MV yX9_bestNow cX9_bestNow 4 (some .int) 1 := ⟨wm_1162, wm_67, ⟨by decide, by decide, by decide +kernel⟩, wm_1161, wm_39⟩
theorem mV_X9_both : pp_MV yX9_both cX9_both 2 (some .long) 1 := ⟨wm_1242, wm_67, ⟨by decide, by decide, by decide +kernel⟩, wm_1240, wm_1241⟩
theorem mV_X9_boundNow : pp_MV yX9_boundNow cX9_boundNow 13 (some .long) 1 := ⟨wm_1195, wm_67, ⟨by decide, by decide, by decide +kernel⟩, wm_1194, wm_45⟩
theorem mV_X9_brings : pp_MV yX9_brings cX9_brings 3 (some .long) 2 := ⟨wm_1246, wm_67, ⟨by decide, by decide, by decide +kernel⟩, wm_1244, wm_1245⟩
theorem mV_X9_bringsNow : pp_MV yX9_bringsNow cX9_bringsNow 4 (some .long) 1 := ⟨wm_1250, wm_67, ⟨by decide, by decide, by decide +kernel⟩, wm_1249, wm_51⟩
theorem mV_X9_byteNow : pp_MV yX9_byteNow cX9_byteNow 1 (some .int) 0 := ⟨wm_1039, wm_67, ⟨by decide, by decide, by decide +kernel⟩, wm_1038, wm_27⟩
theorem mV_X9_chance : pp_MV yX9_chance cX9_chance 4 (some .int) 3 := ⟨wm_1068, wm_67, ⟨by decide, by decide, by decide +kernel⟩, wm_1066, wm_1067⟩
theorem mV_X9_chanceNow : pp_MV yX9_chanceNow cX9_chanceNow 5 (some .int) 3 := ⟨wm_1072, wm_67, ⟨by decide, by decide, by decide +kernel⟩, wm_1071, wm_30⟩
theorem mV_X9_copy : pp_MV yX9_copy cX9_copy 7 (some .int) 5 := ⟨wm_1287, wm_67, ⟨by decide, by decide, by decide +kernel⟩, wm_1285, wm_1286⟩
theorem mV_X9_count : pp_MV yX9_count cX9_count 2 (some .int) 1 := ⟨wm_1295, wm_67, ⟨by decide, by decide, by decide +kernel⟩, wm_1293, wm_1294⟩
theorem mV_X9_countNow : pp_MV yX9_countNow cX9_countNow 5 (some .int) 1 := ⟨wm_1299, wm_67, ⟨by decide, by decide, by decide +kernel⟩, wm_1298, wm_55⟩
theorem mV_X9_digest : pp_MV yX9_digest cX9_digest 6 (some .long) 0 := ⟨wm_1303, wm_67, ⟨by decide, by decide, by decide +kernel⟩, wm_1301, wm_1302⟩
theorem mV_X9_expects : pp_MV yX9_expects cX9_expects 2 none 1 := ⟨wm_1043, wm_67, ⟨by decide, by decide, by decide +kernel⟩, wm_1042, wm_28⟩
theorem mV_X9_fault : pp_MV yX9_fault cX9_fault 1 (some .int) 0 := ⟨wm_1023, wm_67, ⟨by decide, by decide, by decide +kernel⟩, wm_1021, wm_1022⟩
theorem mV_X9_faultNow : pp_MV yX9_faultNow cX9_faultNow 1 (some .int) 0 := ⟨wm_1027, wm_67, ⟨by decide, by decide, by decide +kernel⟩, wm_1026, wm_24⟩
theorem mS_X9_fives : pp_MS yX9_fives cX9_fives 3 (some .int) 1 := ⟨wm_1210, wm_67, ⟨by decide, by decide, by decide +kernel⟩, wm_1209⟩
theorem mV_X9_gain : pp_MV yX9_gain cX9_gain 2 (some .long) 1 := ⟨wm_1146, wm_67, ⟨by decide, by decide, by decide +kernel⟩, wm_1144, wm_1145⟩
theorem mV_X9_gainNow : pp_MV yX9_gainNow cX9_gainNow 4 (some .long) 0 := ⟨wm_1150, wm_67, ⟨by decide, by decide, by decide +kernel⟩, wm_1149, wm_37⟩
theorem mV_X9_gainOf : pp_MV yX9_gainOf cX9_gainOf 3 (some .long) 2 := ⟨wm_1154, wm_67, ⟨by decide, by decide, by decide +kernel⟩, wm_1153, wm_38⟩
theorem mV_X9_gathers : pp_MV yX9_gathers cX9_gathers 2 (some .boolean) 0 := ⟨wm_1203, wm_67, ⟨by decide, by decide, by decide +kernel⟩, wm_1202, wm_46⟩
theorem mV_X9_get : pp_MV yX9_get cX9_get 5 (some .int) 3 := ⟨wm_1282, wm_67, ⟨by decide, by decide, by decide +kernel⟩, wm_1280, wm_1281⟩
theorem mV_X9_goesRound : pp_MV yX9_goesRound cX9_goesRound 7 none 0 := ⟨wm_1207, wm_67, ⟨by decide, by decide, by decide +kernel⟩, wm_1206, wm_47⟩
theorem mV_X9_hours : pp_MV yX9_hours cX9_hours 1 (some .int) 0 := ⟨wm_1092, wm_67, ⟨by decide, by decide, by decide +kernel⟩, wm_1090, wm_1091⟩
theorem mV_X9_hoursFrom : pp_MV yX9_hoursFrom cX9_hoursFrom 5 (some .int) 1 := ⟨wm_1115, wm_67, ⟨by decide, by decide, by decide +kernel⟩, wm_1114, wm_35⟩
theorem mV_X9_hoursNow : pp_MV yX9_hoursNow cX9_hoursNow 1 (some .int) 0 := ⟨wm_1096, wm_67, ⟨by decide, by decide, by decide +kernel⟩, wm_1095, wm_32⟩
theorem mS_X9_in : pp_MS yX9_in cX9_in 3 (some .boolean) 3 := ⟨wm_988, wm_67, ⟨by decide, by decide, by decide +kernel⟩, wm_987⟩
theorem mS_X9_isFarm : pp_MS yX9_isFarm cX9_isFarm 1 (some .boolean) 1 := ⟨wm_1060, wm_67, ⟨by decide, by decide, by decide +kernel⟩, wm_1059⟩
theorem mS_X9_isPlace : pp_MS yX9_isPlace cX9_isPlace 1 (some .boolean) 1 := ⟨wm_999, wm_67, ⟨by decide, by decide, by decide +kernel⟩, wm_998⟩
theorem mS_X9_isSheet : pp_MS yX9_isSheet cX9_isSheet 1 (some .boolean) 1 := ⟨wm_1057, wm_67, ⟨by decide, by decide, by decide +kernel⟩, wm_1056⟩
theorem mS_X9_isThing : pp_MS yX9_isThing cX9_isThing 1 (some .boolean) 1 := ⟨wm_985, wm_67, ⟨by decide, by decide, by decide +kernel⟩, wm_984⟩
theorem mV_X9_judged : pp_MV yX9_judged cX9_judged 1 (some .int) 0 := ⟨wm_1119, wm_67, ⟨by decide, by decide, by decide +kernel⟩, wm_1117, wm_1118⟩
theorem mV_X9_judgedNow : pp_MV yX9_judgedNow cX9_judgedNow 1 (some .int) 0 := ⟨wm_1123, wm_67, ⟨by decide, by decide, by decide +kernel⟩, wm_1122, wm_36⟩
theorem mV_X9_keep : pp_MV yX9_keep cX9_keep 4 none 3 := ⟨wm_1278, wm_67, ⟨by decide, by decide, by decide +kernel⟩, wm_1277, wm_54⟩
theorem mV_X9_lacks : pp_MV yX9_lacks cX9_lacks 4 (some .int) 3 := ⟨wm_1274, wm_67, ⟨by decide, by decide, by decide +kernel⟩, wm_1273, wm_53⟩
theorem mV_X9_laysWays : pp_MV yX9_laysWays cX9_laysWays 4 none 0 := ⟨wm_1007, wm_67, ⟨by decide, by decide, by decide +kernel⟩, wm_1006, wm_23⟩
theorem mV_X9_laysWorth : pp_MV yX9_laysWorth cX9_laysWorth 18 none 0 := ⟨wm_1104, wm_67, ⟨by decide, by decide, by decide +kernel⟩, wm_1103, wm_34⟩
theorem mV_X9_load : pp_MV yX9_load cX9_load 3 (some .long) 2 := ⟨wm_1187, wm_67, ⟨by decide, by decide, by decide +kernel⟩, wm_1185, wm_1186⟩
theorem mV_X9_loadNow : pp_MV yX9_loadNow cX9_loadNow 6 (some .long) 2 := ⟨wm_1191, wm_67, ⟨by decide, by decide, by decide +kernel⟩, wm_1190, wm_44⟩
theorem mV_X9_loaded : pp_MV yX9_loaded cX9_loaded 2 (some .int) 1 := ⟨wm_1175, wm_67, ⟨by decide, by decide, by decide +kernel⟩, wm_1173, wm_1174⟩
theorem mV_X9_loadedNow : pp_MV yX9_loadedNow cX9_loadedNow 2 (some .int) 1 := ⟨wm_1179, wm_67, ⟨by decide, by decide, by decide +kernel⟩, wm_1178, wm_42⟩
theorem mV_X9_loads : pp_MV yX9_loads cX9_loads 8 none 0 := ⟨wm_1183, wm_67, ⟨by decide, by decide, by decide +kernel⟩, wm_1182, wm_43⟩
theorem mV_X9_looksAt : pp_MV yX9_looksAt cX9_looksAt 7 (some .int) 2 := ⟨wm_1214, wm_67, ⟨by decide, by decide, by decide +kernel⟩, wm_1213, wm_48⟩
theorem mV_X9_looksAtRow : pp_MV yX9_looksAtRow cX9_looksAtRow 2 none 0 := ⟨wm_1100, wm_67, ⟨by decide, by decide, by decide +kernel⟩, wm_1099, wm_33⟩
theorem mV_X9_lose : pp_MV yX9_lose cX9_lose 2 (some .int) 1 := ⟨wm_1266, wm_67, ⟨by decide, by decide, by decide +kernel⟩, wm_1264, wm_1265⟩
theorem mS_X9_lowest : pp_MS yX9_lowest cX9_lowest 11 (some .long) 3 := ⟨wm_1134, wm_67, ⟨by decide, by decide, by decide +kernel⟩, wm_1133⟩
theorem mV_X9_meets : pp_MV yX9_meets cX9_meets 2 (some .int) 1 := ⟨wm_1064, wm_67, ⟨by decide, by decide, by decide +kernel⟩, wm_1063, wm_29⟩
theorem mV_X9_mostGain : pp_MV yX9_mostGain cX9_mostGain 6 (some .long) 0 := ⟨wm_1218, wm_67, ⟨by decide, by decide, by decide +kernel⟩, wm_1217, wm_49⟩
theorem mS_X9_no : pp_MS yX9_no cX9_no 1 (some .long) 1 := ⟨wm_1130, wm_67, ⟨by decide, by decide, by decide +kernel⟩, wm_1129⟩
theorem mV_X9_number : pp_MV yX9_number cX9_number 6 (some .int) 3 := ⟨wm_1035, wm_67, ⟨by decide, by decide, by decide +kernel⟩, wm_1034, wm_26⟩
theorem mV_X9_onward : pp_MV yX9_onward cX9_onward 12 (some .int) 2 := ⟨wm_1226, wm_67, ⟨by decide, by decide, by decide +kernel⟩, wm_1224, wm_1225⟩
theorem mV_X9_pack : pp_MV yX9_pack cX9_pack 3 (some .int) 1 := ⟨wm_1084, wm_67, ⟨by decide, by decide, by decide +kernel⟩, wm_1082, wm_1083⟩
theorem mV_X9_packWeight : pp_MV yX9_packWeight cX9_packWeight 3 (some .int) 0 := ⟨wm_1088, wm_67, ⟨by decide, by decide, by decide +kernel⟩, wm_1087, wm_31⟩
theorem mV_X9_packs : pp_MV yX9_packs cX9_packs 10 none 1 := ⟨wm_1166, wm_67, ⟨by decide, by decide, by decide +kernel⟩, wm_1165, wm_40⟩
theorem mV_X9_part : pp_MV yX9_part cX9_part 6 none 0 := ⟨wm_1031, wm_67, ⟨by decide, by decide, by decide +kernel⟩, wm_1030, wm_25⟩
theorem mV_X9_parted : pp_MV yX9_parted cX9_parted 3 none 0 := ⟨wm_1238, wm_67, ⟨by decide, by decide, by decide +kernel⟩, wm_1237, wm_50⟩
theorem mS_X9_place : pp_MS yX9_place cX9_place 2 (some .int) 2 := ⟨wm_1050, wm_67, ⟨by decide, by decide, by decide +kernel⟩, wm_1049⟩
theorem mV_X9_put : pp_MV yX9_put cX9_put 6 (some .int) 4 := ⟨wm_1270, wm_67, ⟨by decide, by decide, by decide +kernel⟩, wm_1268, wm_1269⟩
theorem mV_X9_read : pp_MV yX9_read cX9_read 6 (some .int) 2 := ⟨wm_1054, wm_67, ⟨by decide, by decide, by decide +kernel⟩, wm_1052, wm_1053⟩
theorem mV_X9_road : pp_MV yX9_road cX9_road 5 (some .int) 3 := ⟨wm_996, wm_67, ⟨by decide, by decide, by decide +kernel⟩, wm_994, wm_995⟩
theorem mV_X9_round : pp_MV yX9_round cX9_round 2 (some .int) 1 := ⟨wm_1199, wm_67, ⟨by decide, by decide, by decide +kernel⟩, wm_1197, wm_1198⟩
theorem mV_X9_rounds : pp_MV yX9_rounds cX9_rounds 2 (some .long) 1 := ⟨wm_1222, wm_67, ⟨by decide, by decide, by decide +kernel⟩, wm_1220, wm_1221⟩
theorem mV_X9_row : pp_MV yX9_row cX9_row 5 (some .int) 1 := ⟨wm_1080, wm_67, ⟨by decide, by decide, by decide +kernel⟩, wm_1078, wm_1079⟩
theorem mV_X9_set : pp_MV yX9_set cX9_set 4 (some .int) 2 := ⟨wm_1011, wm_67, ⟨by decide, by decide, by decide +kernel⟩, wm_1009, wm_1010⟩
theorem mV_X9_sheet : pp_MV yX9_sheet cX9_sheet 5 (some .int) 3 := ⟨wm_1262, wm_67, ⟨by decide, by decide, by decide +kernel⟩, wm_1260, wm_1261⟩
theorem mV_X9_shop : pp_MV yX9_shop cX9_shop 4 (some .int) 2 := ⟨wm_1076, wm_67, ⟨by decide, by decide, by decide +kernel⟩, wm_1074, wm_1075⟩
theorem mS_X9_sixteen : pp_MS yX9_sixteen cX9_sixteen 1 (some .long) 1 := ⟨wm_1110, wm_67, ⟨by decide, by decide, by decide +kernel⟩, wm_1109⟩
theorem mV_X9_sold : pp_MV yX9_sold cX9_sold 12 (some .long) 5 := ⟨wm_1127, wm_67, ⟨by decide, by decide, by decide +kernel⟩, wm_1125, wm_1126⟩
theorem mS_X9_spot : pp_MS yX9_spot cX9_spot 3 (some .int) 3 := ⟨wm_1107, wm_67, ⟨by decide, by decide, by decide +kernel⟩, wm_1106⟩
theorem mV_X9_straps : pp_MV yX9_straps cX9_straps 1 (some .int) 0 := ⟨wm_1254, wm_67, ⟨by decide, by decide, by decide +kernel⟩, wm_1252, wm_1253⟩
theorem mV_X9_strapsNow : pp_MV yX9_strapsNow cX9_strapsNow 7 (some .int) 0 := ⟨wm_1258, wm_67, ⟨by decide, by decide, by decide +kernel⟩, wm_1257, wm_52⟩
theorem mV_X9_thing : pp_MV yX9_thing cX9_thing 7 (some .int) 3 := ⟨wm_982, wm_67, ⟨by decide, by decide, by decide +kernel⟩, wm_980, wm_981⟩
theorem mV_X9_thingNow : pp_MV yX9_thingNow cX9_thingNow 3 (some .int) 2 := ⟨wm_992, wm_67, ⟨by decide, by decide, by decide +kernel⟩, wm_991, wm_22⟩
theorem mV_X9_trust : pp_MV yX9_trust cX9_trust 8 (some .int) 5 := ⟨wm_1230, wm_67, ⟨by decide, by decide, by decide +kernel⟩, wm_1228, wm_1229⟩
theorem mV_X9_two : pp_MV yX9_two cX9_two 5 (some .int) 1 := ⟨wm_1234, wm_67, ⟨by decide, by decide, by decide +kernel⟩, wm_1232, wm_1233⟩
theorem mV_X9_type : pp_MV yX9_type cX9_type 2 (some .int) 1 := ⟨wm_1015, wm_67, ⟨by decide, by decide, by decide +kernel⟩, wm_1013, wm_1014⟩
theorem mV_X9_value : pp_MV yX9_value cX9_value 5 (some .long) 4 := ⟨wm_1142, wm_67, ⟨by decide, by decide, by decide +kernel⟩, wm_1140, wm_1141⟩
theorem mV_X9_wants : pp_MV yX9_wants cX9_wants 3 (some .int) 0 := ⟨wm_1047, wm_67, ⟨by decide, by decide, by decide +kernel⟩, wm_1045, wm_1046⟩
theorem mV_X9_way : pp_MV yX9_way cX9_way 3 (some .int) 2 := ⟨wm_1003, wm_67, ⟨by decide, by decide, by decide +kernel⟩, wm_1001, wm_1002⟩
theorem mV_X9_weightOf : pp_MV yX9_weightOf cX9_weightOf 3 (some .int) 2 := ⟨wm_1171, wm_67, ⟨by decide, by decide, by decide +kernel⟩, wm_1170, wm_41⟩
theorem mV_X9_wipe : pp_MV yX9_wipe cX9_wipe 2 (some .int) 0 := ⟨wm_1019, wm_67, ⟨by decide, by decide, by decide +kernel⟩, wm_1017, wm_1018⟩
theorem mV_X9_write : pp_MV yX9_write cX9_write 3 (some .int) 1 := ⟨wm_1291, wm_67, ⟨by decide, by decide, by decide +kernel⟩, wm_1289, wm_1290⟩
theorem lk_X0_28 : pp_Lk RX0 28 yX0_comeHome := Or.inl wm_544
theorem lk_X0_31 : pp_Lk RX0 31 yX0_callAt := Or.inl wm_548
theorem lk_X0_43 : pp_Lk RX0 43 yX0_bestLevel := Or.inl wm_552
theorem lk_X0_47 : pp_Lk RX0 47 yX0_meanAsked := Or.inl wm_556
theorem lk_X0_51 : pp_Lk RX0 51 yX4_chanceOf := Or.inl wm_520
theorem lk_X1_16 : pp_Lk RX1 16 yX8_within := Or.inr (by decide +kernel)
theorem lk_X2_19 : pp_Lk RX2 19 yX2_findWays := Or.inl wm_101
theorem lk_X3_31 : pp_Lk RX3 31 yX3_readPart := Or.inl wm_406
theorem lk_X3_35 : pp_Lk RX3 35 yX4_take := Or.inl wm_435
theorem lk_X3_41 : pp_Lk RX3 41 yX3_figureAt := Or.inl wm_410
theorem lk_X3_44 : pp_Lk RX3 44 yX8_isFarm := Or.inr (by decide +kernel)
theorem lk_X3_48 : pp_Lk RX3 48 yX3_isAt := Or.inl wm_418
theorem lk_X3_52 : pp_Lk RX3 52 yX8_isThing := Or.inr (by decide +kernel)
theorem lk_X3_55 : pp_Lk RX3 55 yX3_readChances := Or.inl wm_423
theorem lk_X3_58 : pp_Lk RX3 58 yX8_within := Or.inr (by decide +kernel)
theorem lk_X4_20 : pp_Lk RX4 20 yX8_within := Or.inr (by decide +kernel)
theorem lk_X4_24 : pp_Lk RX4 24 yX4_chanceOf := Or.inl wm_818
theorem lk_X5_52 : pp_Lk RX5 52 yX5_gainOf := Or.inl wm_691
theorem lk_X5_56 : pp_Lk RX5 56 yX1_weightOf := Or.inl wm_696
theorem lk_X5_60 : pp_Lk RX5 60 yX5_fillMost := Or.inl wm_594
theorem lk_X5_70 : pp_Lk RX5 70 yX5_mostGain := Or.inl wm_590
theorem lk_X5_74 : pp_Lk RX5 74 yX5_leastNumber := Or.inl wm_601
theorem lk_X5_78 : pp_Lk RX5 78 yX5_nextLoaded := Or.inl wm_622
theorem lk_X5_82 : pp_Lk RX5 82 yX5_stepGain := Or.inl wm_626
theorem lk_X5_85 : pp_Lk RX5 85 yX5_nextStep := Or.inl wm_634
theorem lk_X6_100 : pp_Lk RX6 100 yX6_valueOfPack := Or.inl wm_674
theorem lk_X6_104 : pp_Lk RX6 104 yX6_keep := Or.inl wm_678
theorem lk_X6_108 : pp_Lk RX6 108 yX5_weighGains := Or.inl wm_686
theorem lk_X6_114 : pp_Lk RX6 114 yX5_peakGain := Or.inl wm_687
theorem lk_X6_118 : pp_Lk RX6 118 yX6_isBetter := Or.inl wm_682
theorem lk_X6_122 : pp_Lk RX6 122 yX5_peaksFit := Or.inl wm_692
theorem lk_X6_126 : pp_Lk RX6 126 yX5_mostGain := Or.inl wm_697
theorem lk_X6_130 : pp_Lk RX6 130 yX6_partWith := Or.inl wm_737
theorem lk_X6_64 : pp_Lk RX6 64 yX6_clear := Or.inl wm_660
theorem lk_X6_67 : pp_Lk RX6 67 yX6_lengthen := Or.inl wm_666
theorem lk_X6_71 : pp_Lk RX6 71 yX6_bitOf := Or.inl wm_698
theorem lk_X6_77 : pp_Lk RX6 77 yX0_comeHome := Or.inl wm_665
theorem lk_X6_88 : pp_Lk RX6 88 yX6_judge := Or.inl wm_670
theorem lk_X6_92 : pp_Lk RX6 92 yX0_callAt := Or.inl wm_701
theorem lk_X7_27 : pp_Lk RX7 27 yX7_isLost := Or.inl wm_780
theorem lk_X7_31 : pp_Lk RX7 31 yX8_within := Or.inr (by decide +kernel)
theorem lk_X8_101 : pp_Lk RX8 101 yX1_mayBe := Or.inl wm_358
theorem lk_X8_108 : pp_Lk RX8 108 yX6_forget := Or.inl wm_363
theorem lk_X8_111 : pp_Lk RX8 111 yX8_isPlace := Or.inl wm_371
theorem lk_X8_117 : pp_Lk RX8 117 yX2_build := Or.inl wm_374
theorem lk_X8_124 : pp_Lk RX8 124 yX3_append := Or.inl wm_390
theorem lk_X8_130 : pp_Lk RX8 130 yX3_findFault := Or.inl wm_402
theorem lk_X8_134 : pp_Lk RX8 134 yX3_tellTo := Or.inl wm_431
theorem lk_X8_138 : pp_Lk RX8 138 yX8_isSheet := Or.inl wm_444
theorem lk_X8_141 : pp_Lk RX8 141 yX8_isFarm := Or.inl wm_447
theorem lk_X8_144 : pp_Lk RX8 144 yX7_isLost := Or.inl wm_448
theorem lk_X8_147 : pp_Lk RX8 147 yX7_found := Or.inl wm_452
theorem lk_X8_163 : pp_Lk RX8 163 yX4_take := Or.inl wm_457
theorem lk_X8_167 : pp_Lk RX8 167 yX8_isLevel := Or.inl wm_462
theorem lk_X8_170 : pp_Lk RX8 170 yX4_chanceOf := Or.inl wm_465
theorem lk_X8_177 : pp_Lk RX8 177 yX8_areFarms := Or.inl wm_477
theorem lk_X8_181 : pp_Lk RX8 181 yX1_weightOf := Or.inl wm_484
theorem lk_X8_185 : pp_Lk RX8 185 yX8_hours := Or.inl wm_492
theorem lk_X8_188 : pp_Lk RX8 188 yX2_hoursOf := Or.inl wm_496
theorem lk_X8_192 : pp_Lk RX8 192 yX8_isNumber := Or.inl wm_505
theorem lk_X8_195 : pp_Lk RX8 195 yX8_isTerm := Or.inl wm_508
theorem lk_X8_198 : pp_Lk RX8 198 yX8_refusal := Or.inl wm_511
theorem lk_X8_202 : pp_Lk RX8 202 yX0_sell := Or.inl wm_515
theorem lk_X8_206 : pp_Lk RX8 206 yX0_meanSold := Or.inl wm_522
theorem lk_X8_216 : pp_Lk RX8 216 yX8_term := Or.inl wm_527
theorem lk_X8_220 : pp_Lk RX8 220 yX0_goAlong := Or.inl wm_540
theorem lk_X8_224 : pp_Lk RX8 224 yX0_bestLevel := Or.inl wm_560
theorem lk_X8_232 : pp_Lk RX8 232 yX8_weighUp := Or.inl wm_569
theorem lk_X8_235 : pp_Lk RX8 235 yX5_gainOf := Or.inl wm_578
theorem lk_X8_239 : pp_Lk RX8 239 yX5_chooseBest := Or.inl wm_586
theorem lk_X8_246 : pp_Lk RX8 246 yX8_numberOrWeight := Or.inl wm_605
theorem lk_X8_249 : pp_Lk RX8 249 yX8_loadTerm := Or.inl wm_613
theorem lk_X8_253 : pp_Lk RX8 253 yX5_chooseLoaded := Or.inl wm_618
theorem lk_X8_259 : pp_Lk RX8 259 yX8_tooManyOpen := Or.inl wm_646
theorem lk_X8_263 : pp_Lk RX8 263 yX6_findRounds := Or.inl wm_656
theorem lk_X8_269 : pp_Lk RX8 269 yX6_bestSet := Or.inl wm_702
theorem lk_X8_272 : pp_Lk RX8 272 yX8_farmsOf := Or.inl wm_706
theorem lk_X8_275 : pp_Lk RX8 275 yX8_farmOf := Or.inl wm_709
theorem lk_X8_281 : pp_Lk RX8 281 yX6_findOnward := Or.inl wm_720
theorem lk_X8_287 : pp_Lk RX8 287 yX6_part := Or.inl wm_733
theorem lk_X8_300 : pp_Lk RX8 300 yX5_mostGain := Or.inl wm_617
theorem lk_X8_303 : pp_Lk RX8 303 yX5_leastBringing := Or.inl wm_753
theorem lk_X8_306 : pp_Lk RX8 306 yX8_isForm := Or.inl wm_761
theorem lk_X8_309 : pp_Lk RX8 309 yX7_renew := Or.inl wm_764
theorem lk_X8_312 : pp_Lk RX8 312 yX7_findingAt := Or.inl wm_776
theorem lk_X8_315 : pp_Lk RX8 315 yX7_lay := Or.inl wm_782
theorem lk_X8_324 : pp_Lk RX8 324 yX7_hasItems := Or.inl wm_795
theorem lk_X8_333 : pp_Lk RX8 333 yX2_countRoads := Or.inl wm_810
theorem lk_X8_336 : pp_Lk RX8 336 yX4_countChances := Or.inl wm_814
theorem lk_X8_346 : pp_Lk RX8 346 yX8_count := Or.inl wm_825
theorem lk_X8_349 : pp_Lk RX8 349 yX8_fault := Or.inl wm_826
theorem lk_X8_352 : pp_Lk RX8 352 yX8_judged := Or.inl wm_827
theorem lk_X8_361 : pp_Lk RX8 361 yX8_sharedDivisor := Or.inl wm_533
theorem lk_X8_365 : pp_Lk RX8 365 yJ6_bitCount_0f7a4 := Or.inl wm_650
theorem lk_X8_368 : pp_Lk RX8 368 yX5_weighGains := Or.inl wm_573
theorem lk_X8_372 : pp_Lk RX8 372 yX5_findBound := Or.inl wm_630
theorem lk_X8_93 : pp_Lk RX8 93 yX8_isThing := Or.inl wm_352
theorem lk_X8_97 : pp_Lk RX8 97 yX8_within := Or.inl wm_355
theorem lk_X9_114 : pp_Lk RX9 114 yX9_in := Or.inl wm_986
theorem lk_X9_118 : pp_Lk RX9 118 yX9_isThing := Or.inl wm_983
theorem lk_X9_122 : pp_Lk RX9 122 yX9_thingNow := Or.inl wm_989
theorem lk_X9_126 : pp_Lk RX9 126 yX9_isPlace := Or.inl wm_997
theorem lk_X9_129 : pp_Lk RX9 129 yX9_laysWays := Or.inl wm_1004
theorem lk_X9_141 : pp_Lk RX9 141 yX9_byteNow := Or.inl wm_1036
theorem lk_X9_145 : pp_Lk RX9 145 yX9_number := Or.inl wm_1032
theorem lk_X9_149 : pp_Lk RX9 149 yX9_expects := Or.inl wm_1040
theorem lk_X9_156 : pp_Lk RX9 156 yX9_part := Or.inl wm_1028
theorem lk_X9_159 : pp_Lk RX9 159 yX9_faultNow := Or.inl wm_1024
theorem lk_X9_162 : pp_Lk RX9 162 yX9_place := Or.inl wm_1048
theorem lk_X9_165 : pp_Lk RX9 165 yX9_isSheet := Or.inl wm_1055
theorem lk_X9_168 : pp_Lk RX9 168 yX9_isFarm := Or.inl wm_1058
theorem lk_X9_171 : pp_Lk RX9 171 yX9_meets := Or.inl wm_1061
theorem lk_X9_175 : pp_Lk RX9 175 yX9_chanceNow := Or.inl wm_1069
theorem lk_X9_181 : pp_Lk RX9 181 yX9_packWeight := Or.inl wm_1085
theorem lk_X9_187 : pp_Lk RX9 187 yX9_laysWorth := Or.inl wm_1101
theorem lk_X9_190 : pp_Lk RX9 190 yX9_spot := Or.inl wm_1105
theorem lk_X9_193 : pp_Lk RX9 193 yX9_sixteen := Or.inl wm_1108
theorem lk_X9_199 : pp_Lk RX9 199 yX9_looksAtRow := Or.inl wm_1097
theorem lk_X9_202 : pp_Lk RX9 202 yX9_hoursFrom := Or.inl wm_1112
theorem lk_X9_205 : pp_Lk RX9 205 yX9_hoursNow := Or.inl wm_1093
theorem lk_X9_208 : pp_Lk RX9 208 yX9_judgedNow := Or.inl wm_1120
theorem lk_X9_211 : pp_Lk RX9 211 yX9_no := Or.inl wm_1128
theorem lk_X9_214 : pp_Lk RX9 214 yX9_lowest := Or.inl wm_1132
theorem lk_X9_218 : pp_Lk RX9 218 yX9_gainOf := Or.inl wm_1151
theorem lk_X9_222 : pp_Lk RX9 222 yX9_gainNow := Or.inl wm_1147
theorem lk_X9_232 : pp_Lk RX9 232 yX9_packs := Or.inl wm_1163
theorem lk_X9_235 : pp_Lk RX9 235 yX9_weightOf := Or.inl wm_1168
theorem lk_X9_238 : pp_Lk RX9 238 yX9_bestNow := Or.inl wm_1159
theorem lk_X9_244 : pp_Lk RX9 244 yX9_loads := Or.inl wm_1180
theorem lk_X9_247 : pp_Lk RX9 247 yX9_loadedNow := Or.inl wm_1176
theorem lk_X9_250 : pp_Lk RX9 250 yX9_boundNow := Or.inl wm_1192
theorem lk_X9_253 : pp_Lk RX9 253 yX9_loadNow := Or.inl wm_1188
theorem lk_X9_265 : pp_Lk RX9 265 yX9_fives := Or.inl wm_1208
theorem lk_X9_268 : pp_Lk RX9 268 yX9_looksAt := Or.inl wm_1211
theorem lk_X9_271 : pp_Lk RX9 271 yX9_mostGain := Or.inl wm_1215
theorem lk_X9_274 : pp_Lk RX9 274 yX9_gathers := Or.inl wm_1200
theorem lk_X9_278 : pp_Lk RX9 278 yX9_goesRound := Or.inl wm_1204
theorem lk_X9_290 : pp_Lk RX9 290 yX9_parted := Or.inl wm_1235
theorem lk_X9_293 : pp_Lk RX9 293 yX9_bringsNow := Or.inl wm_1247
theorem lk_X9_296 : pp_Lk RX9 296 yX9_strapsNow := Or.inl wm_1255
theorem lk_X9_302 : pp_Lk RX9 302 yX9_lacks := Or.inl wm_1271
theorem lk_X9_305 : pp_Lk RX9 305 yX9_keep := Or.inl wm_1275
theorem lk_X9_310 : pp_Lk RX9 310 yX9_countNow := Or.inl wm_1296
theorem lk_X9_317 : pp_Lk RX9 317 yX9_count := Or.inl wm_1306
theorem uw_0 : ∀ w ∈ u_ws RX0 TX0 4, w ∈ pp_tb := by
  intro w hw
  obtain ⟨k, hk, rfl⟩ := List.mem_map.mp hw
  have hk2 := List.mem_range.mp hk
  match k, hk2 with
  | 0, _ => exact wm_198
  | 1, _ => exact wm_200
  | 2, _ => exact wm_202
  | 3, _ => exact wm_204
  | j + 4, hj => exact absurd hj (by omega)
theorem uw_1 : ∀ w ∈ u_ws RX1 TX1 1, w ∈ pp_tb := by
  intro w hw
  obtain ⟨k, hk, rfl⟩ := List.mem_map.mp hw
  have hk2 := List.mem_range.mp hk
  match k, hk2 with
  | 0, _ => exact wm_90
  | j + 1, hj => exact absurd hj (by omega)
theorem uw_2 : ∀ w ∈ u_ws RX2 TX2 2, w ∈ pp_tb := by
  intro w hw
  obtain ⟨k, hk, rfl⟩ := List.mem_map.mp hw
  have hk2 := List.mem_range.mp hk
  match k, hk2 with
  | 0, _ => exact wm_113
  | 1, _ => exact wm_115
  | j + 2, hj => exact absurd hj (by omega)
theorem uw_3 : ∀ w ∈ u_ws RX3 TX3 6, w ∈ pp_tb := by
  intro w hw
  obtain ⟨k, hk, rfl⟩ := List.mem_map.mp hw
  have hk2 := List.mem_range.mp hk
  match k, hk2 with
  | 0, _ => exact wm_146
  | 1, _ => exact wm_148
  | 2, _ => exact wm_150
  | 3, _ => exact wm_152
  | 4, _ => exact wm_154
  | 5, _ => exact wm_156
  | j + 6, hj => exact absurd hj (by omega)
theorem uw_4 : ∀ w ∈ u_ws RX4 TX4 2, w ∈ pp_tb := by
  intro w hw
  obtain ⟨k, hk, rfl⟩ := List.mem_map.mp hw
  have hk2 := List.mem_range.mp hk
  match k, hk2 with
  | 0, _ => exact wm_128
  | 1, _ => exact wm_130
  | j + 2, hj => exact absurd hj (by omega)
theorem uw_5 : ∀ w ∈ u_ws RX5 TX5 9, w ∈ pp_tb := by
  intro w hw
  obtain ⟨k, hk, rfl⟩ := List.mem_map.mp hw
  have hk2 := List.mem_range.mp hk
  match k, hk2 with
  | 0, _ => exact wm_228
  | 1, _ => exact wm_230
  | 2, _ => exact wm_232
  | 3, _ => exact wm_234
  | 4, _ => exact wm_236
  | 5, _ => exact wm_238
  | 6, _ => exact wm_240
  | 7, _ => exact wm_242
  | 8, _ => exact wm_244
  | j + 9, hj => exact absurd hj (by omega)
theorem uw_6 : ∀ w ∈ u_ws RX6 TX6 15, w ∈ pp_tb := by
  intro w hw
  obtain ⟨k, hk, rfl⟩ := List.mem_map.mp hw
  have hk2 := List.mem_range.mp hk
  match k, hk2 with
  | 0, _ => exact wm_274
  | 1, _ => exact wm_276
  | 2, _ => exact wm_278
  | 3, _ => exact wm_280
  | 4, _ => exact wm_282
  | 5, _ => exact wm_284
  | 6, _ => exact wm_286
  | 7, _ => exact wm_288
  | 8, _ => exact wm_290
  | 9, _ => exact wm_292
  | 10, _ => exact wm_294
  | 11, _ => exact wm_296
  | 12, _ => exact wm_298
  | 13, _ => exact wm_300
  | 14, _ => exact wm_302
  | j + 15, hj => exact absurd hj (by omega)
theorem uw_7 : ∀ w ∈ u_ws RX7 TX7 4, w ∈ pp_tb := by
  intro w hw
  obtain ⟨k, hk, rfl⟩ := List.mem_map.mp hw
  have hk2 := List.mem_range.mp hk
  match k, hk2 with
  | 0, _ => exact wm_174
  | 1, _ => exact wm_176
  | 2, _ => exact wm_178
  | 3, _ => exact wm_180
  | j + 4, hj => exact absurd hj (by omega)
theorem uw_8 : ∀ w ∈ u_ws RX8 TX8 14, w ∈ pp_tb := by
  intro w hw
  obtain ⟨k, hk, rfl⟩ := List.mem_map.mp hw
  have hk2 := List.mem_range.mp hk
  match k, hk2 with
  | 0, _ => exact wm_319
  | 1, _ => exact wm_321
  | 2, _ => exact wm_323
  | 3, _ => exact wm_325
  | 4, _ => exact wm_327
  | 5, _ => exact wm_329
  | 6, _ => exact wm_331
  | 7, _ => exact wm_333
  | 8, _ => exact wm_335
  | 9, _ => exact wm_337
  | 10, _ => exact wm_339
  | 11, _ => exact wm_341
  | 12, _ => exact wm_343
  | 13, _ => exact wm_345
  | j + 14, hj => exact absurd hj (by omega)
theorem uw_9 : ∀ w ∈ u_ws RX9 TX9 48, w ∈ pp_tb := by
  intro w hw
  obtain ⟨k, hk, rfl⟩ := List.mem_map.mp hw
  have hk2 := List.mem_range.mp hk
  match k, hk2 with
  | 0, _ => exact wm_882
  | 1, _ => exact wm_884
  | 2, _ => exact wm_886
  | 3, _ => exact wm_888
  | 4, _ => exact wm_890
  | 5, _ => exact wm_892
  | 6, _ => exact wm_894
  | 7, _ => exact wm_896
  | 8, _ => exact wm_898
  | 9, _ => exact wm_900
  | 10, _ => exact wm_902
  | 11, _ => exact wm_904
  | 12, _ => exact wm_906
  | 13, _ => exact wm_908
  | 14, _ => exact wm_910
  | 15, _ => exact wm_912
  | 16, _ => exact wm_914
  | 17, _ => exact wm_916
  | 18, _ => exact wm_918
  | 19, _ => exact wm_920
  | 20, _ => exact wm_922
  | 21, _ => exact wm_924
  | 22, _ => exact wm_926
  | 23, _ => exact wm_928
  | 24, _ => exact wm_930
  | 25, _ => exact wm_932
  | 26, _ => exact wm_934
  | 27, _ => exact wm_936
  | 28, _ => exact wm_938
  | 29, _ => exact wm_940
  | 30, _ => exact wm_942
  | 31, _ => exact wm_944
  | 32, _ => exact wm_946
  | 33, _ => exact wm_948
  | 34, _ => exact wm_950
  | 35, _ => exact wm_952
  | 36, _ => exact wm_954
  | 37, _ => exact wm_956
  | 38, _ => exact wm_958
  | 39, _ => exact wm_960
  | 40, _ => exact wm_962
  | 41, _ => exact wm_964
  | 42, _ => exact wm_966
  | 43, _ => exact wm_968
  | 44, _ => exact wm_970
  | 45, _ => exact wm_972
  | 46, _ => exact wm_974
  | 47, _ => exact wm_976
  | j + 48, hj => exact absurd hj (by omega)
theorem okK : pp_ok dsK := by unfold pp_ok; decide +kernel
theorem okM : pp_ok dsM := by unfold pp_ok; decide +kernel
theorem okN : pp_ok dsN := by unfold pp_ok; decide +kernel
theorem vK_2 : pp_oi dsK 2 6 6 3 := ⟨by decide, rfl⟩
theorem vK_3 : ∀ i, i < 6 → pp_ai dsK 3 (i * 6) 6 := fun i hi => ⟨(by decide : ∀ i, i < 6 → (3, i * 6) ∈ dsK) i hi, rfl⟩
theorem vK_5 : pp_oi dsK 5 8 8 6 := ⟨by decide, rfl⟩
theorem vK_6 : ∀ i, i < 8 → pp_ai dsK 6 (i * 8) 8 := fun i hi => ⟨(by decide : ∀ i, i < 8 → (6, i * 8) ∈ dsK) i hi, rfl⟩
theorem vK_7 : pp_oi dsK 7 8 8 8 := ⟨by decide, rfl⟩
theorem vK_8 : ∀ i, i < 8 → pp_ai dsK 8 (i * 8) 8 := fun i hi => ⟨(by decide : ∀ i, i < 8 → (8, i * 8) ∈ dsK) i hi, rfl⟩
theorem vK_10 : pp_oi dsK 10 48 3 11 := ⟨by decide, rfl⟩
theorem vK_11 : ∀ i, i < 48 → pp_ai dsK 11 (i * 3) 3 := fun i hi => ⟨(by decide : ∀ i, i < 48 → (11, i * 3) ∈ dsK) i hi, rfl⟩
theorem vK_12 : pp_ai dsK 12 0 6 := ⟨by decide, rfl⟩
theorem vK_14 : pp_ai dsK 14 0 40 := ⟨by decide, rfl⟩
theorem vK_15 : pp_ai dsK 15 0 3 := ⟨by decide, rfl⟩
theorem vK_17 : pp_oi dsK 17 4 40 18 := ⟨by decide, rfl⟩
theorem vK_18 : ∀ i, i < 4 → pp_ai dsK 18 (i * 40) 40 := fun i hi => ⟨(by decide : ∀ i, i < 4 → (18, i * 40) ∈ dsK) i hi, rfl⟩
theorem vK_19 : pp_ai dsK 19 0 4 := ⟨by decide, rfl⟩
theorem vK_20 : pp_ai dsK 20 0 4 := ⟨by decide, rfl⟩
theorem vK_22 : pp_ol dsK 22 8 30 23 := ⟨by decide, rfl⟩
theorem vK_23 : ∀ i, i < 8 → pp_al dsK 23 (i * 30) 30 := fun i hi => ⟨(by decide : ∀ i, i < 8 → (23, i * 30) ∈ dsK) i hi, rfl⟩
theorem vK_24 : pp_al dsK 24 0 5 := ⟨by decide, rfl⟩
theorem vK_26 : pp_ol dsK 26 6 5 27 := ⟨by decide, rfl⟩
theorem vK_27 : ∀ i, i < 6 → pp_al dsK 27 (i * 5) 5 := fun i hi => ⟨(by decide : ∀ i, i < 6 → (27, i * 5) ∈ dsK) i hi, rfl⟩
theorem vK_28 : pp_ai dsK 28 0 6 := ⟨by decide, rfl⟩
theorem vK_29 : pp_ol dsK 29 7 101 30 := ⟨by decide, rfl⟩
theorem vK_30 : ∀ i, i < 7 → pp_al dsK 30 (i * 101) 101 := fun i hi => ⟨(by decide : ∀ i, i < 7 → (30, i * 101) ∈ dsK) i hi, rfl⟩
theorem vK_31 : pp_az dsK 31 0 24 := ⟨by decide, rfl⟩
theorem vK_32 : pp_ai dsK 32 0 6 := ⟨by decide, rfl⟩
theorem vK_33 : pp_ai dsK 33 0 6 := ⟨by decide, rfl⟩
theorem vK_34 : pp_ai dsK 34 0 7 := ⟨by decide, rfl⟩
theorem vK_35 : pp_ai dsK 35 0 6 := ⟨by decide, rfl⟩
theorem vK_37 : pp_al dsK 37 0 128 := ⟨by decide, rfl⟩
theorem vK_38 : pp_ai dsK 38 0 128 := ⟨by decide, rfl⟩
theorem vM_41 : pp_ai dsM 41 0 6 := ⟨by decide, rfl⟩
theorem vM_42 : pp_ai dsM 42 0 6 := ⟨by decide, rfl⟩
theorem vM_43 : pp_ai dsM 43 0 6 := ⟨by decide, rfl⟩
theorem vM_44 : pp_ai dsM 44 0 18 := ⟨by decide, rfl⟩
theorem vM_45 : pp_ai dsM 45 0 64 := ⟨by decide, rfl⟩
theorem vM_46 : pp_ai dsM 46 0 64 := ⟨by decide, rfl⟩
theorem vM_47 : pp_ai dsM 47 0 144 := ⟨by decide, rfl⟩
theorem vM_48 : pp_ai dsM 48 0 6 := ⟨by decide, rfl⟩
theorem vM_49 : pp_ai dsM 49 0 40 := ⟨by decide, rfl⟩
theorem vM_50 : pp_ai dsM 50 0 10 := ⟨by decide, rfl⟩
theorem vM_51 : pp_ai dsM 51 0 10 := ⟨by decide, rfl⟩
theorem vM_52 : pp_ai dsM 52 0 30 := ⟨by decide, rfl⟩
theorem vM_53 : pp_ai dsM 53 0 7 := ⟨by decide, rfl⟩
theorem vM_54 : pp_ai dsM 54 0 6 := ⟨by decide, rfl⟩
theorem vM_55 : pp_ai dsM 55 0 7 := ⟨by decide, rfl⟩
theorem vM_56 : pp_al dsM 56 0 240 := ⟨by decide, rfl⟩
theorem vM_57 : pp_ai dsM 57 0 240 := ⟨by decide, rfl⟩
theorem vM_58 : pp_al dsM 58 0 5 := ⟨by decide, rfl⟩
theorem vM_59 : pp_ai dsM 59 0 6 := ⟨by decide, rfl⟩
theorem vM_60 : pp_ai dsM 60 0 6 := ⟨by decide, rfl⟩
theorem vM_61 : pp_ai dsM 61 0 7 := ⟨by decide, rfl⟩
theorem vM_62 : pp_al dsM 62 0 101 := ⟨by decide, rfl⟩
theorem vM_63 : pp_ai dsM 63 0 5 := ⟨by decide, rfl⟩
theorem vM_64 : pp_al dsM 64 0 32 := ⟨by decide, rfl⟩
theorem vM_65 : pp_ai dsM 65 0 6 := ⟨by decide, rfl⟩
theorem vM_66 : pp_az dsM 66 0 4 := ⟨by decide, rfl⟩
theorem vM_67 : pp_ai dsM 67 0 4 := ⟨by decide, rfl⟩
theorem vM_68 : pp_ai dsM 68 0 4 := ⟨by decide, rfl⟩
theorem vM_69 : pp_ai dsM 69 0 160 := ⟨by decide, rfl⟩
theorem vM_70 : pp_ai dsM 70 0 40 := ⟨by decide, rfl⟩
theorem vN_5 : pp_oi dsN 5 8 8 6 := ⟨by decide, rfl⟩
theorem vN_6 : ∀ i, i < 8 → pp_ai dsN 6 (i * 8) 8 := fun i hi => ⟨(by decide : ∀ i, i < 8 → (6, i * 8) ∈ dsN) i hi, rfl⟩
theorem vN_7 : pp_oi dsN 7 8 8 8 := ⟨by decide, rfl⟩
theorem vN_8 : ∀ i, i < 8 → pp_ai dsN 8 (i * 8) 8 := fun i hi => ⟨(by decide : ∀ i, i < 8 → (8, i * 8) ∈ dsN) i hi, rfl⟩
theorem obK_0 : pp_ob dsK 0 RX8 := ⟨8, 14, TX8, _, by decide, rfl, rfl⟩
theorem obK_1 : pp_ob dsK 1 RX1 := ⟨1, 1, TX1, _, by decide, rfl, rfl⟩
theorem obK_4 : pp_ob dsK 4 RX2 := ⟨2, 2, TX2, _, by decide, rfl, rfl⟩
theorem obK_9 : pp_ob dsK 9 RX4 := ⟨4, 2, TX4, _, by decide, rfl, rfl⟩
theorem obK_13 : pp_ob dsK 13 RX3 := ⟨3, 6, TX3, _, by decide, rfl, rfl⟩
theorem obK_16 : pp_ob dsK 16 RX7 := ⟨7, 4, TX7, _, by decide, rfl, rfl⟩
theorem obK_21 : pp_ob dsK 21 RX0 := ⟨0, 4, TX0, _, by decide, rfl, rfl⟩
theorem obK_25 : pp_ob dsK 25 RX5 := ⟨5, 9, TX5, _, by decide, rfl, rfl⟩
theorem obK_36 : pp_ob dsK 36 RX6 := ⟨6, 15, TX6, _, by decide, rfl, rfl⟩
theorem obM_40 : pp_ob dsM 40 RX9 := ⟨9, 48, TX9, _, by decide, rfl, rfl⟩
theorem fdK_X0_11 : pp_Fd dsK RX0 11 21 2 (2, 22, 0, 8) := ⟨RX0, TX0, 4, 0, _, by decide, rfl, uw_0, rfl, by decide, rfl, rfl, wm_193⟩
theorem fdK_X0_16 : pp_Fd dsK RX0 16 21 3 (2, 24, 0, 5) := ⟨RX0, TX0, 4, 0, _, by decide, rfl, uw_0, rfl, by decide, rfl, rfl, wm_196⟩
theorem fdK_X0_20 : pp_Fd dsK RX0 20 21 0 (2, 1, 0, 0) := ⟨RX0, TX0, 4, 0, _, by decide, rfl, uw_0, rfl, by decide, rfl, rfl, wm_191⟩
theorem fdK_X0_24 : pp_Fd dsK RX0 24 21 1 (2, 9, 0, 0) := ⟨RX0, TX0, 4, 0, _, by decide, rfl, uw_0, rfl, by decide, rfl, rfl, wm_192⟩
theorem fdK_X0_35 : pp_Fd dsK RX0 35 1 0 (2, 2, 0, 6) := ⟨RX1, TX1, 1, 1, _, by decide, rfl, uw_1, rfl, by decide, rfl, rfl, wm_89⟩
theorem fdK_X1_11 : pp_Fd dsK RX1 11 1 0 (2, 2, 0, 6) := ⟨RX1, TX1, 1, 1, _, by decide, rfl, uw_1, rfl, by decide, rfl, rfl, wm_86⟩
theorem fdK_X2_11 : pp_Fd dsK RX2 11 4 0 (2, 5, 0, 8) := ⟨RX2, TX2, 2, 2, _, by decide, rfl, uw_2, rfl, by decide, rfl, rfl, wm_108⟩
theorem fdK_X2_16 : pp_Fd dsK RX2 16 4 1 (2, 7, 0, 8) := ⟨RX2, TX2, 2, 2, _, by decide, rfl, uw_2, rfl, by decide, rfl, rfl, wm_110⟩
theorem fdK_X3_15 : pp_Fd dsK RX3 15 13 1 (2, 15, 0, 3) := ⟨RX3, TX3, 6, 3, _, by decide, rfl, uw_3, rfl, by decide, rfl, rfl, wm_140⟩
theorem fdK_X3_18 : pp_Fd dsK RX3 18 13 2 (0, 0, 0, 0) := ⟨RX3, TX3, 6, 3, _, by decide, rfl, uw_3, rfl, by decide, rfl, rfl, wm_141⟩
theorem fdK_X3_22 : pp_Fd dsK RX3 22 13 3 (0, 0, 0, 0) := ⟨RX3, TX3, 6, 3, _, by decide, rfl, uw_3, rfl, by decide, rfl, rfl, wm_142⟩
theorem fdK_X3_25 : pp_Fd dsK RX3 25 13 4 (0, 0, 0, 0) := ⟨RX3, TX3, 6, 3, _, by decide, rfl, uw_3, rfl, by decide, rfl, rfl, wm_143⟩
theorem fdK_X3_28 : pp_Fd dsK RX3 28 13 5 (0, 0, 0, 0) := ⟨RX3, TX3, 6, 3, _, by decide, rfl, uw_3, rfl, by decide, rfl, rfl, wm_144⟩
theorem fdK_X3_9 : pp_Fd dsK RX3 9 13 0 (2, 14, 0, 40) := ⟨RX3, TX3, 6, 3, _, by decide, rfl, uw_3, rfl, by decide, rfl, rfl, wm_139⟩
theorem fdK_X4_11 : pp_Fd dsK RX4 11 9 0 (2, 10, 0, 48) := ⟨RX4, TX4, 2, 4, _, by decide, rfl, uw_4, rfl, by decide, rfl, rfl, wm_125⟩
theorem fdK_X4_16 : pp_Fd dsK RX4 16 9 1 (2, 12, 0, 6) := ⟨RX4, TX4, 2, 4, _, by decide, rfl, uw_4, rfl, by decide, rfl, rfl, wm_126⟩
theorem fdK_X5_11 : pp_Fd dsK RX5 11 25 1 (2, 26, 0, 6) := ⟨RX5, TX5, 9, 5, _, by decide, rfl, uw_5, rfl, by decide, rfl, rfl, wm_216⟩
theorem fdK_X5_16 : pp_Fd dsK RX5 16 25 2 (2, 28, 0, 6) := ⟨RX5, TX5, 9, 5, _, by decide, rfl, uw_5, rfl, by decide, rfl, rfl, wm_217⟩
theorem fdK_X5_20 : pp_Fd dsK RX5 20 25 3 (2, 29, 0, 7) := ⟨RX5, TX5, 9, 5, _, by decide, rfl, uw_5, rfl, by decide, rfl, rfl, wm_218⟩
theorem fdK_X5_23 : pp_Fd dsK RX5 23 25 4 (2, 31, 0, 24) := ⟨RX5, TX5, 9, 5, _, by decide, rfl, uw_5, rfl, by decide, rfl, rfl, wm_219⟩
theorem fdK_X5_27 : pp_Fd dsK RX5 27 25 5 (2, 32, 0, 6) := ⟨RX5, TX5, 9, 5, _, by decide, rfl, uw_5, rfl, by decide, rfl, rfl, wm_220⟩
theorem fdK_X5_30 : pp_Fd dsK RX5 30 25 6 (2, 33, 0, 6) := ⟨RX5, TX5, 9, 5, _, by decide, rfl, uw_5, rfl, by decide, rfl, rfl, wm_222⟩
theorem fdK_X5_33 : pp_Fd dsK RX5 33 25 7 (1, 0, 0, 0) := ⟨RX5, TX5, 9, 5, _, by decide, rfl, uw_5, rfl, by decide, rfl, rfl, wm_224⟩
theorem fdK_X5_40 : pp_Fd dsK RX5 40 25 0 (2, 1, 0, 0) := ⟨RX5, TX5, 9, 5, _, by decide, rfl, uw_5, rfl, by decide, rfl, rfl, wm_215⟩
theorem fdK_X5_44 : pp_Fd dsK RX5 44 1 0 (2, 2, 0, 6) := ⟨RX1, TX1, 1, 1, _, by decide, rfl, uw_1, rfl, by decide, rfl, rfl, wm_88⟩
theorem fdK_X6_15 : pp_Fd dsK RX6 15 36 5 (2, 38, 0, 128) := ⟨RX6, TX6, 15, 6, _, by decide, rfl, uw_6, rfl, by decide, rfl, rfl, wm_260⟩
theorem fdK_X6_19 : pp_Fd dsK RX6 19 36 6 (0, 0, 0, 0) := ⟨RX6, TX6, 15, 6, _, by decide, rfl, uw_6, rfl, by decide, rfl, rfl, wm_262⟩
theorem fdK_X6_23 : pp_Fd dsK RX6 23 36 7 (0, 0, 0, 0) := ⟨RX6, TX6, 15, 6, _, by decide, rfl, uw_6, rfl, by decide, rfl, rfl, wm_263⟩
theorem fdK_X6_26 : pp_Fd dsK RX6 26 36 8 (0, 0, 0, 0) := ⟨RX6, TX6, 15, 6, _, by decide, rfl, uw_6, rfl, by decide, rfl, rfl, wm_264⟩
theorem fdK_X6_30 : pp_Fd dsK RX6 30 36 9 (0, 0, 0, 0) := ⟨RX6, TX6, 15, 6, _, by decide, rfl, uw_6, rfl, by decide, rfl, rfl, wm_265⟩
theorem fdK_X6_33 : pp_Fd dsK RX6 33 36 10 (0, 0, 0, 0) := ⟨RX6, TX6, 15, 6, _, by decide, rfl, uw_6, rfl, by decide, rfl, rfl, wm_266⟩
theorem fdK_X6_36 : pp_Fd dsK RX6 36 36 11 (0, 0, 0, 0) := ⟨RX6, TX6, 15, 6, _, by decide, rfl, uw_6, rfl, by decide, rfl, rfl, wm_267⟩
theorem fdK_X6_45 : pp_Fd dsK RX6 45 36 14 (1, 0, 0, 0) := ⟨RX6, TX6, 15, 6, _, by decide, rfl, uw_6, rfl, by decide, rfl, rfl, wm_272⟩
theorem fdK_X6_49 : pp_Fd dsK RX6 49 36 0 (2, 4, 0, 0) := ⟨RX6, TX6, 15, 6, _, by decide, rfl, uw_6, rfl, by decide, rfl, rfl, wm_254⟩
theorem fdK_X6_53 : pp_Fd dsK RX6 53 36 1 (2, 21, 0, 0) := ⟨RX6, TX6, 15, 6, _, by decide, rfl, uw_6, rfl, by decide, rfl, rfl, wm_255⟩
theorem fdK_X6_57 : pp_Fd dsK RX6 57 36 2 (2, 25, 0, 0) := ⟨RX6, TX6, 15, 6, _, by decide, rfl, uw_6, rfl, by decide, rfl, rfl, wm_256⟩
theorem fdK_X6_61 : pp_Fd dsK RX6 61 36 3 (2, 35, 0, 6) := ⟨RX6, TX6, 15, 6, _, by decide, rfl, uw_6, rfl, by decide, rfl, rfl, wm_257⟩
theorem fdK_X6_82 : pp_Fd dsK RX6 82 4 1 (2, 7, 0, 8) := ⟨RX2, TX2, 2, 2, _, by decide, rfl, uw_2, rfl, by decide, rfl, rfl, wm_112⟩
theorem fdK_X6_9 : pp_Fd dsK RX6 9 36 4 (2, 37, 0, 128) := ⟨RX6, TX6, 15, 6, _, by decide, rfl, uw_6, rfl, by decide, rfl, rfl, wm_258⟩
theorem fdK_X6_96 : pp_Fd dsK RX6 96 21 2 (2, 22, 0, 8) := ⟨RX0, TX0, 4, 0, _, by decide, rfl, uw_0, rfl, by decide, rfl, rfl, wm_194⟩
theorem fdK_X7_11 : pp_Fd dsK RX7 11 16 0 (2, 17, 0, 4) := ⟨RX7, TX7, 4, 7, _, by decide, rfl, uw_7, rfl, by decide, rfl, rfl, wm_166⟩
theorem fdK_X7_16 : pp_Fd dsK RX7 16 16 1 (2, 19, 0, 4) := ⟨RX7, TX7, 4, 7, _, by decide, rfl, uw_7, rfl, by decide, rfl, rfl, wm_168⟩
theorem fdK_X7_20 : pp_Fd dsK RX7 20 16 2 (2, 20, 0, 4) := ⟨RX7, TX7, 4, 7, _, by decide, rfl, uw_7, rfl, by decide, rfl, rfl, wm_170⟩
theorem fdK_X8_104 : pp_Fd dsK RX8 104 1 0 (2, 2, 0, 6) := ⟨RX1, TX1, 1, 1, _, by decide, rfl, uw_1, rfl, by decide, rfl, rfl, wm_87⟩
theorem fdK_X8_114 : pp_Fd dsK RX8 114 4 0 (2, 5, 0, 8) := ⟨RX2, TX2, 2, 2, _, by decide, rfl, uw_2, rfl, by decide, rfl, rfl, wm_109⟩
theorem fdK_X8_121 : pp_Fd dsK RX8 121 4 1 (2, 7, 0, 8) := ⟨RX2, TX2, 2, 2, _, by decide, rfl, uw_2, rfl, by decide, rfl, rfl, wm_111⟩
theorem fdK_X8_127 : pp_Fd dsK RX8 127 13 5 (0, 0, 0, 0) := ⟨RX3, TX3, 6, 3, _, by decide, rfl, uw_3, rfl, by decide, rfl, rfl, wm_145⟩
theorem fdK_X8_14 : pp_Fd dsK RX8 14 0 0 (2, 1, 0, 0) := ⟨RX8, TX8, 14, 8, _, by decide, rfl, uw_8, rfl, by decide, rfl, rfl, wm_305⟩
theorem fdK_X8_151 : pp_Fd dsK RX8 151 16 2 (2, 20, 0, 4) := ⟨RX7, TX7, 4, 7, _, by decide, rfl, uw_7, rfl, by decide, rfl, rfl, wm_171⟩
theorem fdK_X8_160 : pp_Fd dsK RX8 160 16 0 (2, 17, 0, 4) := ⟨RX7, TX7, 4, 7, _, by decide, rfl, uw_7, rfl, by decide, rfl, rfl, wm_167⟩
theorem fdK_X8_174 : pp_Fd dsK RX8 174 9 1 (2, 12, 0, 6) := ⟨RX4, TX4, 2, 4, _, by decide, rfl, uw_4, rfl, by decide, rfl, rfl, wm_127⟩
theorem fdK_X8_21 : pp_Fd dsK RX8 21 0 1 (2, 4, 0, 0) := ⟨RX8, TX8, 14, 8, _, by decide, rfl, uw_8, rfl, by decide, rfl, rfl, wm_306⟩
theorem fdK_X8_210 : pp_Fd dsK RX8 210 21 3 (2, 24, 0, 5) := ⟨RX0, TX0, 4, 0, _, by decide, rfl, uw_0, rfl, by decide, rfl, rfl, wm_197⟩
theorem fdK_X8_228 : pp_Fd dsK RX8 228 21 2 (2, 22, 0, 8) := ⟨RX0, TX0, 4, 0, _, by decide, rfl, uw_0, rfl, by decide, rfl, rfl, wm_195⟩
theorem fdK_X8_243 : pp_Fd dsK RX8 243 25 5 (2, 32, 0, 6) := ⟨RX5, TX5, 9, 5, _, by decide, rfl, uw_5, rfl, by decide, rfl, rfl, wm_221⟩
theorem fdK_X8_256 : pp_Fd dsK RX8 256 25 6 (2, 33, 0, 6) := ⟨RX5, TX5, 9, 5, _, by decide, rfl, uw_5, rfl, by decide, rfl, rfl, wm_223⟩
theorem fdK_X8_266 : pp_Fd dsK RX8 266 36 5 (2, 38, 0, 128) := ⟨RX6, TX6, 15, 6, _, by decide, rfl, uw_6, rfl, by decide, rfl, rfl, wm_261⟩
theorem fdK_X8_278 : pp_Fd dsK RX8 278 36 4 (2, 37, 0, 128) := ⟨RX6, TX6, 15, 6, _, by decide, rfl, uw_6, rfl, by decide, rfl, rfl, wm_259⟩
theorem fdK_X8_28 : pp_Fd dsK RX8 28 0 2 (2, 9, 0, 0) := ⟨RX8, TX8, 14, 8, _, by decide, rfl, uw_8, rfl, by decide, rfl, rfl, wm_307⟩
theorem fdK_X8_290 : pp_Fd dsK RX8 290 36 12 (0, 0, 0, 0) := ⟨RX6, TX6, 15, 6, _, by decide, rfl, uw_6, rfl, by decide, rfl, rfl, wm_269⟩
theorem fdK_X8_293 : pp_Fd dsK RX8 293 36 13 (0, 0, 0, 0) := ⟨RX6, TX6, 15, 6, _, by decide, rfl, uw_6, rfl, by decide, rfl, rfl, wm_271⟩
theorem fdK_X8_296 : pp_Fd dsK RX8 296 36 14 (1, 0, 0, 0) := ⟨RX6, TX6, 15, 6, _, by decide, rfl, uw_6, rfl, by decide, rfl, rfl, wm_273⟩
theorem fdK_X8_321 : pp_Fd dsK RX8 321 16 1 (2, 19, 0, 4) := ⟨RX7, TX7, 4, 7, _, by decide, rfl, uw_7, rfl, by decide, rfl, rfl, wm_169⟩
theorem fdK_X8_339 : pp_Fd dsK RX8 339 16 3 (0, 0, 0, 0) := ⟨RX7, TX7, 4, 7, _, by decide, rfl, uw_7, rfl, by decide, rfl, rfl, wm_173⟩
theorem fdK_X8_35 : pp_Fd dsK RX8 35 0 3 (2, 13, 0, 0) := ⟨RX8, TX8, 14, 8, _, by decide, rfl, uw_8, rfl, by decide, rfl, rfl, wm_308⟩
theorem fdK_X8_375 : pp_Fd dsK RX8 375 25 7 (1, 0, 0, 0) := ⟨RX5, TX5, 9, 5, _, by decide, rfl, uw_5, rfl, by decide, rfl, rfl, wm_225⟩
theorem fdK_X8_378 : pp_Fd dsK RX8 378 25 8 (1, 0, 0, 0) := ⟨RX5, TX5, 9, 5, _, by decide, rfl, uw_5, rfl, by decide, rfl, rfl, wm_227⟩
theorem fdK_X8_42 : pp_Fd dsK RX8 42 0 4 (2, 16, 0, 0) := ⟨RX8, TX8, 14, 8, _, by decide, rfl, uw_8, rfl, by decide, rfl, rfl, wm_309⟩
theorem fdK_X8_51 : pp_Fd dsK RX8 51 0 5 (2, 21, 0, 0) := ⟨RX8, TX8, 14, 8, _, by decide, rfl, uw_8, rfl, by decide, rfl, rfl, wm_310⟩
theorem fdK_X8_60 : pp_Fd dsK RX8 60 0 6 (2, 25, 0, 0) := ⟨RX8, TX8, 14, 8, _, by decide, rfl, uw_8, rfl, by decide, rfl, rfl, wm_311⟩
theorem fdK_X8_64 : pp_Fd dsK RX8 64 0 7 (2, 34, 0, 7) := ⟨RX8, TX8, 14, 8, _, by decide, rfl, uw_8, rfl, by decide, rfl, rfl, wm_312⟩
theorem fdK_X8_68 : pp_Fd dsK RX8 68 0 8 (2, 35, 0, 6) := ⟨RX8, TX8, 14, 8, _, by decide, rfl, uw_8, rfl, by decide, rfl, rfl, wm_313⟩
theorem fdK_X8_76 : pp_Fd dsK RX8 76 0 9 (2, 36, 0, 0) := ⟨RX8, TX8, 14, 8, _, by decide, rfl, uw_8, rfl, by decide, rfl, rfl, wm_314⟩
theorem fdK_X8_80 : pp_Fd dsK RX8 80 0 10 (0, 0, 0, 0) := ⟨RX8, TX8, 14, 8, _, by decide, rfl, uw_8, rfl, by decide, rfl, rfl, wm_315⟩
theorem fdK_X8_84 : pp_Fd dsK RX8 84 0 11 (0, 0, 0, 0) := ⟨RX8, TX8, 14, 8, _, by decide, rfl, uw_8, rfl, by decide, rfl, rfl, wm_316⟩
theorem fdK_X8_87 : pp_Fd dsK RX8 87 0 12 (0, 0, 0, 0) := ⟨RX8, TX8, 14, 8, _, by decide, rfl, uw_8, rfl, by decide, rfl, rfl, wm_317⟩
theorem fdK_X8_90 : pp_Fd dsK RX8 90 0 13 (0, 0, 0, 0) := ⟨RX8, TX8, 14, 8, _, by decide, rfl, uw_8, rfl, by decide, rfl, rfl, wm_318⟩
theorem fdM_X9_100 : pp_Fd dsM RX9 100 40 43 (2, 67, 0, 4) := ⟨RX9, TX9, 48, 9, _, by decide, rfl, uw_9, rfl, by decide, rfl, rfl, wm_877⟩
theorem fdM_X9_103 : pp_Fd dsM RX9 103 40 44 (2, 68, 0, 4) := ⟨RX9, TX9, 48, 9, _, by decide, rfl, uw_9, rfl, by decide, rfl, rfl, wm_878⟩
theorem fdM_X9_106 : pp_Fd dsM RX9 106 40 45 (2, 69, 0, 160) := ⟨RX9, TX9, 48, 9, _, by decide, rfl, uw_9, rfl, by decide, rfl, rfl, wm_879⟩
theorem fdM_X9_109 : pp_Fd dsM RX9 109 40 46 (2, 70, 0, 40) := ⟨RX9, TX9, 48, 9, _, by decide, rfl, uw_9, rfl, by decide, rfl, rfl, wm_880⟩
theorem fdM_X9_13 : pp_Fd dsM RX9 13 40 1 (2, 42, 0, 6) := ⟨RX9, TX9, 48, 9, _, by decide, rfl, uw_9, rfl, by decide, rfl, rfl, wm_835⟩
theorem fdM_X9_132 : pp_Fd dsM RX9 132 40 11 (0, 0, 0, 0) := ⟨RX9, TX9, 48, 9, _, by decide, rfl, uw_9, rfl, by decide, rfl, rfl, wm_845⟩
theorem fdM_X9_135 : pp_Fd dsM RX9 135 40 13 (0, 0, 0, 0) := ⟨RX9, TX9, 48, 9, _, by decide, rfl, uw_9, rfl, by decide, rfl, rfl, wm_847⟩
theorem fdM_X9_138 : pp_Fd dsM RX9 138 40 14 (0, 0, 0, 0) := ⟨RX9, TX9, 48, 9, _, by decide, rfl, uw_9, rfl, by decide, rfl, rfl, wm_848⟩
theorem fdM_X9_153 : pp_Fd dsM RX9 153 40 15 (0, 0, 0, 0) := ⟨RX9, TX9, 48, 9, _, by decide, rfl, uw_9, rfl, by decide, rfl, rfl, wm_849⟩
theorem fdM_X9_16 : pp_Fd dsM RX9 16 40 2 (2, 43, 0, 6) := ⟨RX9, TX9, 48, 9, _, by decide, rfl, uw_9, rfl, by decide, rfl, rfl, wm_836⟩
theorem fdM_X9_178 : pp_Fd dsM RX9 178 40 19 (0, 0, 0, 0) := ⟨RX9, TX9, 48, 9, _, by decide, rfl, uw_9, rfl, by decide, rfl, rfl, wm_853⟩
theorem fdM_X9_184 : pp_Fd dsM RX9 184 40 22 (0, 0, 0, 0) := ⟨RX9, TX9, 48, 9, _, by decide, rfl, uw_9, rfl, by decide, rfl, rfl, wm_856⟩
theorem fdM_X9_19 : pp_Fd dsM RX9 19 40 3 (2, 44, 0, 18) := ⟨RX9, TX9, 48, 9, _, by decide, rfl, uw_9, rfl, by decide, rfl, rfl, wm_837⟩
theorem fdM_X9_22 : pp_Fd dsM RX9 22 40 4 (2, 45, 0, 64) := ⟨RX9, TX9, 48, 9, _, by decide, rfl, uw_9, rfl, by decide, rfl, rfl, wm_838⟩
theorem fdM_X9_228 : pp_Fd dsM RX9 228 40 28 (1, 0, 0, 0) := ⟨RX9, TX9, 48, 9, _, by decide, rfl, uw_9, rfl, by decide, rfl, rfl, wm_862⟩
theorem fdM_X9_241 : pp_Fd dsM RX9 241 40 30 (0, 0, 0, 0) := ⟨RX9, TX9, 48, 9, _, by decide, rfl, uw_9, rfl, by decide, rfl, rfl, wm_864⟩
theorem fdM_X9_25 : pp_Fd dsM RX9 25 40 5 (2, 46, 0, 64) := ⟨RX9, TX9, 48, 9, _, by decide, rfl, uw_9, rfl, by decide, rfl, rfl, wm_839⟩
theorem fdM_X9_256 : pp_Fd dsM RX9 256 40 32 (0, 0, 0, 0) := ⟨RX9, TX9, 48, 9, _, by decide, rfl, uw_9, rfl, by decide, rfl, rfl, wm_866⟩
theorem fdM_X9_259 : pp_Fd dsM RX9 259 40 34 (0, 0, 0, 0) := ⟨RX9, TX9, 48, 9, _, by decide, rfl, uw_9, rfl, by decide, rfl, rfl, wm_868⟩
theorem fdM_X9_262 : pp_Fd dsM RX9 262 40 36 (1, 0, 0, 0) := ⟨RX9, TX9, 48, 9, _, by decide, rfl, uw_9, rfl, by decide, rfl, rfl, wm_870⟩
theorem fdM_X9_28 : pp_Fd dsM RX9 28 40 6 (0, 0, 0, 0) := ⟨RX9, TX9, 48, 9, _, by decide, rfl, uw_9, rfl, by decide, rfl, rfl, wm_840⟩
theorem fdM_X9_281 : pp_Fd dsM RX9 281 40 40 (1, 0, 0, 0) := ⟨RX9, TX9, 48, 9, _, by decide, rfl, uw_9, rfl, by decide, rfl, rfl, wm_874⟩
theorem fdM_X9_284 : pp_Fd dsM RX9 284 40 38 (0, 0, 0, 0) := ⟨RX9, TX9, 48, 9, _, by decide, rfl, uw_9, rfl, by decide, rfl, rfl, wm_872⟩
theorem fdM_X9_287 : pp_Fd dsM RX9 287 40 39 (0, 0, 0, 0) := ⟨RX9, TX9, 48, 9, _, by decide, rfl, uw_9, rfl, by decide, rfl, rfl, wm_873⟩
theorem fdM_X9_299 : pp_Fd dsM RX9 299 40 47 (0, 0, 0, 0) := ⟨RX9, TX9, 48, 9, _, by decide, rfl, uw_9, rfl, by decide, rfl, rfl, wm_881⟩
theorem fdM_X9_32 : pp_Fd dsM RX9 32 40 7 (0, 0, 0, 0) := ⟨RX9, TX9, 48, 9, _, by decide, rfl, uw_9, rfl, by decide, rfl, rfl, wm_841⟩
theorem fdM_X9_35 : pp_Fd dsM RX9 35 40 8 (0, 0, 0, 0) := ⟨RX9, TX9, 48, 9, _, by decide, rfl, uw_9, rfl, by decide, rfl, rfl, wm_842⟩
theorem fdM_X9_38 : pp_Fd dsM RX9 38 40 9 (2, 47, 0, 144) := ⟨RX9, TX9, 48, 9, _, by decide, rfl, uw_9, rfl, by decide, rfl, rfl, wm_843⟩
theorem fdM_X9_41 : pp_Fd dsM RX9 41 40 10 (2, 48, 0, 6) := ⟨RX9, TX9, 48, 9, _, by decide, rfl, uw_9, rfl, by decide, rfl, rfl, wm_844⟩
theorem fdM_X9_44 : pp_Fd dsM RX9 44 40 12 (2, 49, 0, 40) := ⟨RX9, TX9, 48, 9, _, by decide, rfl, uw_9, rfl, by decide, rfl, rfl, wm_846⟩
theorem fdM_X9_47 : pp_Fd dsM RX9 47 40 16 (2, 50, 0, 10) := ⟨RX9, TX9, 48, 9, _, by decide, rfl, uw_9, rfl, by decide, rfl, rfl, wm_850⟩
theorem fdM_X9_50 : pp_Fd dsM RX9 50 40 17 (2, 51, 0, 10) := ⟨RX9, TX9, 48, 9, _, by decide, rfl, uw_9, rfl, by decide, rfl, rfl, wm_851⟩
theorem fdM_X9_53 : pp_Fd dsM RX9 53 40 18 (2, 52, 0, 30) := ⟨RX9, TX9, 48, 9, _, by decide, rfl, uw_9, rfl, by decide, rfl, rfl, wm_852⟩
theorem fdM_X9_56 : pp_Fd dsM RX9 56 40 20 (2, 53, 0, 7) := ⟨RX9, TX9, 48, 9, _, by decide, rfl, uw_9, rfl, by decide, rfl, rfl, wm_854⟩
theorem fdM_X9_59 : pp_Fd dsM RX9 59 40 21 (2, 54, 0, 6) := ⟨RX9, TX9, 48, 9, _, by decide, rfl, uw_9, rfl, by decide, rfl, rfl, wm_855⟩
theorem fdM_X9_62 : pp_Fd dsM RX9 62 40 23 (2, 55, 0, 7) := ⟨RX9, TX9, 48, 9, _, by decide, rfl, uw_9, rfl, by decide, rfl, rfl, wm_857⟩
theorem fdM_X9_65 : pp_Fd dsM RX9 65 40 24 (2, 56, 0, 240) := ⟨RX9, TX9, 48, 9, _, by decide, rfl, uw_9, rfl, by decide, rfl, rfl, wm_858⟩
theorem fdM_X9_69 : pp_Fd dsM RX9 69 40 25 (2, 57, 0, 240) := ⟨RX9, TX9, 48, 9, _, by decide, rfl, uw_9, rfl, by decide, rfl, rfl, wm_859⟩
theorem fdM_X9_7 : pp_Fd dsM RX9 7 40 0 (2, 41, 0, 6) := ⟨RX9, TX9, 48, 9, _, by decide, rfl, uw_9, rfl, by decide, rfl, rfl, wm_834⟩
theorem fdM_X9_72 : pp_Fd dsM RX9 72 40 26 (2, 58, 0, 5) := ⟨RX9, TX9, 48, 9, _, by decide, rfl, uw_9, rfl, by decide, rfl, rfl, wm_860⟩
theorem fdM_X9_75 : pp_Fd dsM RX9 75 40 27 (2, 59, 0, 6) := ⟨RX9, TX9, 48, 9, _, by decide, rfl, uw_9, rfl, by decide, rfl, rfl, wm_861⟩
theorem fdM_X9_78 : pp_Fd dsM RX9 78 40 29 (2, 60, 0, 6) := ⟨RX9, TX9, 48, 9, _, by decide, rfl, uw_9, rfl, by decide, rfl, rfl, wm_863⟩
theorem fdM_X9_81 : pp_Fd dsM RX9 81 40 31 (2, 61, 0, 7) := ⟨RX9, TX9, 48, 9, _, by decide, rfl, uw_9, rfl, by decide, rfl, rfl, wm_865⟩
theorem fdM_X9_84 : pp_Fd dsM RX9 84 40 33 (2, 62, 0, 101) := ⟨RX9, TX9, 48, 9, _, by decide, rfl, uw_9, rfl, by decide, rfl, rfl, wm_867⟩
theorem fdM_X9_87 : pp_Fd dsM RX9 87 40 35 (2, 63, 0, 5) := ⟨RX9, TX9, 48, 9, _, by decide, rfl, uw_9, rfl, by decide, rfl, rfl, wm_869⟩
theorem fdM_X9_90 : pp_Fd dsM RX9 90 40 37 (2, 64, 0, 32) := ⟨RX9, TX9, 48, 9, _, by decide, rfl, uw_9, rfl, by decide, rfl, rfl, wm_871⟩
theorem fdM_X9_93 : pp_Fd dsM RX9 93 40 41 (2, 65, 0, 6) := ⟨RX9, TX9, 48, 9, _, by decide, rfl, uw_9, rfl, by decide, rfl, rfl, wm_875⟩
theorem fdM_X9_96 : pp_Fd dsM RX9 96 40 42 (2, 66, 0, 4) := ⟨RX9, TX9, 48, 9, _, by decide, rfl, uw_9, rfl, by decide, rfl, rfl, wm_876⟩
theorem fdN_X2_11 : pp_Fd dsN RX2 11 4 0 (2, 5, 0, 8) := ⟨RX2, TX2, 2, 2, _, by decide, rfl, uw_2, rfl, by decide, rfl, rfl, wm_108⟩
theorem fdN_X2_16 : pp_Fd dsN RX2 16 4 1 (2, 7, 0, 8) := ⟨RX2, TX2, 2, 2, _, by decide, rfl, uw_2, rfl, by decide, rfl, rfl, wm_110⟩
theorem fwK_X3_18 : pp_Fw dsK RX3 18 13 2 (0, 0, 0, 0) .int := ⟨RX3, TX3, 6, 3, _, tyX3, by decide, rfl, uw_3, rfl, by decide, rfl, rfl, wm_141, tyX3_ok, nmX3, rfl, by decide +kernel⟩
theorem fwK_X3_22 : pp_Fw dsK RX3 22 13 3 (0, 0, 0, 0) .int := ⟨RX3, TX3, 6, 3, _, tyX3, by decide, rfl, uw_3, rfl, by decide, rfl, rfl, wm_142, tyX3_ok, nmX3, rfl, by decide +kernel⟩
theorem fwK_X3_25 : pp_Fw dsK RX3 25 13 4 (0, 0, 0, 0) .int := ⟨RX3, TX3, 6, 3, _, tyX3, by decide, rfl, uw_3, rfl, by decide, rfl, rfl, wm_143, tyX3_ok, nmX3, rfl, by decide +kernel⟩
theorem fwK_X3_28 : pp_Fw dsK RX3 28 13 5 (0, 0, 0, 0) .int := ⟨RX3, TX3, 6, 3, _, tyX3, by decide, rfl, uw_3, rfl, by decide, rfl, rfl, wm_144, tyX3_ok, nmX3, rfl, by decide +kernel⟩
theorem fwK_X5_33 : pp_Fw dsK RX5 33 25 7 (1, 0, 0, 0) .long := ⟨RX5, TX5, 9, 5, _, tyX5, by decide, rfl, uw_5, rfl, by decide, rfl, rfl, wm_224, tyX5_ok, nmX5, rfl, by decide +kernel⟩
theorem fwK_X5_37 : pp_Fw dsK RX5 37 25 8 (1, 0, 0, 0) .long := ⟨RX5, TX5, 9, 5, _, tyX5, by decide, rfl, uw_5, rfl, by decide, rfl, rfl, wm_226, tyX5_ok, nmX5, rfl, by decide +kernel⟩
theorem fwK_X6_19 : pp_Fw dsK RX6 19 36 6 (0, 0, 0, 0) .boolean := ⟨RX6, TX6, 15, 6, _, tyX6, by decide, rfl, uw_6, rfl, by decide, rfl, rfl, wm_262, tyX6_ok, nmX6, rfl, by decide +kernel⟩
theorem fwK_X6_23 : pp_Fw dsK RX6 23 36 7 (0, 0, 0, 0) .boolean := ⟨RX6, TX6, 15, 6, _, tyX6, by decide, rfl, uw_6, rfl, by decide, rfl, rfl, wm_263, tyX6_ok, nmX6, rfl, by decide +kernel⟩
theorem fwK_X6_26 : pp_Fw dsK RX6 26 36 8 (0, 0, 0, 0) .int := ⟨RX6, TX6, 15, 6, _, tyX6, by decide, rfl, uw_6, rfl, by decide, rfl, rfl, wm_264, tyX6_ok, nmX6, rfl, by decide +kernel⟩
theorem fwK_X6_30 : pp_Fw dsK RX6 30 36 9 (0, 0, 0, 0) .int := ⟨RX6, TX6, 15, 6, _, tyX6, by decide, rfl, uw_6, rfl, by decide, rfl, rfl, wm_265, tyX6_ok, nmX6, rfl, by decide +kernel⟩
theorem fwK_X6_33 : pp_Fw dsK RX6 33 36 10 (0, 0, 0, 0) .int := ⟨RX6, TX6, 15, 6, _, tyX6, by decide, rfl, uw_6, rfl, by decide, rfl, rfl, wm_266, tyX6_ok, nmX6, rfl, by decide +kernel⟩
theorem fwK_X6_36 : pp_Fw dsK RX6 36 36 11 (0, 0, 0, 0) .int := ⟨RX6, TX6, 15, 6, _, tyX6, by decide, rfl, uw_6, rfl, by decide, rfl, rfl, wm_267, tyX6_ok, nmX6, rfl, by decide +kernel⟩
theorem fwK_X6_39 : pp_Fw dsK RX6 39 36 12 (0, 0, 0, 0) .int := ⟨RX6, TX6, 15, 6, _, tyX6, by decide, rfl, uw_6, rfl, by decide, rfl, rfl, wm_268, tyX6_ok, nmX6, rfl, by decide +kernel⟩
theorem fwK_X6_42 : pp_Fw dsK RX6 42 36 13 (0, 0, 0, 0) .int := ⟨RX6, TX6, 15, 6, _, tyX6, by decide, rfl, uw_6, rfl, by decide, rfl, rfl, wm_270, tyX6_ok, nmX6, rfl, by decide +kernel⟩
theorem fwK_X6_45 : pp_Fw dsK RX6 45 36 14 (1, 0, 0, 0) .long := ⟨RX6, TX6, 15, 6, _, tyX6, by decide, rfl, uw_6, rfl, by decide, rfl, rfl, wm_272, tyX6_ok, nmX6, rfl, by decide +kernel⟩
theorem fwK_X7_23 : pp_Fw dsK RX7 23 16 3 (0, 0, 0, 0) .int := ⟨RX7, TX7, 4, 7, _, tyX7, by decide, rfl, uw_7, rfl, by decide, rfl, rfl, wm_172, tyX7_ok, nmX7, rfl, by decide +kernel⟩
theorem fwK_X8_127 : pp_Fw dsK RX8 127 13 5 (0, 0, 0, 0) .int := ⟨RX3, TX3, 6, 3, _, tyX3, by decide, rfl, uw_3, rfl, by decide, rfl, rfl, wm_145, tyX3_ok, nmX3, rfl, by decide +kernel⟩
theorem fwK_X8_80 : pp_Fw dsK RX8 80 0 10 (0, 0, 0, 0) .int := ⟨RX8, TX8, 14, 8, _, tyX8, by decide, rfl, uw_8, rfl, by decide, rfl, rfl, wm_315, tyX8_ok, nmX8, rfl, by decide +kernel⟩
theorem fwK_X8_84 : pp_Fw dsK RX8 84 0 11 (0, 0, 0, 0) .int := ⟨RX8, TX8, 14, 8, _, tyX8, by decide, rfl, uw_8, rfl, by decide, rfl, rfl, wm_316, tyX8_ok, nmX8, rfl, by decide +kernel⟩
theorem fwK_X8_87 : pp_Fw dsK RX8 87 0 12 (0, 0, 0, 0) .int := ⟨RX8, TX8, 14, 8, _, tyX8, by decide, rfl, uw_8, rfl, by decide, rfl, rfl, wm_317, tyX8_ok, nmX8, rfl, by decide +kernel⟩
theorem fwK_X8_90 : pp_Fw dsK RX8 90 0 13 (0, 0, 0, 0) .int := ⟨RX8, TX8, 14, 8, _, tyX8, by decide, rfl, uw_8, rfl, by decide, rfl, rfl, wm_318, tyX8_ok, nmX8, rfl, by decide +kernel⟩
theorem fwM_X9_132 : pp_Fw dsM RX9 132 40 11 (0, 0, 0, 0) .int := ⟨RX9, TX9, 48, 9, _, tyX9, by decide, rfl, uw_9, rfl, by decide, rfl, rfl, wm_845, tyX9_ok, nmX9, rfl, by decide +kernel⟩
theorem fwM_X9_135 : pp_Fw dsM RX9 135 40 13 (0, 0, 0, 0) .int := ⟨RX9, TX9, 48, 9, _, tyX9, by decide, rfl, uw_9, rfl, by decide, rfl, rfl, wm_847, tyX9_ok, nmX9, rfl, by decide +kernel⟩
theorem fwM_X9_138 : pp_Fw dsM RX9 138 40 14 (0, 0, 0, 0) .int := ⟨RX9, TX9, 48, 9, _, tyX9, by decide, rfl, uw_9, rfl, by decide, rfl, rfl, wm_848, tyX9_ok, nmX9, rfl, by decide +kernel⟩
theorem fwM_X9_153 : pp_Fw dsM RX9 153 40 15 (0, 0, 0, 0) .int := ⟨RX9, TX9, 48, 9, _, tyX9, by decide, rfl, uw_9, rfl, by decide, rfl, rfl, wm_849, tyX9_ok, nmX9, rfl, by decide +kernel⟩
theorem fwM_X9_178 : pp_Fw dsM RX9 178 40 19 (0, 0, 0, 0) .int := ⟨RX9, TX9, 48, 9, _, tyX9, by decide, rfl, uw_9, rfl, by decide, rfl, rfl, wm_853, tyX9_ok, nmX9, rfl, by decide +kernel⟩
theorem fwM_X9_184 : pp_Fw dsM RX9 184 40 22 (0, 0, 0, 0) .int := ⟨RX9, TX9, 48, 9, _, tyX9, by decide, rfl, uw_9, rfl, by decide, rfl, rfl, wm_856, tyX9_ok, nmX9, rfl, by decide +kernel⟩
theorem fwM_X9_228 : pp_Fw dsM RX9 228 40 28 (1, 0, 0, 0) .long := ⟨RX9, TX9, 48, 9, _, tyX9, by decide, rfl, uw_9, rfl, by decide, rfl, rfl, wm_862, tyX9_ok, nmX9, rfl, by decide +kernel⟩
theorem fwM_X9_241 : pp_Fw dsM RX9 241 40 30 (0, 0, 0, 0) .int := ⟨RX9, TX9, 48, 9, _, tyX9, by decide, rfl, uw_9, rfl, by decide, rfl, rfl, wm_864, tyX9_ok, nmX9, rfl, by decide +kernel⟩
theorem fwM_X9_256 : pp_Fw dsM RX9 256 40 32 (0, 0, 0, 0) .int := ⟨RX9, TX9, 48, 9, _, tyX9, by decide, rfl, uw_9, rfl, by decide, rfl, rfl, wm_866, tyX9_ok, nmX9, rfl, by decide +kernel⟩
theorem fwM_X9_259 : pp_Fw dsM RX9 259 40 34 (0, 0, 0, 0) .int := ⟨RX9, TX9, 48, 9, _, tyX9, by decide, rfl, uw_9, rfl, by decide, rfl, rfl, wm_868, tyX9_ok, nmX9, rfl, by decide +kernel⟩
theorem fwM_X9_262 : pp_Fw dsM RX9 262 40 36 (1, 0, 0, 0) .long := ⟨RX9, TX9, 48, 9, _, tyX9, by decide, rfl, uw_9, rfl, by decide, rfl, rfl, wm_870, tyX9_ok, nmX9, rfl, by decide +kernel⟩
theorem fwM_X9_28 : pp_Fw dsM RX9 28 40 6 (0, 0, 0, 0) .int := ⟨RX9, TX9, 48, 9, _, tyX9, by decide, rfl, uw_9, rfl, by decide, rfl, rfl, wm_840, tyX9_ok, nmX9, rfl, by decide +kernel⟩
theorem fwM_X9_281 : pp_Fw dsM RX9 281 40 40 (1, 0, 0, 0) .long := ⟨RX9, TX9, 48, 9, _, tyX9, by decide, rfl, uw_9, rfl, by decide, rfl, rfl, wm_874, tyX9_ok, nmX9, rfl, by decide +kernel⟩
theorem fwM_X9_284 : pp_Fw dsM RX9 284 40 38 (0, 0, 0, 0) .int := ⟨RX9, TX9, 48, 9, _, tyX9, by decide, rfl, uw_9, rfl, by decide, rfl, rfl, wm_872, tyX9_ok, nmX9, rfl, by decide +kernel⟩
theorem fwM_X9_287 : pp_Fw dsM RX9 287 40 39 (0, 0, 0, 0) .int := ⟨RX9, TX9, 48, 9, _, tyX9, by decide, rfl, uw_9, rfl, by decide, rfl, rfl, wm_873, tyX9_ok, nmX9, rfl, by decide +kernel⟩
theorem fwM_X9_299 : pp_Fw dsM RX9 299 40 47 (0, 0, 0, 0) .int := ⟨RX9, TX9, 48, 9, _, tyX9, by decide, rfl, uw_9, rfl, by decide, rfl, rfl, wm_881, tyX9_ok, nmX9, rfl, by decide +kernel⟩
theorem fwM_X9_32 : pp_Fw dsM RX9 32 40 7 (0, 0, 0, 0) .int := ⟨RX9, TX9, 48, 9, _, tyX9, by decide, rfl, uw_9, rfl, by decide, rfl, rfl, wm_841, tyX9_ok, nmX9, rfl, by decide +kernel⟩
theorem fwM_X9_35 : pp_Fw dsM RX9 35 40 8 (0, 0, 0, 0) .int := ⟨RX9, TX9, 48, 9, _, tyX9, by decide, rfl, uw_9, rfl, by decide, rfl, rfl, wm_842, tyX9_ok, nmX9, rfl, by decide +kernel⟩
theorem pl_J6 : plainName RJ6 = true := by decide +kernel
theorem pl_X0 : plainName RX0 = true := by decide +kernel
theorem pl_X1 : plainName RX1 = true := by decide +kernel
theorem pl_X2 : plainName RX2 = true := by decide +kernel
theorem pl_X3 : plainName RX3 = true := by decide +kernel
theorem pl_X4 : plainName RX4 = true := by decide +kernel
theorem pl_X5 : plainName RX5 = true := by decide +kernel
theorem pl_X6 : plainName RX6 = true := by decide +kernel
theorem pl_X7 : plainName RX7 = true := by decide +kernel
theorem pl_X8 : plainName RX8 = true := by decide +kernel
theorem pl_X9 : plainName RX9 = true := by decide +kernel
end
section
/-! X4_chanceOf -/
def f_X4_chanceOf (σ : pp_M) (a1 : Int32) (a2 : Int32) (a3 : Int32) : Option (Int32 × pp_M) :=
  if pp_ix ((a1 * (6 : Int32)) + a2) 48 then
  if pp_ix a3 3 then
  if pp_ix a2 6 then
  if (σ.1 12 a2.toNatClampNeg) < (σ.1 11 ((((a1 * (6 : Int32)) + a2).toNatClampNeg * 3) + a3.toNatClampNeg)) then
    some (((σ.1 11 ((((a1 * (6 : Int32)) + a2).toNatClampNeg * 3) + a3.toNatClampNeg)) - (σ.1 12 a2.toNatClampNeg)), σ)
  else
    some ((0 : Int32), σ)
  else none
  else none
  else none
/-! X0_meanAsked -/
def f_X0_meanAsked (σ : pp_M) (a1 : Int32) (a2 : Int32) (a3 : Int32) (a4 : Int32) (a5 : Int32) : Option (Int64 × pp_M) :=
  if pp_ix (a1 - (1 : Int32)) 8 then
  if a5 = (3 : Int32) then
    if pp_ix ((a3 * (5 : Int32)) + a4) 30 then
    some ((σ.2 23 (((a1 - (1 : Int32)).toNatClampNeg * 30) + ((a3 * (5 : Int32)) + a4).toNatClampNeg)), σ)
    else none
  else
    (f_X4_chanceOf σ a2 a3 a5).bind fun x38 =>
    if pp_ix a3 6 then
    if pp_ix ((3 : Int32) + a5) 6 then
    if pp_ix (((a3 * (5 : Int32)) + a4) - (1 : Int32)) 30 then
    if pp_ix ((a3 * (5 : Int32)) + a4) 30 then
    some (((((x38.1.toInt64) * (((((x38.2.1 3 ((a3.toNatClampNeg * 6) + ((3 : Int32) + a5).toNatClampNeg))).toInt64) * (268435456 : Int64)) + (x38.2.2 23 (((a1 - (1 : Int32)).toNatClampNeg * 30) + (((a3 * (5 : Int32)) + a4) - (1 : Int32)).toNatClampNeg)))) + (((((16 : Int32) - x38.1)).toInt64) * (x38.2.2 23 (((a1 - (1 : Int32)).toNatClampNeg * 30) + ((a3 * (5 : Int32)) + a4).toNatClampNeg)))) / (16 : Int64)), x38.2)
    else none
    else none
    else none
    else none
  else none
/-! X0_bestLevel -/
def f_X0_bestLevel_53 (k18 : pp_M → Int32 → Int32 → Int32 → Int32 → Int32 → Int64 → Int32 → Option (Int32 × pp_M)) (σ : pp_M) (a1 : Int32) (a2 : Int32) (a3 : Int32) (a4 : Int32) (a5 : Int32) (a6 : Int64) (a8 : Int32) : Option (Int32 × pp_M) :=
  k18 σ a1 a2 a3 a4 a5 a6 (a8 + (1 : Int32))
def f_X0_bestLevel_18_B (k18 : pp_M → Int32 → Int32 → Int32 → Int32 → Int32 → Int64 → Int32 → Option (Int32 × pp_M)) (σ : pp_M) (a1 : Int32) (a2 : Int32) (a3 : Int32) (a4 : Int32) (a5 : Int32) (a6 : Int64) (a8 : Int32) : Option (Int32 × pp_M) :=
  if (3 : Int32) < a8 then
    some (a5, σ)
  else
    (f_X0_meanAsked σ a1 a2 a3 a4 a8).bind fun x32 =>
    if a6 < x32.1 then
      f_X0_bestLevel_53 k18 x32.2 a1 a2 a3 a4 a8 x32.1 a8
    else
      f_X0_bestLevel_53 k18 x32.2 a1 a2 a3 a4 a5 a6 a8
def f_X0_bestLevel_18 : Nat → pp_M → Int32 → Int32 → Int32 → Int32 → Int32 → Int64 → Int32 → Option (Int32 × pp_M)
  | 0 => fun _ _ _ _ _ _ _ _ => none
  | n + 1 => fun σ a1 a2 a3 a4 a5 a6 a8 => f_X0_bestLevel_18_B (f_X0_bestLevel_18 n) σ a1 a2 a3 a4 a5 a6 a8
def f_X0_bestLevel (σ : pp_M) (a1 : Int32) (a2 : Int32) (a3 : Int32) (a4 : Int32) : Option (Int32 × pp_M) :=
  (f_X0_meanAsked σ a1 a2 a3 a4 (0 : Int32)).bind fun x10 =>
  f_X0_bestLevel_18 100000 x10.2 a1 a2 a3 a4 (0 : Int32) x10.1 (1 : Int32)
/-! X0_callAt -/
def f_X0_callAt_22_B (k2 : pp_M → Int32 → Int32 → Int32 → Option (pp_M)) (k22 : pp_M → Int32 → Int32 → Int32 → Int32 → Option (pp_M)) (σ : pp_M) (a1 : Int32) (a2 : Int32) (a3 : Int32) (a4 : Int32) : Option (pp_M) :=
  if a4 < (5 : Int32) then
    (f_X0_bestLevel σ a1 a2 a3 a4).bind fun x34 =>
    if pp_ix a1 8 then
    (f_X0_meanAsked x34.2 a1 a2 a3 a4 x34.1).bind fun x59 =>
    if pp_ix ((a3 * (5 : Int32)) + a4) 30 then
    k22 (ppT x59.2 23 ((a1.toNatClampNeg * 30) + ((a3 * (5 : Int32)) + a4).toNatClampNeg) x59.1) a1 a2 a3 (a4 + (1 : Int32))
    else none
    else none
  else
    k2 σ a1 a2 (a3 + (1 : Int32))
def f_X0_callAt_22 (k2 : pp_M → Int32 → Int32 → Int32 → Option (pp_M)) : Nat → pp_M → Int32 → Int32 → Int32 → Int32 → Option (pp_M)
  | 0 => fun _ _ _ _ _ => none
  | n + 1 => fun σ a1 a2 a3 a4 => f_X0_callAt_22_B k2 (f_X0_callAt_22 k2 n) σ a1 a2 a3 a4
def f_X0_callAt_2_B (k2 : pp_M → Int32 → Int32 → Int32 → Option (pp_M)) (σ : pp_M) (a1 : Int32) (a2 : Int32) (a3 : Int32) : Option (pp_M) :=
  if a3 < (6 : Int32) then
    if pp_ix a1 8 then
    if pp_ix (a3 * (5 : Int32)) 30 then
    f_X0_callAt_22 k2 100000 (ppT σ 23 ((a1.toNatClampNeg * 30) + (a3 * (5 : Int32)).toNatClampNeg) (0 : Int64)) a1 a2 a3 (1 : Int32)
    else none
    else none
  else
    some σ
def f_X0_callAt_2 : Nat → pp_M → Int32 → Int32 → Int32 → Option (pp_M)
  | 0 => fun _ _ _ _ => none
  | n + 1 => fun σ a1 a2 a3 => f_X0_callAt_2_B (f_X0_callAt_2 n) σ a1 a2 a3
def f_X0_callAt (σ : pp_M) (a1 : Int32) (a2 : Int32) : Option (pp_M) :=
  f_X0_callAt_2 100000 σ a1 a2 (0 : Int32)
/-! X0_comeHome -/
def f_X0_comeHome_40_B (k2 : pp_M → Int32 → Option (pp_M)) (k40 : pp_M → Int32 → Int64 → Int32 → Option (pp_M)) (σ : pp_M) (a1 : Int32) (a2 : Int64) (a4 : Int32) : Option (pp_M) :=
  if a4 < (5 : Int32) then
    if pp_ix ((a1 * (5 : Int32)) + a4) 30 then
    k40 (ppT σ 23 ((a1 * (5 : Int32)) + a4).toNatClampNeg ((a4.toInt64) * a2)) a1 a2 (a4 + (1 : Int32))
    else none
  else
    k2 σ (a1 + (1 : Int32))
def f_X0_comeHome_40 (k2 : pp_M → Int32 → Option (pp_M)) : Nat → pp_M → Int32 → Int64 → Int32 → Option (pp_M)
  | 0 => fun _ _ _ _ => none
  | n + 1 => fun σ a1 a2 a4 => f_X0_comeHome_40_B k2 (f_X0_comeHome_40 k2 n) σ a1 a2 a4
def f_X0_comeHome_2_B (k2 : pp_M → Int32 → Option (pp_M)) (σ : pp_M) (a1 : Int32) : Option (pp_M) :=
  if a1 < (6 : Int32) then
    if pp_ix a1 6 then
    f_X0_comeHome_40 k2 100000 σ a1 (((((σ.1 3 ((a1.toNatClampNeg * 6) + 0)) - (σ.1 3 ((a1.toNatClampNeg * 6) + 2)))).toInt64) * (268435456 : Int64)) (0 : Int32)
    else none
  else
    some σ
def f_X0_comeHome_2 : Nat → pp_M → Int32 → Option (pp_M)
  | 0 => fun _ _ => none
  | n + 1 => fun σ a1 => f_X0_comeHome_2_B (f_X0_comeHome_2 n) σ a1
def f_X0_comeHome (σ : pp_M)  : Option (pp_M) :=
  f_X0_comeHome_2 100000 σ (0 : Int32)
/-! X0_goAlong -/
def f_X0_goAlong_6_B (k6 : pp_M → Nat → Nat → Nat → Int32 → Int32 → Option (pp_M)) (σ : pp_M) (a1t : Nat) (a1o : Nat) (a1n : Nat) (a2 : Int32) (a3 : Int32) : Option (pp_M) :=
  if a2 < a3 then
    some σ
  else
    if pp_ix (a2 - a3) a1n then
    (f_X0_callAt σ a3 (σ.1 a1t (a1o + (a2 - a3).toNatClampNeg))).bind fun x18 =>
    k6 x18 a1t a1o a1n a2 (a3 + (1 : Int32))
    else none
def f_X0_goAlong_6 : Nat → pp_M → Nat → Nat → Nat → Int32 → Int32 → Option (pp_M)
  | 0 => fun _ _ _ _ _ _ => none
  | n + 1 => fun σ a1t a1o a1n a2 a3 => f_X0_goAlong_6_B (f_X0_goAlong_6 n) σ a1t a1o a1n a2 a3
def f_X0_goAlong (σ : pp_M) (a1t : Nat) (a1o : Nat) (a1n : Nat) (a2 : Int32) : Option (pp_M) :=
  (f_X0_comeHome σ).bind fun x1 =>
  f_X0_goAlong_6 100000 x1 a1t a1o a1n a2 (1 : Int32)
/-! X0_meanSold -/
def f_X0_meanSold_4_B (k4 : pp_M → Int64 → Int32 → Option (Int64 × pp_M)) (σ : pp_M) (a1 : Int64) (a3 : Int32) : Option (Int64 × pp_M) :=
  if a3 < (5 : Int32) then
    if pp_ix a3 5 then
    k4 σ (a1 + ((a3.toInt64) * (σ.2 24 a3.toNatClampNeg))) (a3 + (1 : Int32))
    else none
  else
    some (a1, σ)
def f_X0_meanSold_4 : Nat → pp_M → Int64 → Int32 → Option (Int64 × pp_M)
  | 0 => fun _ _ _ => none
  | n + 1 => fun σ a1 a3 => f_X0_meanSold_4_B (f_X0_meanSold_4 n) σ a1 a3
def f_X0_meanSold (σ : pp_M)  : Option (Int64 × pp_M) :=
  f_X0_meanSold_4 100000 σ (0 : Int64) (1 : Int32)
/-! X0_sell -/
def f_X0_sell_66_B (k37 : pp_M → Int32 → Int32 → Int32 → Nat → Nat → Nat → Int32 → Int32 → Option (pp_M)) (k66 : pp_M → Int32 → Int32 → Int32 → Nat → Nat → Nat → Int32 → Int32 → Int64 → Int32 → Option (pp_M)) (σ : pp_M) (a1 : Int32) (a2 : Int32) (a3 : Int32) (a4t : Nat) (a4o : Nat) (a4n : Nat) (a5 : Int32) (a6 : Int32) (a7 : Int64) (a9 : Int32) : Option (pp_M) :=
  if a9 < 0 then
    k37 σ a1 a2 a3 a4t a4o a4n a5 (a6 + (1 : Int32))
  else
    if pp_ix a9 5 then
    if pp_ix (a9 + (1 : Int32)) 5 then
    k66 (ppT (ppT σ 24 (a9 + (1 : Int32)).toNatClampNeg ((σ.2 24 (a9 + (1 : Int32)).toNatClampNeg) + (((σ.2 24 a9.toNatClampNeg) * a7) / (16 : Int64)))) 24 a9.toNatClampNeg (((ppT σ 24 (a9 + (1 : Int32)).toNatClampNeg ((σ.2 24 (a9 + (1 : Int32)).toNatClampNeg) + (((σ.2 24 a9.toNatClampNeg) * a7) / (16 : Int64)))).2 24 a9.toNatClampNeg) - (((σ.2 24 a9.toNatClampNeg) * a7) / (16 : Int64)))) a1 a2 a3 a4t a4o a4n a5 a6 a7 (a9 + (-1 : Int32))
    else none
    else none
def f_X0_sell_66 (k37 : pp_M → Int32 → Int32 → Int32 → Nat → Nat → Nat → Int32 → Int32 → Option (pp_M)) : Nat → pp_M → Int32 → Int32 → Int32 → Nat → Nat → Nat → Int32 → Int32 → Int64 → Int32 → Option (pp_M)
  | 0 => fun _ _ _ _ _ _ _ _ _ _ _ => none
  | n + 1 => fun σ a1 a2 a3 a4t a4o a4n a5 a6 a7 a9 => f_X0_sell_66_B k37 (f_X0_sell_66 k37 n) σ a1 a2 a3 a4t a4o a4n a5 a6 a7 a9
def f_X0_sell_37_B (k37 : pp_M → Int32 → Int32 → Int32 → Nat → Nat → Nat → Int32 → Int32 → Option (pp_M)) (σ : pp_M) (a1 : Int32) (a2 : Int32) (a3 : Int32) (a4t : Nat) (a4o : Nat) (a4n : Nat) (a5 : Int32) (a6 : Int32) : Option (pp_M) :=
  if a6 < a5 then
    if pp_ix a6 a4n then
    (f_X4_chanceOf σ (σ.1 a4t (a4o + a6.toNatClampNeg)) a1 a3).bind fun x55 =>
    f_X0_sell_66 k37 100000 x55.2 a1 a2 a3 a4t a4o a4n a5 a6 (x55.1.toInt64) (a2 - (1 : Int32))
    else none
  else
    some σ
def f_X0_sell_37 : Nat → pp_M → Int32 → Int32 → Int32 → Nat → Nat → Nat → Int32 → Int32 → Option (pp_M)
  | 0 => fun _ _ _ _ _ _ _ _ _ => none
  | n + 1 => fun σ a1 a2 a3 a4t a4o a4n a5 a6 => f_X0_sell_37_B (f_X0_sell_37 n) σ a1 a2 a3 a4t a4o a4n a5 a6
def f_X0_sell_27 (k3 : pp_M → Int32 → Int32 → Int32 → Nat → Nat → Nat → Int32 → Int32 → Option (pp_M)) (σ : pp_M) (a1 : Int32) (a2 : Int32) (a3 : Int32) (a4t : Nat) (a4o : Nat) (a4n : Nat) (a5 : Int32) (a6 : Int32) (b1 : Int32) (b2 : Int64) : Option (pp_M) :=
  if pp_ix b1 5 then
  k3 (ppT σ 24 b1.toNatClampNeg b2) a1 a2 a3 a4t a4o a4n a5 (a6 + (1 : Int32))
  else none
def f_X0_sell_3_B (k3 : pp_M → Int32 → Int32 → Int32 → Nat → Nat → Nat → Int32 → Int32 → Option (pp_M)) (σ : pp_M) (a1 : Int32) (a2 : Int32) (a3 : Int32) (a4t : Nat) (a4o : Nat) (a4n : Nat) (a5 : Int32) (a6 : Int32) : Option (pp_M) :=
  if a6 < (5 : Int32) then
    if a6 = 0 then
      f_X0_sell_27 k3 σ a1 a2 a3 a4t a4o a4n a5 a6 a6 (268435456 : Int64)
    else
      f_X0_sell_27 k3 σ a1 a2 a3 a4t a4o a4n a5 a6 a6 (0 : Int64)
  else
    f_X0_sell_37 100000 σ a1 a2 a3 a4t a4o a4n a5 (0 : Int32)
def f_X0_sell_3 : Nat → pp_M → Int32 → Int32 → Int32 → Nat → Nat → Nat → Int32 → Int32 → Option (pp_M)
  | 0 => fun _ _ _ _ _ _ _ _ _ => none
  | n + 1 => fun σ a1 a2 a3 a4t a4o a4n a5 a6 => f_X0_sell_3_B (f_X0_sell_3 n) σ a1 a2 a3 a4t a4o a4n a5 a6
def f_X0_sell (σ : pp_M) (a1 : Int32) (a2 : Int32) (a3 : Int32) (a4t : Nat) (a4o : Nat) (a4n : Nat) (a5 : Int32) : Option (pp_M) :=
  f_X0_sell_3 100000 σ a1 a2 a3 a4t a4o a4n a5 (0 : Int32)
/-! X8_within -/
def f_X8_within (σ : pp_M) (a0 : Int32) (a1 : Int32) (a2 : Int32) : Option (Int32 × pp_M) :=
  if a0 < a1 then
    some ((0 : Int32), σ)
  else
    if a2 < a0 then
      some ((0 : Int32), σ)
    else
      some ((1 : Int32), σ)
/-! X1_mayBe -/
def f_X1_mayBe_59 (σ : pp_M) (a3 : Int32) (a4 : Int32) (b0 : Int32) : Option (Int32 × pp_M) :=
  (f_X8_within σ a3 a4 b0).bind fun x66 =>
  if pp_b x66.1 then
  some (x66.1, x66.2)
  else none
def f_X1_mayBe_57 (σ : pp_M) (a3 : Int32) (a4 : Int32) : Option (Int32 × pp_M) :=
  f_X1_mayBe_59 σ a3 a4 (99 : Int32)
def f_X1_mayBe_32 (σ : pp_M) (a1 : Int32) (a2 : Int32) (a3 : Int32) (b0 : Int32) : Option (Int32 × pp_M) :=
  if a2 < (3 : Int32) then
    f_X1_mayBe_57 σ a3 b0
  else
    if a2 < (5 : Int32) then
      if pp_ix a1 6 then
      if pp_ix (a2 + (1 : Int32)) 6 then
      f_X1_mayBe_59 σ a3 b0 (σ.1 3 ((a1.toNatClampNeg * 6) + (a2 + (1 : Int32)).toNatClampNeg))
      else none
      else none
    else
      f_X1_mayBe_57 σ a3 b0
def f_X1_mayBe (σ : pp_M) (a1 : Int32) (a2 : Int32) (a3 : Int32) : Option (Int32 × pp_M) :=
  if a2 = (1 : Int32) then
    (f_X8_within σ a3 (1 : Int32) (20 : Int32)).bind fun x9 =>
    if pp_b x9.1 then
    some (x9.1, x9.2)
    else none
  else
    if (3 : Int32) < a2 then
      if pp_ix a1 6 then
      if pp_ix (a2 - (1 : Int32)) 6 then
      f_X1_mayBe_32 σ a1 a2 a3 (σ.1 3 ((a1.toNatClampNeg * 6) + (a2 - (1 : Int32)).toNatClampNeg))
      else none
      else none
    else
      f_X1_mayBe_32 σ a1 a2 a3 (0 : Int32)
/-! X1_weightOf -/
def f_X1_weightOf_4_B (k4 : pp_M → Nat → Nat → Nat → Int32 → Int32 → Option (Int32 × pp_M)) (σ : pp_M) (a1t : Nat) (a1o : Nat) (a1n : Nat) (a2 : Int32) (a3 : Int32) : Option (Int32 × pp_M) :=
  if a3 < (6 : Int32) then
    if pp_ix a3 a1n then
    if pp_ix a3 6 then
    k4 σ a1t a1o a1n (a2 + ((σ.1 a1t (a1o + a3.toNatClampNeg)) * (σ.1 3 ((a3.toNatClampNeg * 6) + 1)))) (a3 + (1 : Int32))
    else none
    else none
  else
    some (a2, σ)
def f_X1_weightOf_4 : Nat → pp_M → Nat → Nat → Nat → Int32 → Int32 → Option (Int32 × pp_M)
  | 0 => fun _ _ _ _ _ _ => none
  | n + 1 => fun σ a1t a1o a1n a2 a3 => f_X1_weightOf_4_B (f_X1_weightOf_4 n) σ a1t a1o a1n a2 a3
def f_X1_weightOf (σ : pp_M) (a1t : Nat) (a1o : Nat) (a1n : Nat) : Option (Int32 × pp_M) :=
  f_X1_weightOf_4 100000 σ a1t a1o a1n (0 : Int32) (0 : Int32)
/-! X2_findWays -/
def f_X2_findWays_88_B (k72 : pp_M → Int32 → Option (pp_M)) (k80 : pp_M → Int32 → Int32 → Option (pp_M)) (k88 : pp_M → Int32 → Int32 → Int32 → Option (pp_M)) (σ : pp_M) (a1 : Int32) (a2 : Int32) (a3 : Int32) : Option (pp_M) :=
  if a3 < (8 : Int32) then
    if pp_ix a2 8 then
    if pp_ix a3 8 then
    if pp_ix a1 8 then
    k88 (ppS σ 8 ((a2.toNatClampNeg * 8) + a3.toNatClampNeg) (if ((σ.1 8 ((a2.toNatClampNeg * 8) + a1.toNatClampNeg)) + (σ.1 8 ((a1.toNatClampNeg * 8) + a3.toNatClampNeg))) < (σ.1 8 ((a2.toNatClampNeg * 8) + a3.toNatClampNeg)) then ((σ.1 8 ((a2.toNatClampNeg * 8) + a1.toNatClampNeg)) + (σ.1 8 ((a1.toNatClampNeg * 8) + a3.toNatClampNeg))) else (σ.1 8 ((a2.toNatClampNeg * 8) + a3.toNatClampNeg)))) a1 a2 (a3 + (1 : Int32))
    else none
    else none
    else none
  else
    k80 σ a1 (a2 + (1 : Int32))
def f_X2_findWays_88 (k72 : pp_M → Int32 → Option (pp_M)) (k80 : pp_M → Int32 → Int32 → Option (pp_M)) : Nat → pp_M → Int32 → Int32 → Int32 → Option (pp_M)
  | 0 => fun _ _ _ _ => none
  | n + 1 => fun σ a1 a2 a3 => f_X2_findWays_88_B k72 k80 (f_X2_findWays_88 k72 k80 n) σ a1 a2 a3
def f_X2_findWays_80_B (k72 : pp_M → Int32 → Option (pp_M)) (k80 : pp_M → Int32 → Int32 → Option (pp_M)) (σ : pp_M) (a1 : Int32) (a2 : Int32) : Option (pp_M) :=
  if a2 < (8 : Int32) then
    f_X2_findWays_88 k72 k80 100000 σ a1 a2 (0 : Int32)
  else
    k72 σ (a1 + (1 : Int32))
def f_X2_findWays_80 (k72 : pp_M → Int32 → Option (pp_M)) : Nat → pp_M → Int32 → Int32 → Option (pp_M)
  | 0 => fun _ _ _ => none
  | n + 1 => fun σ a1 a2 => f_X2_findWays_80_B k72 (f_X2_findWays_80 k72 n) σ a1 a2
def f_X2_findWays_72_B (k72 : pp_M → Int32 → Option (pp_M)) (σ : pp_M) (a1 : Int32) : Option (pp_M) :=
  if a1 < (8 : Int32) then
    f_X2_findWays_80 k72 100000 σ a1 (0 : Int32)
  else
    some σ
def f_X2_findWays_72 : Nat → pp_M → Int32 → Option (pp_M)
  | 0 => fun _ _ => none
  | n + 1 => fun σ a1 => f_X2_findWays_72_B (f_X2_findWays_72 n) σ a1
def f_X2_findWays_57 (k2 : pp_M → Int32 → Option (pp_M)) (k10 : pp_M → Int32 → Int32 → Option (pp_M)) (σ : pp_M) (a1 : Int32) (a2 : Int32) (b0o : Nat) (b1 : Int32) (b2 : Int32) : Option (pp_M) :=
  if pp_ix b1 8 then
  k10 (ppS σ 8 (b0o + b1.toNatClampNeg) b2) a1 (a2 + (1 : Int32))
  else none
def f_X2_findWays_10_B (k2 : pp_M → Int32 → Option (pp_M)) (k10 : pp_M → Int32 → Int32 → Option (pp_M)) (σ : pp_M) (a1 : Int32) (a2 : Int32) : Option (pp_M) :=
  if a2 < (8 : Int32) then
    if pp_ix a1 8 then
    if a1 = a2 then
      f_X2_findWays_57 k2 k10 σ a1 a2 (a1.toNatClampNeg * 8) a2 (0 : Int32)
    else
      if pp_ix a2 8 then
      if 0 < (σ.1 6 ((a1.toNatClampNeg * 8) + a2.toNatClampNeg)) then
        f_X2_findWays_57 k2 k10 σ a1 a2 (a1.toNatClampNeg * 8) a2 (σ.1 6 ((a1.toNatClampNeg * 8) + a2.toNatClampNeg))
      else
        f_X2_findWays_57 k2 k10 σ a1 a2 (a1.toNatClampNeg * 8) a2 (1000 : Int32)
      else none
    else none
  else
    k2 σ (a1 + (1 : Int32))
def f_X2_findWays_10 (k2 : pp_M → Int32 → Option (pp_M)) : Nat → pp_M → Int32 → Int32 → Option (pp_M)
  | 0 => fun _ _ _ => none
  | n + 1 => fun σ a1 a2 => f_X2_findWays_10_B k2 (f_X2_findWays_10 k2 n) σ a1 a2
def f_X2_findWays_2_B (k2 : pp_M → Int32 → Option (pp_M)) (σ : pp_M) (a1 : Int32) : Option (pp_M) :=
  if a1 < (8 : Int32) then
    f_X2_findWays_10 k2 100000 σ a1 (0 : Int32)
  else
    f_X2_findWays_72 100000 σ (0 : Int32)
def f_X2_findWays_2 : Nat → pp_M → Int32 → Option (pp_M)
  | 0 => fun _ _ => none
  | n + 1 => fun σ a1 => f_X2_findWays_2_B (f_X2_findWays_2 n) σ a1
def f_X2_findWays (σ : pp_M)  : Option (pp_M) :=
  f_X2_findWays_2 100000 σ (0 : Int32)
/-! X2_build -/
def f_X2_build (σ : pp_M) (a1 : Int32) (a2 : Int32) (a3 : Int32) : Option (pp_M) :=
  if pp_ix a1 8 then
  if pp_ix a2 8 then
  (f_X2_findWays (ppS (ppS σ 6 ((a1.toNatClampNeg * 8) + a2.toNatClampNeg) a3) 6 ((a2.toNatClampNeg * 8) + a1.toNatClampNeg) a3)).bind fun x19 =>
  some x19
  else none
  else none
/-! X2_countRoads -/
def f_X2_countRoads_34 (k4 : pp_M → Int32 → Int32 → Option (Int32 × pp_M)) (k12 : pp_M → Int32 → Int32 → Int32 → Option (Int32 × pp_M)) (σ : pp_M) (a2 : Int32) (a3 : Int32) (b0 : Int32) (b1 : Int32) : Option (Int32 × pp_M) :=
  k12 σ (b0 + b1) a2 (a3 + (1 : Int32))
def f_X2_countRoads_12_B (k4 : pp_M → Int32 → Int32 → Option (Int32 × pp_M)) (k12 : pp_M → Int32 → Int32 → Int32 → Option (Int32 × pp_M)) (σ : pp_M) (a1 : Int32) (a2 : Int32) (a3 : Int32) : Option (Int32 × pp_M) :=
  if a3 < a2 then
    if pp_ix a2 8 then
    if pp_ix a3 8 then
    if 0 < (σ.1 6 ((a2.toNatClampNeg * 8) + a3.toNatClampNeg)) then
      f_X2_countRoads_34 k4 k12 σ a2 a3 a1 (1 : Int32)
    else
      f_X2_countRoads_34 k4 k12 σ a2 a3 a1 (0 : Int32)
    else none
    else none
  else
    k4 σ a1 (a2 + (1 : Int32))
def f_X2_countRoads_12 (k4 : pp_M → Int32 → Int32 → Option (Int32 × pp_M)) : Nat → pp_M → Int32 → Int32 → Int32 → Option (Int32 × pp_M)
  | 0 => fun _ _ _ _ => none
  | n + 1 => fun σ a1 a2 a3 => f_X2_countRoads_12_B k4 (f_X2_countRoads_12 k4 n) σ a1 a2 a3
def f_X2_countRoads_4_B (k4 : pp_M → Int32 → Int32 → Option (Int32 × pp_M)) (σ : pp_M) (a1 : Int32) (a2 : Int32) : Option (Int32 × pp_M) :=
  if a2 < (8 : Int32) then
    f_X2_countRoads_12 k4 100000 σ a1 a2 (0 : Int32)
  else
    some (a1, σ)
def f_X2_countRoads_4 : Nat → pp_M → Int32 → Int32 → Option (Int32 × pp_M)
  | 0 => fun _ _ _ => none
  | n + 1 => fun σ a1 a2 => f_X2_countRoads_4_B (f_X2_countRoads_4 n) σ a1 a2
def f_X2_countRoads (σ : pp_M)  : Option (Int32 × pp_M) :=
  f_X2_countRoads_4 100000 σ (0 : Int32) (0 : Int32)
/-! X2_hoursOf -/
def f_X2_hoursOf_8_B (k8 : pp_M → Nat → Nat → Nat → Int32 → Int32 → Int32 → Int32 → Option (Int32 × pp_M)) (σ : pp_M) (a1t : Nat) (a1o : Nat) (a1n : Nat) (a2 : Int32) (a3 : Int32) (a4 : Int32) (a5 : Int32) : Option (Int32 × pp_M) :=
  if a5 < a2 then
    if pp_ix a4 8 then
    if pp_ix a5 a1n then
    if pp_ix (σ.1 a1t (a1o + a5.toNatClampNeg)) 8 then
    k8 σ a1t a1o a1n a2 (a3 + (σ.1 8 ((a4.toNatClampNeg * 8) + (σ.1 a1t (a1o + a5.toNatClampNeg)).toNatClampNeg))) (σ.1 a1t (a1o + a5.toNatClampNeg)) (a5 + (1 : Int32))
    else none
    else none
    else none
  else
    if pp_ix a4 8 then
    some ((a3 + (σ.1 8 ((a4.toNatClampNeg * 8) + 0))), σ)
    else none
def f_X2_hoursOf_8 : Nat → pp_M → Nat → Nat → Nat → Int32 → Int32 → Int32 → Int32 → Option (Int32 × pp_M)
  | 0 => fun _ _ _ _ _ _ _ _ => none
  | n + 1 => fun σ a1t a1o a1n a2 a3 a4 a5 => f_X2_hoursOf_8_B (f_X2_hoursOf_8 n) σ a1t a1o a1n a2 a3 a4 a5
def f_X2_hoursOf (σ : pp_M) (a1t : Nat) (a1o : Nat) (a1n : Nat) (a2 : Int32) : Option (Int32 × pp_M) :=
  f_X2_hoursOf_8 100000 σ a1t a1o a1n a2 (0 : Int32) (0 : Int32) (0 : Int32)
/-! X3_append -/
def f_X3_append (σ : pp_M) (a1 : Int32) : Option (Int32 × pp_M) :=
  if (σ.1 13 5) < (40 : Int32) then
    if pp_ix (σ.1 13 5) 40 then
    some ((1 : Int32), ppS (ppS σ 14 (σ.1 13 5).toNatClampNeg a1) 13 5 (((ppS σ 14 (σ.1 13 5).toNatClampNeg a1).1 13 5) + (1 : Int32)))
    else none
  else
    some ((0 : Int32), σ)
/-! X3_figureAt -/
def f_X3_figureAt (σ : pp_M) (a1 : Int32) : Option (Int32 × pp_M) :=
  if a1 < (σ.1 13 5) then
    if pp_ix a1 40 then
    (f_X8_within σ (σ.1 14 a1.toNatClampNeg) (48 : Int32) (57 : Int32)).bind fun x18 =>
    if x18.1 = 0 then
      some ((-1 : Int32), x18.2)
    else
      some (((x18.2.1 14 a1.toNatClampNeg) - (48 : Int32)), x18.2)
    else none
  else
    some ((-1 : Int32), σ)
/-! X3_isAt -/
def f_X3_isAt (σ : pp_M) (a1 : Int32) (a2 : Int32) : Option (Int32 × pp_M) :=
  if a1 < (σ.1 13 5) then
    if pp_ix a1 40 then
    if (σ.1 14 a1.toNatClampNeg) = a2 then
      some ((1 : Int32), σ)
    else
      some ((0 : Int32), σ)
    else none
  else
    some ((0 : Int32), σ)
/-! X3_readChances -/
def f_X3_readChances_146 (σ : pp_M)  : Option (Int32 × pp_M) :=
  some ((-1 : Int32), σ)
def f_X3_readChances_115 (k8 : pp_M → Int32 → Int32 → Int32 → Option (Int32 × pp_M)) (σ : pp_M) (a3 : Int32) (a4 : Int32) (b0 : Int32) (b1 : Int32) : Option (Int32 × pp_M) :=
  k8 σ (b0 + b1) a3 (a4 + (1 : Int32))
def f_X3_readChances_80 (k8 : pp_M → Int32 → Int32 → Int32 → Option (Int32 × pp_M)) (σ : pp_M) (a2 : Int32) (a3 : Int32) (a4 : Int32) (a5 : Int32) (a6 : Int32) : Option (Int32 × pp_M) :=
  (f_X8_within σ a5 (0 : Int32) a3).bind fun x84 =>
  if x84.1 = 0 then
    some (a2, x84.2)
  else
    if pp_ix a4 3 then
    if a6 < 0 then
      f_X3_readChances_115 k8 (ppS x84.2 15 a4.toNatClampNeg a5) a5 a4 a2 (1 : Int32)
    else
      f_X3_readChances_115 k8 (ppS x84.2 15 a4.toNatClampNeg a5) a5 a4 a2 (2 : Int32)
    else none
def f_X3_readChances_42 (k8 : pp_M → Int32 → Int32 → Int32 → Option (Int32 × pp_M)) (σ : pp_M) (a3 : Int32) (a4 : Int32) (b0 : Int32) (b1 : Int32) : Option (Int32 × pp_M) :=
  (f_X3_figureAt σ (b0 + b1)).bind fun x46 =>
  (f_X3_figureAt x46.2 ((b0 + b1) + (1 : Int32))).bind fun x55 =>
  if x46.1 < 0 then
    f_X3_readChances_80 k8 x55.2 (b0 + b1) a3 a4 x46.1 x55.1
  else
    if x55.1 < 0 then
      f_X3_readChances_80 k8 x55.2 (b0 + b1) a3 a4 x46.1 x55.1
    else
      f_X3_readChances_80 k8 x55.2 (b0 + b1) a3 a4 (((10 : Int32) * x46.1) + x55.1) x55.1
def f_X3_readChances_31 (k8 : pp_M → Int32 → Int32 → Int32 → Option (Int32 × pp_M)) (σ : pp_M) (a2 : Int32) (a3 : Int32) (a4 : Int32) : Option (Int32 × pp_M) :=
  if 0 < a4 then
    f_X3_readChances_42 k8 σ a3 a4 a2 (1 : Int32)
  else
    f_X3_readChances_42 k8 σ a3 a4 a2 (0 : Int32)
def f_X3_readChances_8_B (k8 : pp_M → Int32 → Int32 → Int32 → Option (Int32 × pp_M)) (σ : pp_M) (a2 : Int32) (a3 : Int32) (a4 : Int32) : Option (Int32 × pp_M) :=
  if a4 < (3 : Int32) then
    if 0 < a4 then
      (f_X3_isAt σ a2 (44 : Int32)).bind fun x23 =>
      if x23.1 = 0 then
        some (a2, x23.2)
      else
        f_X3_readChances_31 k8 x23.2 a2 a3 a4
    else
      f_X3_readChances_31 k8 σ a2 a3 a4
  else
    if a2 < ((ppS σ 13 4 a2).1 13 5) then
      (f_X3_isAt (ppS σ 13 4 a2) a2 (59 : Int32)).bind fun x140 =>
      if x140.1 = 0 then
        some (a2, x140.2)
      else
        f_X3_readChances_146 x140.2
    else
      f_X3_readChances_146 (ppS σ 13 4 a2)
def f_X3_readChances_8 : Nat → pp_M → Int32 → Int32 → Int32 → Option (Int32 × pp_M)
  | 0 => fun _ _ _ _ => none
  | n + 1 => fun σ a2 a3 a4 => f_X3_readChances_8_B (f_X3_readChances_8 n) σ a2 a3 a4
def f_X3_readChances (σ : pp_M) (a1 : Int32) : Option (Int32 × pp_M) :=
  f_X3_readChances_8 100000 σ a1 (16 : Int32) (0 : Int32)
/-! X8_isFarm -/
def f_X8_isFarm (σ : pp_M) (a0 : Int32) : Option (Int32 × pp_M) :=
  (f_X8_within σ a0 (1 : Int32) (7 : Int32)).bind fun x4 =>
  if pp_b x4.1 then
  some (x4.1, x4.2)
  else none
/-! X8_isThing -/
def f_X8_isThing (σ : pp_M) (a0 : Int32) : Option (Int32 × pp_M) :=
  (f_X8_within σ a0 (0 : Int32) (5 : Int32)).bind fun x3 =>
  if pp_b x3.1 then
  some (x3.1, x3.2)
  else none
/-! X3_readPart -/
def f_X3_readPart (σ : pp_M) (a1 : Int32) : Option (Int32 × pp_M) :=
  (f_X3_figureAt σ a1).bind fun x3 =>
  (f_X8_isFarm (ppS x3.2 13 2 x3.1) ((ppS x3.2 13 2 x3.1).1 13 2)).bind fun x13 =>
  if x13.1 = 0 then
    some (a1, x13.2)
  else
    (f_X3_isAt x13.2 (a1 + (1 : Int32)) (58 : Int32)).bind fun x27 =>
    if x27.1 = 0 then
      some ((a1 + (1 : Int32)), x27.2)
    else
      (f_X3_figureAt x27.2 (a1 + (2 : Int32))).bind fun x42 =>
      (f_X8_isThing (ppS x42.2 13 3 x42.1) ((ppS x42.2 13 3 x42.1).1 13 3)).bind fun x52 =>
      if x52.1 = 0 then
        some ((a1 + (2 : Int32)), x52.2)
      else
        (f_X3_isAt x52.2 (a1 + (3 : Int32)) (61 : Int32)).bind fun x68 =>
        if x68.1 = 0 then
          some ((a1 + (3 : Int32)), x68.2)
        else
          (f_X3_readChances x68.2 (a1 + (4 : Int32))).bind fun x82 =>
          some (x82.1, x82.2)
/-! X3_findFault -/
def f_X3_findFault_4_B (k4 : pp_M → Int32 → Int32 → Option (Int32 × pp_M)) (σ : pp_M) (a1 : Int32) (a2 : Int32) : Option (Int32 × pp_M) :=
  if a2 < (40 : Int32) then
    (f_X3_readPart σ a1).bind fun x12 =>
    if x12.1 = (-1 : Int32) then
      if (x12.2.1 13 4) < (x12.2.1 13 5) then
        k4 x12.2 ((x12.2.1 13 4) + (1 : Int32)) (a2 + (1 : Int32))
      else
        some (x12.1, x12.2)
    else
      some (x12.1, x12.2)
  else
    some (a1, σ)
def f_X3_findFault_4 : Nat → pp_M → Int32 → Int32 → Option (Int32 × pp_M)
  | 0 => fun _ _ _ => none
  | n + 1 => fun σ a1 a2 => f_X3_findFault_4_B (f_X3_findFault_4 n) σ a1 a2
def f_X3_findFault (σ : pp_M)  : Option (Int32 × pp_M) :=
  f_X3_findFault_4 100000 σ (0 : Int32) (0 : Int32)
/-! X4_take -/
def f_X4_take_49_B (k49 : pp_M → Int32 → Int32 → Nat → Nat → Nat → Int32 → Int32 → Option (Int32 × pp_M)) (σ : pp_M) (a1 : Int32) (a2 : Int32) (a3t : Nat) (a3o : Nat) (a3n : Nat) (a4 : Int32) (a6 : Int32) : Option (Int32 × pp_M) :=
  if a6 < (3 : Int32) then
    if pp_ix ((a1 * (6 : Int32)) + a2) 48 then
    if pp_ix (a4 + a6) a3n then
    if pp_ix a6 3 then
    k49 (ppS σ 11 ((((a1 * (6 : Int32)) + a2).toNatClampNeg * 3) + a6.toNatClampNeg) (σ.1 a3t (a3o + (a4 + a6).toNatClampNeg))) a1 a2 a3t a3o a3n a4 (a6 + (1 : Int32))
    else none
    else none
    else none
  else
    some ((1 : Int32), σ)
def f_X4_take_49 : Nat → pp_M → Int32 → Int32 → Nat → Nat → Nat → Int32 → Int32 → Option (Int32 × pp_M)
  | 0 => fun _ _ _ _ _ _ _ _ => none
  | n + 1 => fun σ a1 a2 a3t a3o a3n a4 a6 => f_X4_take_49_B (f_X4_take_49 n) σ a1 a2 a3t a3o a3n a4 a6
def f_X4_take_7_B (k7 : pp_M → Int32 → Int32 → Nat → Nat → Nat → Int32 → Int32 → Int32 → Option (Int32 × pp_M)) (σ : pp_M) (a1 : Int32) (a2 : Int32) (a3t : Nat) (a3o : Nat) (a3n : Nat) (a4 : Int32) (a5 : Int32) (a6 : Int32) : Option (Int32 × pp_M) :=
  if a6 < (3 : Int32) then
    if pp_ix (a4 + a6) a3n then
    (f_X8_within σ (σ.1 a3t (a3o + (a4 + a6).toNatClampNeg)) (0 : Int32) a5).bind fun x23 =>
    if x23.1 = 0 then
      some ((0 : Int32), x23.2)
    else
      k7 x23.2 a1 a2 a3t a3o a3n a4 (x23.2.1 a3t (a3o + (a4 + a6).toNatClampNeg)) (a6 + (1 : Int32))
    else none
  else
    f_X4_take_49 100000 σ a1 a2 a3t a3o a3n a4 (0 : Int32)
def f_X4_take_7 : Nat → pp_M → Int32 → Int32 → Nat → Nat → Nat → Int32 → Int32 → Int32 → Option (Int32 × pp_M)
  | 0 => fun _ _ _ _ _ _ _ _ _ => none
  | n + 1 => fun σ a1 a2 a3t a3o a3n a4 a5 a6 => f_X4_take_7_B (f_X4_take_7 n) σ a1 a2 a3t a3o a3n a4 a5 a6
def f_X4_take (σ : pp_M) (a1 : Int32) (a2 : Int32) (a3t : Nat) (a3o : Nat) (a3n : Nat) (a4 : Int32) : Option (Int32 × pp_M) :=
  f_X4_take_7 100000 σ a1 a2 a3t a3o a3n a4 (16 : Int32) (0 : Int32)
/-! X3_tellTo -/
def f_X3_tellTo_4_B (k4 : pp_M → Int32 → Int32 → Option (Int32 × pp_M)) (σ : pp_M) (a2 : Int32) (a3 : Int32) : Option (Int32 × pp_M) :=
  if a2 < (40 : Int32) then
    if a3 < (σ.1 13 5) then
      (f_X3_readPart σ a3).bind fun x20 =>
      if x20.1 = (-1 : Int32) then
        (f_X4_take x20.2 (x20.2.1 13 2) (x20.2.1 13 3) 15 0 3 (0 : Int32)).bind fun x41 =>
        k4 x41.2 (a2 + (1 : Int32)) ((x41.2.1 13 4) + (1 : Int32))
      else
        some (a2, x20.2)
    else
      some (a2, σ)
  else
    some (a2, σ)
def f_X3_tellTo_4 : Nat → pp_M → Int32 → Int32 → Option (Int32 × pp_M)
  | 0 => fun _ _ _ => none
  | n + 1 => fun σ a2 a3 => f_X3_tellTo_4_B (f_X3_tellTo_4 n) σ a2 a3
def f_X3_tellTo (σ : pp_M)  : Option (Int32 × pp_M) :=
  f_X3_tellTo_4 100000 σ (0 : Int32) (0 : Int32)
/-! X4_countChances -/
def f_X4_countChances_44 (k4 : pp_M → Int32 → Int32 → Option (Int32 × pp_M)) (k12 : pp_M → Int32 → Int32 → Int32 → Option (Int32 × pp_M)) (k21 : pp_M → Int32 → Int32 → Int32 → Int32 → Option (Int32 × pp_M)) (σ : pp_M) (a2 : Int32) (a3 : Int32) (a4 : Int32) (b0 : Int32) (b1 : Int32) : Option (Int32 × pp_M) :=
  k21 σ (b0 + b1) a2 a3 (a4 + (1 : Int32))
def f_X4_countChances_21_B (k4 : pp_M → Int32 → Int32 → Option (Int32 × pp_M)) (k12 : pp_M → Int32 → Int32 → Int32 → Option (Int32 × pp_M)) (k21 : pp_M → Int32 → Int32 → Int32 → Int32 → Option (Int32 × pp_M)) (σ : pp_M) (a1 : Int32) (a2 : Int32) (a3 : Int32) (a4 : Int32) : Option (Int32 × pp_M) :=
  if a4 < (3 : Int32) then
    (f_X4_chanceOf σ a2 a3 a4).bind fun x33 =>
    if 0 < x33.1 then
      f_X4_countChances_44 k4 k12 k21 x33.2 a2 a3 a4 a1 (1 : Int32)
    else
      f_X4_countChances_44 k4 k12 k21 x33.2 a2 a3 a4 a1 (0 : Int32)
  else
    k12 σ a1 a2 (a3 + (1 : Int32))
def f_X4_countChances_21 (k4 : pp_M → Int32 → Int32 → Option (Int32 × pp_M)) (k12 : pp_M → Int32 → Int32 → Int32 → Option (Int32 × pp_M)) : Nat → pp_M → Int32 → Int32 → Int32 → Int32 → Option (Int32 × pp_M)
  | 0 => fun _ _ _ _ _ => none
  | n + 1 => fun σ a1 a2 a3 a4 => f_X4_countChances_21_B k4 k12 (f_X4_countChances_21 k4 k12 n) σ a1 a2 a3 a4
def f_X4_countChances_12_B (k4 : pp_M → Int32 → Int32 → Option (Int32 × pp_M)) (k12 : pp_M → Int32 → Int32 → Int32 → Option (Int32 × pp_M)) (σ : pp_M) (a1 : Int32) (a2 : Int32) (a3 : Int32) : Option (Int32 × pp_M) :=
  if a3 < (6 : Int32) then
    f_X4_countChances_21 k4 k12 100000 σ a1 a2 a3 (0 : Int32)
  else
    k4 σ a1 (a2 + (1 : Int32))
def f_X4_countChances_12 (k4 : pp_M → Int32 → Int32 → Option (Int32 × pp_M)) : Nat → pp_M → Int32 → Int32 → Int32 → Option (Int32 × pp_M)
  | 0 => fun _ _ _ _ => none
  | n + 1 => fun σ a1 a2 a3 => f_X4_countChances_12_B k4 (f_X4_countChances_12 k4 n) σ a1 a2 a3
def f_X4_countChances_4_B (k4 : pp_M → Int32 → Int32 → Option (Int32 × pp_M)) (σ : pp_M) (a1 : Int32) (a2 : Int32) : Option (Int32 × pp_M) :=
  if (7 : Int32) < a2 then
    some (a1, σ)
  else
    f_X4_countChances_12 k4 100000 σ a1 a2 (0 : Int32)
def f_X4_countChances_4 : Nat → pp_M → Int32 → Int32 → Option (Int32 × pp_M)
  | 0 => fun _ _ _ => none
  | n + 1 => fun σ a1 a2 => f_X4_countChances_4_B (f_X4_countChances_4 n) σ a1 a2
def f_X4_countChances (σ : pp_M)  : Option (Int32 × pp_M) :=
  f_X4_countChances_4 100000 σ (0 : Int32) (1 : Int32)
/-! X5_leastNumber -/
def f_X5_leastNumber_15_B (k15 : pp_M → Int32 → Int32 → Int32 → Int32 → Option (Int32 × pp_M)) (σ : pp_M) (a1 : Int32) (a2 : Int32) (a3 : Int32) (a4 : Int32) : Option (Int32 × pp_M) :=
  if pp_ix a1 6 then
  if (σ.1 28 a1.toNatClampNeg) < a4 then
    some ((0 : Int32), σ)
  else
    if a2 < (a4 * a3) then
      some ((0 : Int32), σ)
    else
      if pp_ix a4 5 then
      if pp_ix (a1 + (1 : Int32)) 7 then
      if pp_ix (a2 - (a4 * a3)) 101 then
      if pp_ix a1 7 then
      if pp_ix a2 101 then
      if ((σ.2 27 ((a1.toNatClampNeg * 5) + a4.toNatClampNeg)) + (σ.2 30 (((a1 + (1 : Int32)).toNatClampNeg * 101) + (a2 - (a4 * a3)).toNatClampNeg))) = (σ.2 30 ((a1.toNatClampNeg * 101) + a2.toNatClampNeg)) then
        some (a4, σ)
      else
        k15 σ a1 a2 a3 (a4 + (1 : Int32))
      else none
      else none
      else none
      else none
      else none
  else none
def f_X5_leastNumber_15 : Nat → pp_M → Int32 → Int32 → Int32 → Int32 → Option (Int32 × pp_M)
  | 0 => fun _ _ _ _ _ => none
  | n + 1 => fun σ a1 a2 a3 a4 => f_X5_leastNumber_15_B (f_X5_leastNumber_15 n) σ a1 a2 a3 a4
def f_X5_leastNumber (σ : pp_M) (a1 : Int32) (a2 : Int32) : Option (Int32 × pp_M) :=
  if pp_ix a1 6 then
  f_X5_leastNumber_15 100000 σ a1 a2 (σ.1 3 ((a1.toNatClampNeg * 6) + 1)) (0 : Int32)
  else none
/-! X5_fillMost -/
def f_X5_fillMost_92 (k26 : pp_M → Int32 → Int32 → Int32 → Int32 → Nat → Int32 → Option (pp_M)) (σ : pp_M) (a1 : Int32) (a2 : Int32) (a3 : Int32) (a4 : Int32) (a5o : Nat) (a6 : Int32) (a7 : Int64) : Option (pp_M) :=
  if pp_ix a1 7 then
  if pp_ix a6 101 then
  k26 (ppT σ 30 ((a1.toNatClampNeg * 101) + a6.toNatClampNeg) a7) a1 a2 a3 a4 a5o (a6 + (1 : Int32))
  else none
  else none
def f_X5_fillMost_42_B (k26 : pp_M → Int32 → Int32 → Int32 → Int32 → Nat → Int32 → Option (pp_M)) (k42 : pp_M → Int32 → Int32 → Int32 → Int32 → Nat → Int32 → Int64 → Int32 → Option (pp_M)) (σ : pp_M) (a1 : Int32) (a2 : Int32) (a3 : Int32) (a4 : Int32) (a5o : Nat) (a6 : Int32) (a7 : Int64) (a9 : Int32) : Option (pp_M) :=
  if a3 < a9 then
    f_X5_fillMost_92 k26 σ a1 a2 a3 a4 a5o a6 a7
  else
    if a6 < (a9 * a4) then
      f_X5_fillMost_92 k26 σ a1 a2 a3 a4 a5o a6 a7
    else
      if pp_ix a1 6 then
      if pp_ix a9 5 then
      if pp_ix (a6 - (a9 * a4)) 101 then
      k42 σ a1 a2 a3 a4 a5o a6 (if ((σ.2 27 ((a1.toNatClampNeg * 5) + a9.toNatClampNeg)) + (σ.2 30 (a5o + (a6 - (a9 * a4)).toNatClampNeg))) < a7 then a7 else ((σ.2 27 ((a1.toNatClampNeg * 5) + a9.toNatClampNeg)) + (σ.2 30 (a5o + (a6 - (a9 * a4)).toNatClampNeg)))) (a9 + (1 : Int32))
      else none
      else none
      else none
def f_X5_fillMost_42 (k26 : pp_M → Int32 → Int32 → Int32 → Int32 → Nat → Int32 → Option (pp_M)) : Nat → pp_M → Int32 → Int32 → Int32 → Int32 → Nat → Int32 → Int64 → Int32 → Option (pp_M)
  | 0 => fun _ _ _ _ _ _ _ _ _ => none
  | n + 1 => fun σ a1 a2 a3 a4 a5o a6 a7 a9 => f_X5_fillMost_42_B k26 (f_X5_fillMost_42 k26 n) σ a1 a2 a3 a4 a5o a6 a7 a9
def f_X5_fillMost_26_B (k26 : pp_M → Int32 → Int32 → Int32 → Int32 → Nat → Int32 → Option (pp_M)) (σ : pp_M) (a1 : Int32) (a2 : Int32) (a3 : Int32) (a4 : Int32) (a5o : Nat) (a6 : Int32) : Option (pp_M) :=
  if a2 < a6 then
    some σ
  else
    if pp_ix a6 101 then
    f_X5_fillMost_42 k26 100000 σ a1 a2 a3 a4 a5o a6 (σ.2 30 (a5o + a6.toNatClampNeg)) (1 : Int32)
    else none
def f_X5_fillMost_26 : Nat → pp_M → Int32 → Int32 → Int32 → Int32 → Nat → Int32 → Option (pp_M)
  | 0 => fun _ _ _ _ _ _ _ => none
  | n + 1 => fun σ a1 a2 a3 a4 a5o a6 => f_X5_fillMost_26_B (f_X5_fillMost_26 n) σ a1 a2 a3 a4 a5o a6
def f_X5_fillMost (σ : pp_M) (a1 : Int32) (a2 : Int32) (a3 : Int32) : Option (pp_M) :=
  if pp_ix a1 6 then
  if pp_ix (a1 + (1 : Int32)) 7 then
  f_X5_fillMost_26 100000 σ a1 a2 a3 (σ.1 3 ((a1.toNatClampNeg * 6) + 1)) ((a1 + (1 : Int32)).toNatClampNeg * 101) (0 : Int32)
  else none
  else none
/-! X5_mostGain -/
def f_X5_mostGain_24 (k2 : pp_M → Int32 → Int32 → Int32 → Option (Int64 × pp_M)) (σ : pp_M) (a1 : Int32) (a2 : Int32) (a3 : Int32) (b1 : Int32) (b2 : Int32) (b3 : Int32) : Option (Int64 × pp_M) :=
  (f_X5_fillMost σ b1 b2 b3).bind fun x24 =>
  k2 x24 a1 a2 (a3 + (-1 : Int32))
def f_X5_mostGain_2_B (k2 : pp_M → Int32 → Int32 → Int32 → Option (Int64 × pp_M)) (σ : pp_M) (a1 : Int32) (a2 : Int32) (a3 : Int32) : Option (Int64 × pp_M) :=
  if a3 < 0 then
    if pp_ix a1 101 then
    some ((σ.2 30 a1.toNatClampNeg), σ)
    else none
  else
    if a3 = a2 then
      f_X5_mostGain_24 k2 σ a1 a2 a3 a3 a1 (0 : Int32)
    else
      if pp_ix a3 6 then
      f_X5_mostGain_24 k2 σ a1 a2 a3 a3 a1 (σ.1 28 a3.toNatClampNeg)
      else none
def f_X5_mostGain_2 : Nat → pp_M → Int32 → Int32 → Int32 → Option (Int64 × pp_M)
  | 0 => fun _ _ _ _ => none
  | n + 1 => fun σ a1 a2 a3 => f_X5_mostGain_2_B (f_X5_mostGain_2 n) σ a1 a2 a3
def f_X5_mostGain (σ : pp_M) (a1 : Int32) (a2 : Int32) : Option (Int64 × pp_M) :=
  f_X5_mostGain_2 100000 σ a1 a2 (5 : Int32)
/-! X5_chooseBest -/
def f_X5_chooseBest_39_B (k39 : pp_M → Int32 → Int32 → Option (pp_M)) (σ : pp_M) (a4 : Int32) (a5 : Int32) : Option (pp_M) :=
  if a5 < (6 : Int32) then
    (f_X5_leastNumber σ a5 a4).bind fun x57 =>
    if pp_ix a5 6 then
    k39 (ppS x57.2 32 a5.toNatClampNeg x57.1) (a4 - (((ppS x57.2 32 a5.toNatClampNeg x57.1).1 32 a5.toNatClampNeg) * ((ppS x57.2 32 a5.toNatClampNeg x57.1).1 3 ((a5.toNatClampNeg * 6) + 1)))) (a5 + (1 : Int32))
    else none
  else
    some σ
def f_X5_chooseBest_39 : Nat → pp_M → Int32 → Int32 → Option (pp_M)
  | 0 => fun _ _ _ => none
  | n + 1 => fun σ a4 a5 => f_X5_chooseBest_39_B (f_X5_chooseBest_39 n) σ a4 a5
def f_X5_chooseBest_36 (σ : pp_M) (a4 : Int32) : Option (pp_M) :=
  f_X5_chooseBest_39 100000 σ a4 (0 : Int32)
def f_X5_chooseBest_10_B (k10 : pp_M → Int32 → Int64 → Int32 → Option (pp_M)) (σ : pp_M) (a1 : Int32) (a2 : Int64) (a4 : Int32) : Option (pp_M) :=
  if a4 < a1 then
    if pp_ix a4 101 then
    if (σ.2 30 a4.toNatClampNeg) < a2 then
      k10 σ a1 a2 (a4 + (1 : Int32))
    else
      f_X5_chooseBest_36 σ a4
    else none
  else
    f_X5_chooseBest_36 σ a4
def f_X5_chooseBest_10 : Nat → pp_M → Int32 → Int64 → Int32 → Option (pp_M)
  | 0 => fun _ _ _ _ => none
  | n + 1 => fun σ a1 a2 a4 => f_X5_chooseBest_10_B (f_X5_chooseBest_10 n) σ a1 a2 a4
def f_X5_chooseBest (σ : pp_M) (a1 : Int32) : Option (pp_M) :=
  (f_X5_mostGain σ a1 (-1 : Int32)).bind fun x3 =>
  f_X5_chooseBest_10 100000 x3.2 a1 x3.1 (0 : Int32)
/-! X5_stepGain -/
def f_X5_stepGain (σ : pp_M) (a1 : Int32) (a2 : Int32) : Option (Int64 × pp_M) :=
  if pp_ix a1 6 then
  if pp_ix (a2 + (1 : Int32)) 5 then
  if pp_ix a2 5 then
  some (((σ.2 27 ((a1.toNatClampNeg * 5) + (a2 + (1 : Int32)).toNatClampNeg)) - (σ.2 27 ((a1.toNatClampNeg * 5) + a2.toNatClampNeg))), σ)
  else none
  else none
  else none
/-! X5_nextLoaded -/
def f_X5_nextLoaded_88 (k10 : pp_M → Int32 → Int32 → Int64 → Int32 → Int32 → Option (Int32 × pp_M)) (σ : pp_M) (a1 : Int32) (a2 : Int32) (a3 : Int64) (a5 : Int32) (a6 : Int32) : Option (Int32 × pp_M) :=
  k10 σ a1 a2 a3 a5 (a6 + (1 : Int32))
def f_X5_nextLoaded_10_B (k10 : pp_M → Int32 → Int32 → Int64 → Int32 → Int32 → Option (Int32 × pp_M)) (σ : pp_M) (a1 : Int32) (a2 : Int32) (a3 : Int64) (a5 : Int32) (a6 : Int32) : Option (Int32 × pp_M) :=
  if a6 < (6 : Int32) then
    if pp_ix a6 6 then
    if (σ.1 33 a6.toNatClampNeg) < (4 : Int32) then
      if a1 < (σ.1 3 ((a6.toNatClampNeg * 6) + 1)) then
        f_X5_nextLoaded_88 k10 σ a1 a2 a3 a5 a6
      else
        (f_X5_stepGain σ a6 (σ.1 33 a6.toNatClampNeg)).bind fun x58 =>
        if (a3 * (((σ.1 3 ((a6.toNatClampNeg * 6) + 1))).toInt64)) < (x58.1 * (a5.toInt64)) then
          f_X5_nextLoaded_88 k10 x58.2 a1 a6 x58.1 (σ.1 3 ((a6.toNatClampNeg * 6) + 1)) a6
        else
          f_X5_nextLoaded_88 k10 x58.2 a1 a2 a3 a5 a6
    else
      f_X5_nextLoaded_88 k10 σ a1 a2 a3 a5 a6
    else none
  else
    some (a2, σ)
def f_X5_nextLoaded_10 : Nat → pp_M → Int32 → Int32 → Int64 → Int32 → Int32 → Option (Int32 × pp_M)
  | 0 => fun _ _ _ _ _ _ => none
  | n + 1 => fun σ a1 a2 a3 a5 a6 => f_X5_nextLoaded_10_B (f_X5_nextLoaded_10 n) σ a1 a2 a3 a5 a6
def f_X5_nextLoaded (σ : pp_M) (a1 : Int32) : Option (Int32 × pp_M) :=
  f_X5_nextLoaded_10 100000 σ a1 (-1 : Int32) (0 : Int64) (1 : Int32) (0 : Int32)
/-! X5_chooseLoaded -/
def f_X5_chooseLoaded_25_B (k25 : pp_M → Int32 → Int32 → Option (pp_M)) (σ : pp_M) (a2 : Int32) (a3 : Int32) : Option (pp_M) :=
  if a3 < (24 : Int32) then
    (f_X5_nextLoaded σ a2).bind fun x33 =>
    if x33.1 = (-1 : Int32) then
      some x33.2
    else
      if pp_ix x33.1 6 then
      k25 (ppS x33.2 33 x33.1.toNatClampNeg ((x33.2.1 33 x33.1.toNatClampNeg) + (1 : Int32))) (a2 - ((ppS x33.2 33 x33.1.toNatClampNeg ((x33.2.1 33 x33.1.toNatClampNeg) + (1 : Int32))).1 3 ((x33.1.toNatClampNeg * 6) + 1))) (a3 + (1 : Int32))
      else none
  else
    some σ
def f_X5_chooseLoaded_25 : Nat → pp_M → Int32 → Int32 → Option (pp_M)
  | 0 => fun _ _ _ => none
  | n + 1 => fun σ a2 a3 => f_X5_chooseLoaded_25_B (f_X5_chooseLoaded_25 n) σ a2 a3
def f_X5_chooseLoaded_4_B (k4 : pp_M → Int32 → Int32 → Option (pp_M)) (σ : pp_M) (a2 : Int32) (a3 : Int32) : Option (pp_M) :=
  if a3 < (6 : Int32) then
    if pp_ix a3 6 then
    k4 (ppS σ 33 a3.toNatClampNeg (0 : Int32)) a2 (a3 + (1 : Int32))
    else none
  else
    f_X5_chooseLoaded_25 100000 σ a2 (0 : Int32)
def f_X5_chooseLoaded_4 : Nat → pp_M → Int32 → Int32 → Option (pp_M)
  | 0 => fun _ _ _ => none
  | n + 1 => fun σ a2 a3 => f_X5_chooseLoaded_4_B (f_X5_chooseLoaded_4 n) σ a2 a3
def f_X5_chooseLoaded (σ : pp_M) (a1 : Int32) : Option (pp_M) :=
  f_X5_chooseLoaded_4 100000 σ a1 (0 : Int32)
/-! X5_nextStep -/
def f_X5_nextStep_82 (k10 : pp_M → Int32 → Int64 → Int32 → Int32 → Option (Int32 × pp_M)) (σ : pp_M) (a1 : Int32) (a2 : Int64) (a4 : Int32) (a5 : Int32) : Option (Int32 × pp_M) :=
  k10 σ a1 a2 a4 (a5 + (1 : Int32))
def f_X5_nextStep_10_B (k10 : pp_M → Int32 → Int64 → Int32 → Int32 → Option (Int32 × pp_M)) (σ : pp_M) (a1 : Int32) (a2 : Int64) (a4 : Int32) (a5 : Int32) : Option (Int32 × pp_M) :=
  if a5 < (24 : Int32) then
    if pp_ix (a5 / (4 : Int32)) 6 then
    (f_X5_stepGain σ (a5 / (4 : Int32)) (a5 - a5 / (4 : Int32) * (4 : Int32))).bind fun x42 =>
    if pp_ix a5 24 then
    if (x42.2.1 31 a5.toNatClampNeg) = 0 then
      if (a2 * (((σ.1 3 (((a5 / (4 : Int32)).toNatClampNeg * 6) + 1))).toInt64)) < (x42.1 * (a4.toInt64)) then
        f_X5_nextStep_82 k10 x42.2 a5 x42.1 (σ.1 3 (((a5 / (4 : Int32)).toNatClampNeg * 6) + 1)) a5
      else
        f_X5_nextStep_82 k10 x42.2 a1 a2 a4 a5
    else
      f_X5_nextStep_82 k10 x42.2 a1 a2 a4 a5
    else none
    else none
  else
    some (a1, σ)
def f_X5_nextStep_10 : Nat → pp_M → Int32 → Int64 → Int32 → Int32 → Option (Int32 × pp_M)
  | 0 => fun _ _ _ _ _ => none
  | n + 1 => fun σ a1 a2 a4 a5 => f_X5_nextStep_10_B (f_X5_nextStep_10 n) σ a1 a2 a4 a5
def f_X5_nextStep (σ : pp_M)  : Option (Int32 × pp_M) :=
  f_X5_nextStep_10 100000 σ (-1 : Int32) (0 : Int64) (1 : Int32) (0 : Int32)
/-! X5_findBound -/
def f_X5_findBound_147 (k37 : pp_M → Int32 → Int32 → Option (pp_M)) (σ : pp_M) (a2 : Int32) (a3 : Int32) (a7 : Int32) : Option (pp_M) :=
  k37 σ (a2 - a7) (a3 + (1 : Int32))
def f_X5_findBound_37_B (k37 : pp_M → Int32 → Int32 → Option (pp_M)) (σ : pp_M) (a2 : Int32) (a3 : Int32) : Option (pp_M) :=
  if a3 < (24 : Int32) then
    if 0 < a2 then
      (f_X5_nextStep σ).bind fun x48 =>
      if x48.1 = (-1 : Int32) then
        some x48.2
      else
        if pp_ix x48.1 24 then
        (f_X5_stepGain (ppS x48.2 31 x48.1.toNatClampNeg (1 : Int32)) (x48.1 / (4 : Int32)) (x48.1 - x48.1 / (4 : Int32) * (4 : Int32))).bind fun x77 =>
        if pp_ix (x48.1 / (4 : Int32)) 6 then
        if a2 < (x77.2.1 3 (((x48.1 / (4 : Int32)).toNatClampNeg * 6) + 1)) then
          f_X5_findBound_147 k37 (ppT (ppT x77.2 25 7 (((x77.2.2 25 7) * (((x77.2.1 3 (((x48.1 / (4 : Int32)).toNatClampNeg * 6) + 1))).toInt64)) + (x77.1 * (a2.toInt64)))) 25 8 ((268435456 : Int64) * (((x77.2.1 3 (((x48.1 / (4 : Int32)).toNatClampNeg * 6) + 1))).toInt64))) a2 a3 (x77.2.1 3 (((x48.1 / (4 : Int32)).toNatClampNeg * 6) + 1))
        else
          f_X5_findBound_147 k37 (ppT x77.2 25 7 ((x77.2.2 25 7) + x77.1)) a2 a3 (x77.2.1 3 (((x48.1 / (4 : Int32)).toNatClampNeg * 6) + 1))
        else none
        else none
    else
      some σ
  else
    some σ
def f_X5_findBound_37 : Nat → pp_M → Int32 → Int32 → Option (pp_M)
  | 0 => fun _ _ _ => none
  | n + 1 => fun σ a2 a3 => f_X5_findBound_37_B (f_X5_findBound_37 n) σ a2 a3
def f_X5_findBound_2_B (k2 : pp_M → Int32 → Int32 → Option (pp_M)) (σ : pp_M) (a1 : Int32) (a2 : Int32) : Option (pp_M) :=
  if a2 < (24 : Int32) then
    if pp_ix a2 24 then
    k2 (ppS σ 31 a2.toNatClampNeg (0 : Int32)) a1 (a2 + (1 : Int32))
    else none
  else
    f_X5_findBound_37 100000 (ppT (ppT σ 25 7 (0 : Int64)) 25 8 (268435456 : Int64)) a1 (0 : Int32)
def f_X5_findBound_2 : Nat → pp_M → Int32 → Int32 → Option (pp_M)
  | 0 => fun _ _ _ => none
  | n + 1 => fun σ a1 a2 => f_X5_findBound_2_B (f_X5_findBound_2 n) σ a1 a2
def f_X5_findBound (σ : pp_M) (a1 : Int32) : Option (pp_M) :=
  f_X5_findBound_2 100000 σ a1 (0 : Int32)
/-! X5_gainOf -/
def f_X5_gainOf_5_B (k5 : pp_M → Nat → Nat → Nat → Int64 → Int32 → Option (Int64 × pp_M)) (σ : pp_M) (a1t : Nat) (a1o : Nat) (a1n : Nat) (a2 : Int64) (a4 : Int32) : Option (Int64 × pp_M) :=
  if a4 < (6 : Int32) then
    if pp_ix a4 6 then
    if pp_ix a4 a1n then
    if pp_ix (σ.1 a1t (a1o + a4.toNatClampNeg)) 5 then
    k5 σ a1t a1o a1n (a2 + (σ.2 27 ((a4.toNatClampNeg * 5) + (σ.1 a1t (a1o + a4.toNatClampNeg)).toNatClampNeg))) (a4 + (1 : Int32))
    else none
    else none
    else none
  else
    some (a2, σ)
def f_X5_gainOf_5 : Nat → pp_M → Nat → Nat → Nat → Int64 → Int32 → Option (Int64 × pp_M)
  | 0 => fun _ _ _ _ _ _ => none
  | n + 1 => fun σ a1t a1o a1n a2 a4 => f_X5_gainOf_5_B (f_X5_gainOf_5 n) σ a1t a1o a1n a2 a4
def f_X5_gainOf (σ : pp_M) (a1t : Nat) (a1o : Nat) (a1n : Nat) : Option (Int64 × pp_M) :=
  f_X5_gainOf_5 100000 σ a1t a1o a1n (0 : Int64) (0 : Int32)
/-! X5_leastBringing -/
def f_X5_leastBringing_96 (k20 : pp_M → Int32 → Int32 → Int64 → Int32 → Int64 → Int32 → Option (Int32 × pp_M)) (σ : pp_M) (a1 : Int32) (a2 : Int32) (a3 : Int64) (a5 : Int32) (a6 : Int64) (a8 : Int32) : Option (Int32 × pp_M) :=
  k20 σ a1 a2 a3 a5 a6 (a8 + (1 : Int32))
def f_X5_leastBringing_86 (k20 : pp_M → Int32 → Int32 → Int64 → Int32 → Int64 → Int32 → Option (Int32 × pp_M)) (σ : pp_M) (a1 : Int32) (a6 : Int64) (a8 : Int32) (a9 : Int32) (a10 : Int64) : Option (Int32 × pp_M) :=
  f_X5_leastBringing_96 k20 σ a1 a8 a10 a9 a6 a8
def f_X5_leastBringing_20_B (k20 : pp_M → Int32 → Int32 → Int64 → Int32 → Int64 → Int32 → Option (Int32 × pp_M)) (σ : pp_M) (a1 : Int32) (a2 : Int32) (a3 : Int64) (a5 : Int32) (a6 : Int64) (a8 : Int32) : Option (Int32 × pp_M) :=
  if a8 < (6 : Int32) then
    if pp_ix a8 6 then
    if 0 < ((σ.1 32 a8.toNatClampNeg) * (σ.1 3 ((a8.toNatClampNeg * 6) + 1))) then
      (f_X5_mostGain σ a1 a8).bind fun x60 =>
      if a2 = (-1 : Int32) then
        f_X5_leastBringing_86 k20 x60.2 a1 a6 a8 ((σ.1 32 a8.toNatClampNeg) * (σ.1 3 ((a8.toNatClampNeg * 6) + 1))) (a6 - x60.1)
      else
        if ((a6 - x60.1) * (a5.toInt64)) < (a3 * ((((σ.1 32 a8.toNatClampNeg) * (σ.1 3 ((a8.toNatClampNeg * 6) + 1)))).toInt64)) then
          f_X5_leastBringing_86 k20 x60.2 a1 a6 a8 ((σ.1 32 a8.toNatClampNeg) * (σ.1 3 ((a8.toNatClampNeg * 6) + 1))) (a6 - x60.1)
        else
          f_X5_leastBringing_96 k20 x60.2 a1 a2 a3 a5 a6 a8
    else
      f_X5_leastBringing_96 k20 σ a1 a2 a3 a5 a6 a8
    else none
  else
    some (a2, σ)
def f_X5_leastBringing_20 : Nat → pp_M → Int32 → Int32 → Int64 → Int32 → Int64 → Int32 → Option (Int32 × pp_M)
  | 0 => fun _ _ _ _ _ _ _ => none
  | n + 1 => fun σ a1 a2 a3 a5 a6 a8 => f_X5_leastBringing_20_B (f_X5_leastBringing_20 n) σ a1 a2 a3 a5 a6 a8
def f_X5_leastBringing (σ : pp_M) (a1 : Int32) : Option (Int32 × pp_M) :=
  (f_X5_gainOf σ 32 0 6).bind fun x12 =>
  f_X5_leastBringing_20 100000 x12.2 a1 (-1 : Int32) (0 : Int64) (1 : Int32) x12.1 (0 : Int32)
/-! X5_peakGain -/
def f_X5_peakGain (σ : pp_M)  : Option (Int64 × pp_M) :=
  (f_X5_gainOf σ 28 0 6).bind fun x5 =>
  some (x5.1, x5.2)
/-! X5_peaksFit -/
def f_X5_peaksFit (σ : pp_M) (a1 : Int32) : Option (Int32 × pp_M) :=
  (f_X1_weightOf σ 28 0 6).bind fun x8 =>
  if a1 < x8.1 then
    some ((0 : Int32), x8.2)
  else
    some ((1 : Int32), x8.2)
/-! X5_weighGains -/
def f_X5_weighGains_88 (k2 : pp_M → Nat → Nat → Nat → Int32 → Option (pp_M)) (k17 : pp_M → Nat → Nat → Nat → Int32 → Int32 → Option (pp_M)) (σ : pp_M) (a1t : Nat) (a1o : Nat) (a1n : Nat) (a2 : Int32) (a3 : Int32) : Option (pp_M) :=
  k17 σ a1t a1o a1n a2 (a3 + (1 : Int32))
def f_X5_weighGains_17_B (k2 : pp_M → Nat → Nat → Nat → Int32 → Option (pp_M)) (k17 : pp_M → Nat → Nat → Nat → Int32 → Int32 → Option (pp_M)) (σ : pp_M) (a1t : Nat) (a1o : Nat) (a1n : Nat) (a2 : Int32) (a3 : Int32) : Option (pp_M) :=
  if a3 < (5 : Int32) then
    if pp_ix a2 6 then
    if pp_ix ((a2 * (5 : Int32)) + a3) a1n then
    if pp_ix a3 5 then
    if pp_ix ((ppT σ 27 ((a2.toNatClampNeg * 5) + a3.toNatClampNeg) ((σ.2 a1t (a1o + ((a2 * (5 : Int32)) + a3).toNatClampNeg)) - ((((a3 * (σ.1 3 ((a2.toNatClampNeg * 6) + 0)))).toInt64) * (268435456 : Int64)))).1 28 a2.toNatClampNeg) 5 then
    if ((ppT σ 27 ((a2.toNatClampNeg * 5) + a3.toNatClampNeg) ((σ.2 a1t (a1o + ((a2 * (5 : Int32)) + a3).toNatClampNeg)) - ((((a3 * (σ.1 3 ((a2.toNatClampNeg * 6) + 0)))).toInt64) * (268435456 : Int64)))).2 27 ((a2.toNatClampNeg * 5) + ((ppT σ 27 ((a2.toNatClampNeg * 5) + a3.toNatClampNeg) ((σ.2 a1t (a1o + ((a2 * (5 : Int32)) + a3).toNatClampNeg)) - ((((a3 * (σ.1 3 ((a2.toNatClampNeg * 6) + 0)))).toInt64) * (268435456 : Int64)))).1 28 a2.toNatClampNeg).toNatClampNeg)) < ((ppT σ 27 ((a2.toNatClampNeg * 5) + a3.toNatClampNeg) ((σ.2 a1t (a1o + ((a2 * (5 : Int32)) + a3).toNatClampNeg)) - ((((a3 * (σ.1 3 ((a2.toNatClampNeg * 6) + 0)))).toInt64) * (268435456 : Int64)))).2 27 ((a2.toNatClampNeg * 5) + a3.toNatClampNeg)) then
      f_X5_weighGains_88 k2 k17 (ppS (ppT σ 27 ((a2.toNatClampNeg * 5) + a3.toNatClampNeg) ((σ.2 a1t (a1o + ((a2 * (5 : Int32)) + a3).toNatClampNeg)) - ((((a3 * (σ.1 3 ((a2.toNatClampNeg * 6) + 0)))).toInt64) * (268435456 : Int64)))) 28 a2.toNatClampNeg a3) a1t a1o a1n a2 a3
    else
      f_X5_weighGains_88 k2 k17 (ppT σ 27 ((a2.toNatClampNeg * 5) + a3.toNatClampNeg) ((σ.2 a1t (a1o + ((a2 * (5 : Int32)) + a3).toNatClampNeg)) - ((((a3 * (σ.1 3 ((a2.toNatClampNeg * 6) + 0)))).toInt64) * (268435456 : Int64)))) a1t a1o a1n a2 a3
    else none
    else none
    else none
    else none
  else
    k2 σ a1t a1o a1n (a2 + (1 : Int32))
def f_X5_weighGains_17 (k2 : pp_M → Nat → Nat → Nat → Int32 → Option (pp_M)) : Nat → pp_M → Nat → Nat → Nat → Int32 → Int32 → Option (pp_M)
  | 0 => fun _ _ _ _ _ _ => none
  | n + 1 => fun σ a1t a1o a1n a2 a3 => f_X5_weighGains_17_B k2 (f_X5_weighGains_17 k2 n) σ a1t a1o a1n a2 a3
def f_X5_weighGains_2_B (k2 : pp_M → Nat → Nat → Nat → Int32 → Option (pp_M)) (σ : pp_M) (a1t : Nat) (a1o : Nat) (a1n : Nat) (a2 : Int32) : Option (pp_M) :=
  if a2 < (6 : Int32) then
    if pp_ix a2 6 then
    f_X5_weighGains_17 k2 100000 (ppS σ 28 a2.toNatClampNeg (0 : Int32)) a1t a1o a1n a2 (0 : Int32)
    else none
  else
    some σ
def f_X5_weighGains_2 : Nat → pp_M → Nat → Nat → Nat → Int32 → Option (pp_M)
  | 0 => fun _ _ _ _ _ => none
  | n + 1 => fun σ a1t a1o a1n a2 => f_X5_weighGains_2_B (f_X5_weighGains_2 n) σ a1t a1o a1n a2
def f_X5_weighGains (σ : pp_M) (a1t : Nat) (a1o : Nat) (a1n : Nat) : Option (pp_M) :=
  f_X5_weighGains_2 100000 σ a1t a1o a1n (0 : Int32)
/-! X6_isBetter -/
def f_X6_isBetter_32 (σ : pp_M)  : Option (Int32 × pp_M) :=
  some ((1 : Int32), σ)
def f_X6_isBetter (σ : pp_M) (a1 : Int32) (a2 : Int32) (a3 : Int64) : Option (Int32 × pp_M) :=
  if pp_ix a1 128 then
  if (σ.2 37 a1.toNatClampNeg) < a3 then
    f_X6_isBetter_32 σ
  else
    if a3 = (σ.2 37 a1.toNatClampNeg) then
      if a2 < (σ.1 38 a1.toNatClampNeg) then
        f_X6_isBetter_32 σ
      else
        some ((0 : Int32), σ)
    else
      some ((0 : Int32), σ)
  else none
/-! X6_bestSet -/
def f_X6_bestSet_46 (k4 : pp_M → Int32 → Int32 → Option (Int32 × pp_M)) (σ : pp_M) (a1 : Int32) (a2 : Int32) : Option (Int32 × pp_M) :=
  k4 σ a1 (a2 + (1 : Int32))
def f_X6_bestSet_4_B (k4 : pp_M → Int32 → Int32 → Option (Int32 × pp_M)) (σ : pp_M) (a1 : Int32) (a2 : Int32) : Option (Int32 × pp_M) :=
  if a2 < (128 : Int32) then
    if pp_ix a2 128 then
    if (σ.2 37 a2.toNatClampNeg) = (-9223372036854775808 : Int64) then
      f_X6_bestSet_46 k4 σ a1 a2
    else
      (f_X6_isBetter σ a1 (σ.1 38 a2.toNatClampNeg) (σ.2 37 a2.toNatClampNeg)).bind fun x38 =>
      if x38.1 = 0 then
        f_X6_bestSet_46 k4 x38.2 a1 a2
      else
        f_X6_bestSet_46 k4 x38.2 a2 a2
    else none
  else
    some (a1, σ)
def f_X6_bestSet_4 : Nat → pp_M → Int32 → Int32 → Option (Int32 × pp_M)
  | 0 => fun _ _ _ => none
  | n + 1 => fun σ a1 a2 => f_X6_bestSet_4_B (f_X6_bestSet_4 n) σ a1 a2
def f_X6_bestSet (σ : pp_M)  : Option (Int32 × pp_M) :=
  f_X6_bestSet_4 100000 σ (0 : Int32) (1 : Int32)
/-! X6_bitOf -/
def f_X6_bitOf (σ : pp_M) (a0 : Int32) : Option (Int32 × pp_M) :=
  some (((1 : Int32) <<< ((a0 - (1 : Int32)) &&& 31)), σ)
/-! X6_clear -/
def f_X6_clear_2_B (k2 : pp_M → Int32 → Option (pp_M)) (σ : pp_M) (a1 : Int32) : Option (pp_M) :=
  if a1 < (128 : Int32) then
    if pp_ix a1 128 then
    k2 (ppS (ppT σ 37 a1.toNatClampNeg (-9223372036854775808 : Int64)) 38 a1.toNatClampNeg (0 : Int32)) (a1 + (1 : Int32))
    else none
  else
    (f_X0_comeHome σ).bind fun x35 =>
    some x35
def f_X6_clear_2 : Nat → pp_M → Int32 → Option (pp_M)
  | 0 => fun _ _ => none
  | n + 1 => fun σ a1 => f_X6_clear_2_B (f_X6_clear_2 n) σ a1
def f_X6_clear (σ : pp_M)  : Option (pp_M) :=
  f_X6_clear_2 100000 σ (0 : Int32)
/-! X6_keep -/
def f_X6_keep (σ : pp_M) (a1 : Int32) (a2 : Int32) (a3 : Int64) : Option (pp_M) :=
  (f_X6_isBetter σ a1 a2 a3).bind fun x4 =>
  if x4.1 = 0 then
    some x4.2
  else
    if pp_ix a1 128 then
    some (ppS (ppT x4.2 37 a1.toNatClampNeg a3) 38 a1.toNatClampNeg a2)
    else none
/-! X6_valueOfPack -/
def f_X6_valueOfPack_5_B (k5 : pp_M → Nat → Nat → Nat → Int64 → Int32 → Option (Int64 × pp_M)) (σ : pp_M) (a1t : Nat) (a1o : Nat) (a1n : Nat) (a2 : Int64) (a4 : Int32) : Option (Int64 × pp_M) :=
  if a4 < (6 : Int32) then
    if pp_ix a4 6 then
    if pp_ix ((a4 * (5 : Int32)) + (σ.1 35 a4.toNatClampNeg)) a1n then
    k5 σ a1t a1o a1n (a2 + (σ.2 a1t (a1o + ((a4 * (5 : Int32)) + (σ.1 35 a4.toNatClampNeg)).toNatClampNeg))) (a4 + (1 : Int32))
    else none
    else none
  else
    some (a2, σ)
def f_X6_valueOfPack_5 : Nat → pp_M → Nat → Nat → Nat → Int64 → Int32 → Option (Int64 × pp_M)
  | 0 => fun _ _ _ _ _ _ => none
  | n + 1 => fun σ a1t a1o a1n a2 a4 => f_X6_valueOfPack_5_B (f_X6_valueOfPack_5 n) σ a1t a1o a1n a2 a4
def f_X6_valueOfPack (σ : pp_M) (a1t : Nat) (a1o : Nat) (a1n : Nat) : Option (Int64 × pp_M) :=
  f_X6_valueOfPack_5 100000 σ a1t a1o a1n (0 : Int64) (0 : Int32)
/-! X6_judge -/
def f_X6_judge_94 (σ : pp_M) (b1 : Int32) (b2 : Int32) (b3 : Int64) : Option (pp_M) :=
  (f_X6_keep σ b1 b2 b3).bind fun x94 =>
  some x94
def f_X6_judge (σ : pp_M) (a1 : Int32) (a2 : Int32) (a3 : Int32) : Option (pp_M) :=
  if pp_ix a1 8 then
  if (σ.1 36 7) = 0 then
    (f_X5_weighGains σ 23 (a1.toNatClampNeg * 30) 30).bind fun x37 =>
    (f_X5_peakGain x37).bind fun x44 =>
    (f_X6_isBetter x44.2 a2 a3 x44.1).bind fun x54 =>
    if x54.1 = 0 then
      some x54.2
    else
      (f_X5_peaksFit x54.2 (x54.2.1 36 11)).bind fun x71 =>
      if x71.1 = 0 then
        (f_X5_mostGain x71.2 (x71.2.1 36 11) (-1 : Int32)).bind fun x91 =>
        f_X6_judge_94 x91.2 a2 a3 x91.1
      else
        f_X6_judge_94 x71.2 a2 a3 x44.1
  else
    (f_X6_valueOfPack σ 23 (a1.toNatClampNeg * 30) 30).bind fun x24 =>
    (f_X6_keep x24.2 a2 a3 x24.1).bind fun x27 =>
    some x27
  else none
/-! X6_lengthen -/
def f_X6_lengthen_125 (rc : pp_M → Int32 → Int32 → Int32 → Int32 → Int32 → Option (pp_M)) (k36 : pp_M → Int32 → Int32 → Int32 → Int32 → Int32 → Int32 → Option (pp_M)) (σ : pp_M) (a1 : Int32) (a2 : Int32) (a3 : Int32) (a4 : Int32) (a5 : Int32) (a6 : Int32) : Option (pp_M) :=
  k36 σ a1 a2 a3 a4 a5 (a6 + (1 : Int32))
def f_X6_lengthen_36_B (rc : pp_M → Int32 → Int32 → Int32 → Int32 → Int32 → Option (pp_M)) (k36 : pp_M → Int32 → Int32 → Int32 → Int32 → Int32 → Int32 → Option (pp_M)) (σ : pp_M) (a1 : Int32) (a2 : Int32) (a3 : Int32) (a4 : Int32) (a5 : Int32) (a6 : Int32) : Option (pp_M) :=
  if (7 : Int32) < a6 then
    some σ
  else
    if a1 < (5 : Int32) then
      (f_X6_bitOf σ a6).bind fun x50 =>
      if ((x50.2.1 36 8) &&& x50.1) = 0 then
        f_X6_lengthen_125 rc k36 x50.2 a1 a2 a3 a4 a5 a6
      else
        if (a2 &&& x50.1) = 0 then
          (f_X0_callAt x50.2 (a1 + (1 : Int32)) a6).bind fun x81 =>
          if pp_ix a6 8 then
          if pp_ix a3 8 then
          (rc x81 (a1 + (1 : Int32)) (a2 ||| x50.1) a6 (a4 + (x81.1 8 ((a6.toNatClampNeg * 8) + a3.toNatClampNeg))) (a5 + (a6 <<< (((3 : Int32) * a1) &&& 31)))).bind fun x122 =>
          f_X6_lengthen_125 rc k36 x122 a1 a2 a3 a4 a5 a6
          else none
          else none
        else
          f_X6_lengthen_125 rc k36 x50.2 a1 a2 a3 a4 a5 a6
    else
      some σ
def f_X6_lengthen_36 (rc : pp_M → Int32 → Int32 → Int32 → Int32 → Int32 → Option (pp_M)) : Nat → pp_M → Int32 → Int32 → Int32 → Int32 → Int32 → Int32 → Option (pp_M)
  | 0 => fun _ _ _ _ _ _ _ => none
  | n + 1 => fun σ a1 a2 a3 a4 a5 a6 => f_X6_lengthen_36_B rc (f_X6_lengthen_36 rc n) σ a1 a2 a3 a4 a5 a6
def f_X6_lengthen_0 (rc : pp_M → Int32 → Int32 → Int32 → Int32 → Int32 → Option (pp_M)) (σ : pp_M) (a1 : Int32) (a2 : Int32) (a3 : Int32) (a4 : Int32) (a5 : Int32) : Option (pp_M) :=
  if pp_ix (σ.1 36 9) 8 then
  if pp_ix a3 8 then
  if (σ.1 36 10) < ((σ.1 8 (((σ.1 36 9).toNatClampNeg * 8) + a3.toNatClampNeg)) + a4) then
    some σ
  else
    (f_X6_judge σ a1 a2 a5).bind fun x30 =>
    f_X6_lengthen_36 rc 100000 x30 a1 a2 a3 a4 a5 (1 : Int32)
  else none
  else none
def f_X6_lengthen : Nat → pp_M → Int32 → Int32 → Int32 → Int32 → Int32 → Option (pp_M)
  | 0 => fun _ _ _ _ _ _ => none
  | d + 1 => fun σ a1 a2 a3 a4 a5 => f_X6_lengthen_0 (f_X6_lengthen d) σ a1 a2 a3 a4 a5
/-! X6_findOnward -/
def f_X6_findOnward_27 (σ : pp_M) (a2 : Int32) (a3 : Int32) (a4 : Int32) (b1 : Int32) : Option (pp_M) :=
  (f_X6_clear (ppS (ppS (ppS σ 36 8 b1) 36 9 a3) 36 10 (a2 - a4))).bind fun x44 =>
  (f_X6_lengthen 8 x44 (0 : Int32) (0 : Int32) (0 : Int32) (0 : Int32) (0 : Int32)).bind fun x53 =>
  some x53
def f_X6_findOnward (σ : pp_M) (a1 : Int32) (a2 : Int32) (a3 : Int32) (a4 : Int32) : Option (pp_M) :=
  if a3 = 0 then
    f_X6_findOnward_27 (ppS (ppS σ 36 6 (0 : Int32)) 36 7 (1 : Int32)) a2 a3 a4 a1
  else
    (f_X6_bitOf (ppS (ppS σ 36 6 (0 : Int32)) 36 7 (1 : Int32)) a3).bind fun x21 =>
    f_X6_findOnward_27 x21.2 a2 a3 a4 (a1 &&& (x21.1 ^^^ (-1 : Int32)))
/-! X6_findRounds -/
def f_X6_findRounds (σ : pp_M) (a1 : Int32) (a2 : Int32) (a3 : Int32) : Option (pp_M) :=
  if (σ.1 36 6) = 0 then
    (f_X6_clear (ppS (ppS (ppS (ppS (ppS σ 36 7 (0 : Int32)) 36 8 a1) 36 9 (0 : Int32)) 36 10 a2) 36 11 a3)).bind fun x34 =>
    (f_X6_lengthen 8 x34 (0 : Int32) (0 : Int32) (0 : Int32) (0 : Int32) (0 : Int32)).bind fun x43 =>
    some (ppS x43 36 6 (1 : Int32))
  else
    some σ
/-! X6_forget -/
def f_X6_forget (σ : pp_M)  : Option (pp_M) :=
  some (ppS σ 36 6 (0 : Int32))
/-! X6_partWith -/
def f_X6_partWith_78 (k2 : pp_M → Int32 → Int32 → Int32 → Option (pp_M)) (σ : pp_M) (a1 : Int32) (a2 : Int32) (a3 : Int32) : Option (pp_M) :=
  k2 σ a1 a2 (a3 + (1 : Int32))
def f_X6_partWith_2_B (k2 : pp_M → Int32 → Int32 → Int32 → Option (pp_M)) (σ : pp_M) (a1 : Int32) (a2 : Int32) (a3 : Int32) : Option (pp_M) :=
  if a3 < (128 : Int32) then
    if (a3 &&& (a2 ^^^ (-1 : Int32))) = 0 then
      if pp_ix a3 128 then
      if (σ.2 37 a3.toNatClampNeg) = (-9223372036854775808 : Int64) then
        f_X6_partWith_78 k2 σ a1 a2 a3
      else
        if pp_ix a1 128 then
        if (σ.2 36 14) < ((σ.2 37 a1.toNatClampNeg) + (σ.2 37 a3.toNatClampNeg)) then
          f_X6_partWith_78 k2 (ppT (ppS (ppS σ 36 12 a1) 36 13 a3) 36 14 (((ppS (ppS σ 36 12 a1) 36 13 a3).2 37 a1.toNatClampNeg) + ((ppS (ppS σ 36 12 a1) 36 13 a3).2 37 a3.toNatClampNeg))) a1 a2 a3
        else
          f_X6_partWith_78 k2 σ a1 a2 a3
        else none
      else none
    else
      f_X6_partWith_78 k2 σ a1 a2 a3
  else
    some σ
def f_X6_partWith_2 : Nat → pp_M → Int32 → Int32 → Int32 → Option (pp_M)
  | 0 => fun _ _ _ _ => none
  | n + 1 => fun σ a1 a2 a3 => f_X6_partWith_2_B (f_X6_partWith_2 n) σ a1 a2 a3
def f_X6_partWith (σ : pp_M) (a1 : Int32) (a2 : Int32) : Option (pp_M) :=
  f_X6_partWith_2 100000 σ a1 a2 (0 : Int32)
/-! X6_part -/
def f_X6_part_55 (k17 : pp_M → Int32 → Int32 → Option (pp_M)) (σ : pp_M) (a1 : Int32) (a2 : Int32) : Option (pp_M) :=
  k17 σ a1 (a2 + (1 : Int32))
def f_X6_part_17_B (k17 : pp_M → Int32 → Int32 → Option (pp_M)) (σ : pp_M) (a1 : Int32) (a2 : Int32) : Option (pp_M) :=
  if a2 < (128 : Int32) then
    if (a2 &&& (a1 ^^^ (-1 : Int32))) = 0 then
      if pp_ix a2 128 then
      if (σ.2 37 a2.toNatClampNeg) = (-9223372036854775808 : Int64) then
        f_X6_part_55 k17 σ a1 a2
      else
        (f_X6_partWith σ a2 (a1 &&& (a2 ^^^ (-1 : Int32)))).bind fun x52 =>
        f_X6_part_55 k17 x52 a1 a2
      else none
    else
      f_X6_part_55 k17 σ a1 a2
  else
    some σ
def f_X6_part_17 : Nat → pp_M → Int32 → Int32 → Option (pp_M)
  | 0 => fun _ _ _ => none
  | n + 1 => fun σ a1 a2 => f_X6_part_17_B (f_X6_part_17 n) σ a1 a2
def f_X6_part (σ : pp_M) (a1 : Int32) : Option (pp_M) :=
  f_X6_part_17 100000 (ppT (ppS (ppS σ 36 12 (0 : Int32)) 36 13 (0 : Int32)) 36 14 (0 : Int64)) a1 (0 : Int32)
/-! X7_isLost -/
def f_X7_isLost (σ : pp_M) (a1 : Int32) : Option (Int32 × pp_M) :=
  if pp_ix a1 4 then
  if (σ.1 20 a1.toNatClampNeg) = (-1 : Int32) then
    some ((1 : Int32), σ)
  else
    some ((0 : Int32), σ)
  else none
/-! X7_findingAt -/
def f_X7_findingAt (σ : pp_M) (a1 : Int32) (a2 : Int32) (a3 : Int32) : Option (Int32 × pp_M) :=
  (f_X7_isLost σ a1).bind fun x2 =>
  if x2.1 = 0 then
    if pp_ix a1 4 then
    if (x2.2.1 19 a1.toNatClampNeg) = a2 then
      (f_X8_within x2.2 a3 (0 : Int32) ((x2.2.1 20 a1.toNatClampNeg) - (1 : Int32))).bind fun x32 =>
      if x32.1 = 0 then
        some ((2 : Int32), x32.2)
      else
        some ((0 : Int32), x32.2)
    else
      some ((3 : Int32), x2.2)
    else none
  else
    some ((1 : Int32), x2.2)
/-! X7_found -/
def f_X7_found (σ : pp_M) (a1 : Int32) : Option (Int32 × pp_M) :=
  some (((-10 : Int32) - a1), ppS σ 16 3 a1)
/-! X7_hasItems -/
def f_X7_hasItems (σ : pp_M) (a1 : Int32) (a2 : Int32) (a3 : Int32) : Option (Int32 × pp_M) :=
  if a2 < 0 then
    some ((0 : Int32), σ)
  else
    if a3 < 0 then
      some ((0 : Int32), σ)
    else
      if pp_ix a1 4 then
      if (σ.1 20 a1.toNatClampNeg) < a2 then
        some ((0 : Int32), σ)
      else
        if ((σ.1 20 a1.toNatClampNeg) - a2) < a3 then
          some ((0 : Int32), σ)
        else
          some ((1 : Int32), σ)
      else none
/-! X7_lay -/
def f_X7_lay (σ : pp_M) (a1 : Int32) (a2 : Int32) (a3 : Int32) : Option (pp_M) :=
  if pp_ix a1 4 then
  if (σ.1 19 a1.toNatClampNeg) = 0 then
    if pp_ix a2 40 then
    some (ppS σ 18 ((a1.toNatClampNeg * 40) + a2.toNatClampNeg) ((a3).toInt8.toInt32))
    else none
  else
    if (σ.1 19 a1.toNatClampNeg) = (1 : Int32) then
      if pp_ix a2 40 then
      some (ppS σ 18 ((a1.toNatClampNeg * 40) + a2.toNatClampNeg) ((a3).toInt16.toInt32))
      else none
    else
      if pp_ix a2 40 then
      some (ppS σ 18 ((a1.toNatClampNeg * 40) + a2.toNatClampNeg) a3)
      else none
  else none
/-! X7_renew -/
def f_X7_renew_17_B (k17 : pp_M → Int32 → Int32 → Option (pp_M)) (σ : pp_M) (a1 : Int32) (a4 : Int32) : Option (pp_M) :=
  if a4 < (40 : Int32) then
    if pp_ix a1 4 then
    if pp_ix a4 40 then
    k17 (ppS σ 18 ((a1.toNatClampNeg * 40) + a4.toNatClampNeg) (0 : Int32)) a1 (a4 + (1 : Int32))
    else none
    else none
  else
    some σ
def f_X7_renew_17 : Nat → pp_M → Int32 → Int32 → Option (pp_M)
  | 0 => fun _ _ _ => none
  | n + 1 => fun σ a1 a4 => f_X7_renew_17_B (f_X7_renew_17 n) σ a1 a4
def f_X7_renew (σ : pp_M) (a1 : Int32) (a2 : Int32) (a3 : Int32) : Option (pp_M) :=
  if pp_ix a1 4 then
  f_X7_renew_17 100000 (ppS (ppS σ 19 a1.toNatClampNeg a2) 20 a1.toNatClampNeg a3) a1 (0 : Int32)
  else none
/-! X8_areFarms -/
def f_X8_areFarms_12_B (k12 : pp_M → Nat → Nat → Nat → Int32 → Int32 → Int32 → Option (Int32 × pp_M)) (σ : pp_M) (a0t : Nat) (a0o : Nat) (a0n : Nat) (a1 : Int32) (a2 : Int32) (a3 : Int32) : Option (Int32 × pp_M) :=
  if a3 < a1 then
    if pp_ix a3 a0n then
    (f_X8_isFarm σ (σ.1 a0t (a0o + a3.toNatClampNeg))).bind fun x20 =>
    if x20.1 = 0 then
      some ((0 : Int32), x20.2)
    else
      if ((a2 >>> ((x20.2.1 a0t (a0o + a3.toNatClampNeg)) &&& 31)) &&& (1 : Int32)) = (1 : Int32) then
        some ((0 : Int32), x20.2)
      else
        k12 x20.2 a0t a0o a0n a1 (a2 ||| ((1 : Int32) <<< ((x20.2.1 a0t (a0o + a3.toNatClampNeg)) &&& 31))) (a3 + (1 : Int32))
    else none
  else
    some ((1 : Int32), σ)
def f_X8_areFarms_12 : Nat → pp_M → Nat → Nat → Nat → Int32 → Int32 → Int32 → Option (Int32 × pp_M)
  | 0 => fun _ _ _ _ _ _ _ => none
  | n + 1 => fun σ a0t a0o a0n a1 a2 a3 => f_X8_areFarms_12_B (f_X8_areFarms_12 n) σ a0t a0o a0n a1 a2 a3
def f_X8_areFarms (σ : pp_M) (a0t : Nat) (a0o : Nat) (a0n : Nat) (a1 : Int32) : Option (Int32 × pp_M) :=
  if (7 : Int32) < a1 then
    some ((0 : Int32), σ)
  else
    f_X8_areFarms_12 100000 σ a0t a0o a0n a1 (0 : Int32) (0 : Int32)
/-! X8_ask -/
def f_X8_ask (σ : pp_M) (a1 : Int32) (a2 : Int32) (a3 : Int32) : Option (Int32 × pp_M) :=
  (f_X8_isThing σ a1).bind fun x1 =>
  if x1.1 = 0 then
    some ((-2 : Int32), x1.2)
  else
    (f_X8_within x1.2 a2 (0 : Int32) ((x1.2.1 0 10) - (1 : Int32))).bind fun x15 =>
    if x15.1 = 0 then
      some ((-2 : Int32), x15.2)
    else
      (f_X8_within x15.2 a3 (1 : Int32) (4 : Int32)).bind fun x24 =>
      if x24.1 = 0 then
        some ((-2 : Int32), x24.2)
      else
        (f_X0_goAlong x24.2 34 0 7 (x24.2.1 0 10)).bind fun x45 =>
        if pp_ix a2 7 then
        (f_X0_bestLevel x45 ((x45.1 0 10) - a2) (x45.1 34 a2.toNatClampNeg) a1 a3).bind fun x66 =>
        some (x66.1, x66.2)
        else none
/-! X8_numberOrWeight -/
def f_X8_numberOrWeight (σ : pp_M) (a1t : Nat) (a1o : Nat) (a1n : Nat) (a2 : Int32) : Option (Int32 × pp_M) :=
  if a2 = (-1 : Int32) then
    (f_X1_weightOf σ a1t a1o a1n).bind fun x10 =>
    some (x10.1, x10.2)
  else
    if pp_ix a2 a1n then
    some ((σ.1 a1t (a1o + a2.toNatClampNeg)), σ)
    else none
/-! X8_weighUp -/
def f_X8_weighUp (σ : pp_M)  : Option (pp_M) :=
  (f_X0_goAlong σ 34 0 7 (σ.1 0 10)).bind fun x12 =>
  if pp_ix (x12.1 0 10) 8 then
  (f_X5_weighGains x12 23 ((x12.1 0 10).toNatClampNeg * 30) 30).bind fun x31 =>
  some x31
  else none
/-! X8_best -/
def f_X8_best (σ : pp_M) (a1 : Int32) : Option (Int32 × pp_M) :=
  (f_X8_within σ a1 (-1 : Int32) (5 : Int32)).bind fun x3 =>
  if x3.1 = 0 then
    some ((-2 : Int32), x3.2)
  else
    (f_X8_weighUp x3.2).bind fun x13 =>
    (f_X5_chooseBest x13 (x13.1 0 12)).bind fun x24 =>
    (f_X8_numberOrWeight x24 32 0 6 a1).bind fun x36 =>
    some (x36.1, x36.2)
/-! X8_isTerm -/
def f_X8_isTerm (σ : pp_M) (a0 : Int32) : Option (Int32 × pp_M) :=
  (f_X8_within σ a0 (0 : Int32) (1 : Int32)).bind fun x3 =>
  if pp_b x3.1 then
  some (x3.1, x3.2)
  else none
/-! X8_refusal -/
def f_X8_refusal (σ : pp_M) (a0 : Int32) : Option (Int64 × pp_M) :=
  some (((-9223372036854775808 : Int64) - (a0.toInt64)), σ)
/-! X8_sharedDivisor -/
def f_X8_sharedDivisor_3_B (k3 : pp_M → Int64 → Int64 → Int32 → Option (Int64 × pp_M)) (σ : pp_M) (a0 : Int64) (a2 : Int64) (a4 : Int32) : Option (Int64 × pp_M) :=
  if a4 < (200 : Int32) then
    if a2 = (0 : Int64) then
      some (a0, σ)
    else
      if ¬ a2 = 0 then
      k3 σ a2 (a0 - a0 / a2 * a2) (a4 + (1 : Int32))
      else none
  else
    some (a0, σ)
def f_X8_sharedDivisor_3 : Nat → pp_M → Int64 → Int64 → Int32 → Option (Int64 × pp_M)
  | 0 => fun _ _ _ _ => none
  | n + 1 => fun σ a0 a2 a4 => f_X8_sharedDivisor_3_B (f_X8_sharedDivisor_3 n) σ a0 a2 a4
def f_X8_sharedDivisor (σ : pp_M) (a0 : Int64) (a2 : Int64) : Option (Int64 × pp_M) :=
  f_X8_sharedDivisor_3 100000 σ a0 a2 (0 : Int32)
/-! X8_term -/
def f_X8_term (σ : pp_M) (a0 : Int64) (a2 : Int64) (a4 : Int32) : Option (Int64 × pp_M) :=
  (f_X8_sharedDivisor σ (if 0 < a0 then a0 else -a0) a2).bind fun x5 =>
  if x5.1 = (0 : Int64) then
    some ((0 : Int64), x5.2)
  else
    if a4 = 0 then
      if ¬ x5.1 = 0 then
      some ((a0 / x5.1), x5.2)
      else none
    else
      if ¬ x5.1 = 0 then
      some ((a2 / x5.1), x5.2)
      else none
/-! J6_bitCount_0f7a4 -/
def f_J6_bitCount_0f7a4 (σ : pp_M) (a0 : Int32) : Option (Int32 × pp_M) :=
  some (((((((((a0 - ((((a0).toUInt32 >>> (((1 : Int32)).toUInt32 &&& Int32.toUInt32 31)).toInt32) &&& (1431655765 : Int32))) &&& (858993459 : Int32)) + (((((a0 - ((((a0).toUInt32 >>> (((1 : Int32)).toUInt32 &&& Int32.toUInt32 31)).toInt32) &&& (1431655765 : Int32)))).toUInt32 >>> (((2 : Int32)).toUInt32 &&& Int32.toUInt32 31)).toInt32) &&& (858993459 : Int32))) + ((((((a0 - ((((a0).toUInt32 >>> (((1 : Int32)).toUInt32 &&& Int32.toUInt32 31)).toInt32) &&& (1431655765 : Int32))) &&& (858993459 : Int32)) + (((((a0 - ((((a0).toUInt32 >>> (((1 : Int32)).toUInt32 &&& Int32.toUInt32 31)).toInt32) &&& (1431655765 : Int32)))).toUInt32 >>> (((2 : Int32)).toUInt32 &&& Int32.toUInt32 31)).toInt32) &&& (858993459 : Int32)))).toUInt32 >>> (((4 : Int32)).toUInt32 &&& Int32.toUInt32 31)).toInt32)) &&& (252645135 : Int32)) + ((((((((a0 - ((((a0).toUInt32 >>> (((1 : Int32)).toUInt32 &&& Int32.toUInt32 31)).toInt32) &&& (1431655765 : Int32))) &&& (858993459 : Int32)) + (((((a0 - ((((a0).toUInt32 >>> (((1 : Int32)).toUInt32 &&& Int32.toUInt32 31)).toInt32) &&& (1431655765 : Int32)))).toUInt32 >>> (((2 : Int32)).toUInt32 &&& Int32.toUInt32 31)).toInt32) &&& (858993459 : Int32))) + ((((((a0 - ((((a0).toUInt32 >>> (((1 : Int32)).toUInt32 &&& Int32.toUInt32 31)).toInt32) &&& (1431655765 : Int32))) &&& (858993459 : Int32)) + (((((a0 - ((((a0).toUInt32 >>> (((1 : Int32)).toUInt32 &&& Int32.toUInt32 31)).toInt32) &&& (1431655765 : Int32)))).toUInt32 >>> (((2 : Int32)).toUInt32 &&& Int32.toUInt32 31)).toInt32) &&& (858993459 : Int32)))).toUInt32 >>> (((4 : Int32)).toUInt32 &&& Int32.toUInt32 31)).toInt32)) &&& (252645135 : Int32))).toUInt32 >>> (((8 : Int32)).toUInt32 &&& Int32.toUInt32 31)).toInt32)) + (((((((((a0 - ((((a0).toUInt32 >>> (((1 : Int32)).toUInt32 &&& Int32.toUInt32 31)).toInt32) &&& (1431655765 : Int32))) &&& (858993459 : Int32)) + (((((a0 - ((((a0).toUInt32 >>> (((1 : Int32)).toUInt32 &&& Int32.toUInt32 31)).toInt32) &&& (1431655765 : Int32)))).toUInt32 >>> (((2 : Int32)).toUInt32 &&& Int32.toUInt32 31)).toInt32) &&& (858993459 : Int32))) + ((((((a0 - ((((a0).toUInt32 >>> (((1 : Int32)).toUInt32 &&& Int32.toUInt32 31)).toInt32) &&& (1431655765 : Int32))) &&& (858993459 : Int32)) + (((((a0 - ((((a0).toUInt32 >>> (((1 : Int32)).toUInt32 &&& Int32.toUInt32 31)).toInt32) &&& (1431655765 : Int32)))).toUInt32 >>> (((2 : Int32)).toUInt32 &&& Int32.toUInt32 31)).toInt32) &&& (858993459 : Int32)))).toUInt32 >>> (((4 : Int32)).toUInt32 &&& Int32.toUInt32 31)).toInt32)) &&& (252645135 : Int32)) + ((((((((a0 - ((((a0).toUInt32 >>> (((1 : Int32)).toUInt32 &&& Int32.toUInt32 31)).toInt32) &&& (1431655765 : Int32))) &&& (858993459 : Int32)) + (((((a0 - ((((a0).toUInt32 >>> (((1 : Int32)).toUInt32 &&& Int32.toUInt32 31)).toInt32) &&& (1431655765 : Int32)))).toUInt32 >>> (((2 : Int32)).toUInt32 &&& Int32.toUInt32 31)).toInt32) &&& (858993459 : Int32))) + ((((((a0 - ((((a0).toUInt32 >>> (((1 : Int32)).toUInt32 &&& Int32.toUInt32 31)).toInt32) &&& (1431655765 : Int32))) &&& (858993459 : Int32)) + (((((a0 - ((((a0).toUInt32 >>> (((1 : Int32)).toUInt32 &&& Int32.toUInt32 31)).toInt32) &&& (1431655765 : Int32)))).toUInt32 >>> (((2 : Int32)).toUInt32 &&& Int32.toUInt32 31)).toInt32) &&& (858993459 : Int32)))).toUInt32 >>> (((4 : Int32)).toUInt32 &&& Int32.toUInt32 31)).toInt32)) &&& (252645135 : Int32))).toUInt32 >>> (((8 : Int32)).toUInt32 &&& Int32.toUInt32 31)).toInt32))).toUInt32 >>> (((16 : Int32)).toUInt32 &&& Int32.toUInt32 31)).toInt32)) &&& (63 : Int32)), σ)
/-! X8_tooManyOpen -/
def f_X8_tooManyOpen (σ : pp_M)  : Option (Int32 × pp_M) :=
  (f_J6_bitCount_0f7a4 σ (σ.1 0 13)).bind fun x4 =>
  if (5 : Int32) < x4.1 then
    some ((1 : Int32), x4.2)
  else
    some ((0 : Int32), x4.2)
/-! X8_both -/
def f_X8_both (σ : pp_M) (a1 : Int32) : Option (Int64 × pp_M) :=
  (f_X8_isTerm σ a1).bind fun x1 =>
  if x1.1 = 0 then
    (f_X8_refusal x1.2 (-2 : Int32)).bind fun x9 =>
    some (x9.1, x9.2)
  else
    (f_X8_tooManyOpen x1.2).bind fun x14 =>
    if x14.1 = 0 then
      (f_X6_findRounds x14.2 (x14.2.1 0 13) (x14.2.1 0 11) (x14.2.1 0 12)).bind fun x42 =>
      (f_X6_part x42 (x42.1 0 13)).bind fun x53 =>
      (f_X8_term x53 (x53.2 36 14) (268435456 : Int64) a1).bind fun x67 =>
      some (x67.1, x67.2)
    else
      (f_X8_refusal x14.2 (-4 : Int32)).bind fun x22 =>
      some (x22.1, x22.2)
/-! X8_brings -/
def f_X8_brings_14 (σ : pp_M)  : Option (Int64 × pp_M) :=
  (f_X8_refusal σ (-2 : Int32)).bind fun x16 =>
  some (x16.1, x16.2)
def f_X8_brings (σ : pp_M) (a1 : Int32) (a2 : Int32) : Option (Int64 × pp_M) :=
  (f_X8_isThing σ a1).bind fun x1 =>
  if x1.1 = 0 then
    f_X8_brings_14 x1.2
  else
    (f_X8_isTerm x1.2 a2).bind fun x8 =>
    if x8.1 = 0 then
      f_X8_brings_14 x8.2
    else
      (f_X8_weighUp x8.2).bind fun x21 =>
      (f_X5_mostGain x21 (x21.1 0 12) (-1 : Int32)).bind fun x33 =>
      (f_X5_mostGain x33.2 (x33.2.1 0 12) a1).bind fun x47 =>
      (f_X8_term x47.2 (x33.1 - x47.1) (268435456 : Int64) a2).bind fun x55 =>
      some (x55.1, x55.2)
/-! X8_isLevel -/
def f_X8_isLevel (σ : pp_M) (a0 : Int32) : Option (Int32 × pp_M) :=
  (f_X8_within σ a0 (0 : Int32) (2 : Int32)).bind fun x3 =>
  if pp_b x3.1 then
  some (x3.1, x3.2)
  else none
/-! X8_chance -/
def f_X8_chance (σ : pp_M) (a1 : Int32) (a2 : Int32) (a3 : Int32) : Option (Int32 × pp_M) :=
  (f_X8_isFarm σ a1).bind fun x1 =>
  if x1.1 = 0 then
    some ((-2 : Int32), x1.2)
  else
    (f_X8_isThing x1.2 a2).bind fun x8 =>
    if x8.1 = 0 then
      some ((-2 : Int32), x8.2)
    else
      (f_X8_isLevel x8.2 a3).bind fun x15 =>
      if x15.1 = 0 then
        some ((-2 : Int32), x15.2)
      else
        (f_X4_chanceOf x15.2 a1 a2 a3).bind fun x31 =>
        some (x31.1, x31.2)
/-! X8_isSheet -/
def f_X8_isSheet (σ : pp_M) (a0 : Int32) : Option (Int32 × pp_M) :=
  (f_X8_within σ a0 (0 : Int32) (3 : Int32)).bind fun x3 =>
  if pp_b x3.1 then
  some (x3.1, x3.2)
  else none
/-! X8_copy -/
def f_X8_copy_107 (σ : pp_M)  : Option (Int32 × pp_M) :=
  (f_X7_found σ (2 : Int32)).bind fun x112 =>
  some (x112.1, x112.2)
def f_X8_copy_39 (σ : pp_M)  : Option (Int32 × pp_M) :=
  (f_X7_found σ (1 : Int32)).bind fun x44 =>
  some (x44.1, x44.2)
def f_X8_copy (σ : pp_M) (a1 : Int32) (a2 : Int32) (a3 : Int32) (a4 : Int32) (a5 : Int32) : Option (Int32 × pp_M) :=
  (f_X8_isSheet σ a1).bind fun x1 =>
  if x1.1 = 0 then
    some ((-2 : Int32), x1.2)
  else
    (f_X8_isSheet x1.2 a3).bind fun x8 =>
    if x8.1 = 0 then
      some ((-2 : Int32), x8.2)
    else
      (f_X7_isLost x8.2 a1).bind fun x22 =>
      if x22.1 = 0 then
        (f_X7_isLost x22.2 a3).bind fun x33 =>
        if x33.1 = 0 then
          if pp_ix a1 4 then
          if pp_ix a3 4 then
          if (x33.2.1 19 a1.toNatClampNeg) = (x33.2.1 19 a3.toNatClampNeg) then
            (f_X7_hasItems x33.2 a1 a2 a5).bind fun x86 =>
            if x86.1 = 0 then
              f_X8_copy_107 x86.2
            else
              (f_X7_hasItems x86.2 a3 a4 a5).bind fun x101 =>
              if x101.1 = 0 then
                f_X8_copy_107 x101.2
              else
                if pp_cpOk a2 a4 a5 40 40 then
                some ((1 : Int32), ppC x101.2 18 (a1.toNatClampNeg * 40) 18 (a3.toNatClampNeg * 40) (a2).toNatClampNeg (a4).toNatClampNeg (a5).toNatClampNeg)
                else none
          else
            (f_X7_found x33.2 (4 : Int32)).bind fun x74 =>
            some (x74.1, x74.2)
          else none
          else none
        else
          f_X8_copy_39 x33.2
      else
        f_X8_copy_39 x22.2
/-! X8_count -/
def f_X8_count (σ : pp_M) (a1 : Int32) : Option (Int32 × pp_M) :=
  if a1 = 0 then
    some ((σ.1 0 10), σ)
  else
  if a1 = 1 then
    (f_X1_weightOf σ 35 0 6).bind fun x65 =>
    some (x65.1, x65.2)
  else
  if a1 = 2 then
    (f_X2_countRoads σ).bind fun x73 =>
    some (x73.1, x73.2)
  else
  if a1 = 3 then
    (f_X4_countChances σ).bind fun x81 =>
    some (x81.1, x81.2)
  else
  if a1 = 4 then
    some ((σ.1 13 5), σ)
  else
  if a1 = 5 then
    some ((σ.1 0 11), σ)
  else
  if a1 = 6 then
    some ((σ.1 0 12), σ)
  else
  if a1 = 7 then
    some ((σ.1 0 13), σ)
  else
  if a1 = 8 then
    some ((σ.1 16 3), σ)
  else
    some ((-2 : Int32), σ)
/-! X8_fault -/
def f_X8_fault (σ : pp_M)  : Option (Int32 × pp_M) :=
  (f_X3_findFault σ).bind fun x4 =>
  some (x4.1, x4.2)
/-! X8_hours -/
def f_X8_hours (σ : pp_M)  : Option (Int32 × pp_M) :=
  (f_X2_hoursOf σ 34 0 7 (σ.1 0 10)).bind fun x12 =>
  some (x12.1, x12.2)
/-! X8_judged -/
def f_X8_judged (σ : pp_M)  : Option (Int32 × pp_M) :=
  (f_X1_weightOf σ 35 0 6).bind fun x8 =>
  if (x8.2.1 0 12) < x8.1 then
    some ((1 : Int32), x8.2)
  else
    (f_X8_hours x8.2).bind fun x21 =>
    if (x21.2.1 0 11) < x21.1 then
      some ((2 : Int32), x21.2)
    else
      some ((0 : Int32), x21.2)
/-! X8_loadTerm -/
def f_X8_loadTerm (σ : pp_M) (a1 : Int32) (a2 : Int32) : Option (Int64 × pp_M) :=
  if a1 = 0 then
    (f_X5_mostGain σ (σ.1 0 12) (-1 : Int32)).bind fun x13 =>
    (f_X8_term x13.2 x13.1 (268435456 : Int64) a2).bind fun x20 =>
    some (x20.1, x20.2)
  else
    if a1 = (1 : Int32) then
      (f_X5_chooseLoaded σ (σ.1 0 12)).bind fun x37 =>
      (f_X5_gainOf x37 33 0 6).bind fun x51 =>
      (f_X8_term x51.2 x51.1 (268435456 : Int64) a2).bind fun x58 =>
      some (x58.1, x58.2)
    else
      (f_X5_findBound σ (σ.1 0 12)).bind fun x70 =>
      (f_X8_term x70 (x70.2 25 7) (x70.2 25 8) a2).bind fun x88 =>
      some (x88.1, x88.2)
/-! X8_digest -/
def f_X8_digest_229_B (k229 : pp_M → Int64 → Int32 → Option (Int64 × pp_M)) (σ : pp_M) (a1 : Int64) (a3 : Int32) : Option (Int64 × pp_M) :=
  if a3 < (3 : Int32) then
    (f_X8_loadTerm σ a3 (0 : Int32)).bind fun x242 =>
    (f_X8_loadTerm x242.2 a3 (1 : Int32)).bind fun x255 =>
    k229 x255.2 (((31 : Int64) * (((31 : Int64) * a1) + x242.1)) + x255.1) (a3 + (1 : Int32))
  else
    (f_X5_leastBringing σ (σ.1 0 12)).bind fun x279 =>
    some ((((31 : Int64) * a1) + (x279.1.toInt64)), x279.2)
def f_X8_digest_229 : Nat → pp_M → Int64 → Int32 → Option (Int64 × pp_M)
  | 0 => fun _ _ _ => none
  | n + 1 => fun σ a1 a3 => f_X8_digest_229_B (f_X8_digest_229 n) σ a1 a3
def f_X8_digest_80_B (k71 : pp_M → Int64 → Int32 → Option (Int64 × pp_M)) (k80 : pp_M → Int64 → Int32 → Int32 → Option (Int64 × pp_M)) (σ : pp_M) (a1 : Int64) (a3 : Int32) (a4 : Int32) : Option (Int64 × pp_M) :=
  if a4 < (6 : Int32) then
    if pp_ix a3 6 then
    if pp_ix a4 6 then
    k80 σ (((31 : Int64) * a1) + (((σ.1 3 ((a3.toNatClampNeg * 6) + a4.toNatClampNeg))).toInt64)) a3 (a4 + (1 : Int32))
    else none
    else none
  else
    if pp_ix a3 6 then
    k71 σ (((31 : Int64) * (((31 : Int64) * a1) + (((σ.1 32 a3.toNatClampNeg)).toInt64))) + (((σ.1 33 a3.toNatClampNeg)).toInt64)) (a3 + (1 : Int32))
    else none
def f_X8_digest_80 (k71 : pp_M → Int64 → Int32 → Option (Int64 × pp_M)) : Nat → pp_M → Int64 → Int32 → Int32 → Option (Int64 × pp_M)
  | 0 => fun _ _ _ _ => none
  | n + 1 => fun σ a1 a3 a4 => f_X8_digest_80_B k71 (f_X8_digest_80 k71 n) σ a1 a3 a4
def f_X8_digest_71_B (k71 : pp_M → Int64 → Int32 → Option (Int64 × pp_M)) (σ : pp_M) (a1 : Int64) (a3 : Int32) : Option (Int64 × pp_M) :=
  if a3 < (6 : Int32) then
    f_X8_digest_80 k71 100000 σ a1 a3 (0 : Int32)
  else
    (f_X8_hours σ).bind fun x159 =>
    (f_X8_judged x159.2).bind fun x171 =>
    (f_X5_gainOf x171.2 35 0 6).bind fun x190 =>
    (f_X8_term x190.2 x190.1 (268435456 : Int64) (0 : Int32)).bind fun x197 =>
    (f_X5_gainOf x197.2 35 0 6).bind fun x215 =>
    (f_X8_term x215.2 x215.1 (268435456 : Int64) (1 : Int32)).bind fun x222 =>
    f_X8_digest_229 100000 x222.2 (((31 : Int64) * (((31 : Int64) * (((31 : Int64) * (((31 : Int64) * a1) + (x159.1.toInt64))) + (x171.1.toInt64))) + x197.1)) + x222.1) (0 : Int32)
def f_X8_digest_71 : Nat → pp_M → Int64 → Int32 → Option (Int64 × pp_M)
  | 0 => fun _ _ _ => none
  | n + 1 => fun σ a1 a3 => f_X8_digest_71_B (f_X8_digest_71 n) σ a1 a3
def f_X8_digest_32_B (k32 : pp_M → Int64 → Int32 → Option (Int64 × pp_M)) (σ : pp_M) (a1 : Int64) (a3 : Int32) : Option (Int64 × pp_M) :=
  if a3 < (8 : Int32) then
    (f_X8_count σ a3).bind fun x45 =>
    k32 x45.2 (((31 : Int64) * a1) + (x45.1.toInt64)) (a3 + (1 : Int32))
  else
    (f_X8_fault σ).bind fun x63 =>
    f_X8_digest_71 100000 x63.2 (((31 : Int64) * a1) + (x63.1.toInt64)) (0 : Int32)
def f_X8_digest_32 : Nat → pp_M → Int64 → Int32 → Option (Int64 × pp_M)
  | 0 => fun _ _ _ => none
  | n + 1 => fun σ a1 a3 => f_X8_digest_32_B (f_X8_digest_32 n) σ a1 a3
def f_X8_digest (σ : pp_M)  : Option (Int64 × pp_M) :=
  (f_X8_weighUp σ).bind fun x1 =>
  (f_X5_chooseBest x1 (x1.1 0 12)).bind fun x12 =>
  (f_X5_chooseLoaded x12 (x12.1 0 12)).bind fun x23 =>
  f_X8_digest_32 100000 x23 (17 : Int64) (0 : Int32)
/-! X8_farmOf -/
def f_X8_farmOf (σ : pp_M) (a0 : Int32) (a1 : Int32) : Option (Int32 × pp_M) :=
  some (((a0 >>> (((3 : Int32) * a1) &&& 31)) &&& (7 : Int32)), σ)
/-! X8_farmsOf -/
def f_X8_farmsOf_2_B (k2 : pp_M → Int32 → Int32 → Option (Int32 × pp_M)) (σ : pp_M) (a0 : Int32) (a1 : Int32) : Option (Int32 × pp_M) :=
  if a1 < (5 : Int32) then
    if 0 < (a0 >>> (((3 : Int32) * a1) &&& 31)) then
      k2 σ a0 (a1 + (1 : Int32))
    else
      some (a1, σ)
  else
    some (a1, σ)
def f_X8_farmsOf_2 : Nat → pp_M → Int32 → Int32 → Option (Int32 × pp_M)
  | 0 => fun _ _ _ => none
  | n + 1 => fun σ a0 a1 => f_X8_farmsOf_2_B (f_X8_farmsOf_2 n) σ a0 a1
def f_X8_farmsOf (σ : pp_M) (a0 : Int32) : Option (Int32 × pp_M) :=
  f_X8_farmsOf_2 100000 σ a0 (0 : Int32)
/-! X8_gain -/
def f_X8_gain (σ : pp_M) (a1 : Int32) : Option (Int64 × pp_M) :=
  (f_X8_isTerm σ a1).bind fun x1 =>
  if x1.1 = 0 then
    (f_X8_refusal x1.2 (-2 : Int32)).bind fun x9 =>
    some (x9.1, x9.2)
  else
    (f_X8_weighUp x1.2).bind fun x14 =>
    (f_X5_gainOf x14 35 0 6).bind fun x25 =>
    (f_X8_term x25.2 x25.1 (268435456 : Int64) a1).bind fun x32 =>
    some (x32.1, x32.2)
/-! X8_isForm -/
def f_X8_isForm (σ : pp_M) (a0 : Int32) : Option (Int32 × pp_M) :=
  (f_X8_within σ a0 (0 : Int32) (2 : Int32)).bind fun x3 =>
  if pp_b x3.1 then
  some (x3.1, x3.2)
  else none
/-! X8_get -/
def f_X8_get (σ : pp_M) (a1 : Int32) (a2 : Int32) (a3 : Int32) : Option (Int32 × pp_M) :=
  (f_X8_isSheet σ a1).bind fun x1 =>
  if x1.1 = 0 then
    some ((-2147483648 : Int32), x1.2)
  else
    (f_X8_isForm x1.2 a2).bind fun x8 =>
    if x8.1 = 0 then
      some ((-2147483648 : Int32), x8.2)
    else
      (f_X7_findingAt x8.2 a1 a2 a3).bind fun x25 =>
      if x25.1 = 0 then
        if pp_ix a1 4 then
        if pp_ix a3 40 then
        some ((x25.2.1 18 ((a1.toNatClampNeg * 40) + a3.toNatClampNeg)), x25.2)
        else none
        else none
      else
        (f_X7_found x25.2 x25.1).bind fun x41 =>
        some ((-2147483648 : Int32), x41.2)
/-! X8_isNumber -/
def f_X8_isNumber (σ : pp_M) (a0 : Int32) : Option (Int32 × pp_M) :=
  (f_X8_within σ a0 (0 : Int32) (4 : Int32)).bind fun x3 =>
  if pp_b x3.1 then
  some (x3.1, x3.2)
  else none
/-! X8_isPlace -/
def f_X8_isPlace (σ : pp_M) (a0 : Int32) : Option (Int32 × pp_M) :=
  (f_X8_within σ a0 (0 : Int32) (7 : Int32)).bind fun x4 =>
  if pp_b x4.1 then
  some (x4.1, x4.2)
  else none
/-! X8_load -/
def f_X8_load_16 (σ : pp_M)  : Option (Int64 × pp_M) :=
  (f_X8_refusal σ (-2 : Int32)).bind fun x18 =>
  some (x18.1, x18.2)
def f_X8_load (σ : pp_M) (a1 : Int32) (a2 : Int32) : Option (Int64 × pp_M) :=
  (f_X8_within σ a1 (0 : Int32) (2 : Int32)).bind fun x3 =>
  if x3.1 = 0 then
    f_X8_load_16 x3.2
  else
    (f_X8_isTerm x3.2 a2).bind fun x10 =>
    if x10.1 = 0 then
      f_X8_load_16 x10.2
    else
      (f_X8_weighUp x10.2).bind fun x23 =>
      (f_X8_loadTerm x23 a1 a2).bind fun x29 =>
      some (x29.1, x29.2)
/-! X8_loaded -/
def f_X8_loaded (σ : pp_M) (a1 : Int32) : Option (Int32 × pp_M) :=
  (f_X8_within σ a1 (-1 : Int32) (5 : Int32)).bind fun x3 =>
  if x3.1 = 0 then
    some ((-2 : Int32), x3.2)
  else
    (f_X8_weighUp x3.2).bind fun x13 =>
    (f_X5_chooseLoaded x13 (x13.1 0 12)).bind fun x24 =>
    (f_X8_numberOrWeight x24 33 0 6 a1).bind fun x36 =>
    some (x36.1, x36.2)
/-! X8_lose -/
def f_X8_lose (σ : pp_M) (a1 : Int32) : Option (Int32 × pp_M) :=
  (f_X8_isSheet σ a1).bind fun x1 =>
  if x1.1 = 0 then
    some ((-2 : Int32), x1.2)
  else
    (f_X7_isLost x1.2 a1).bind fun x15 =>
    if x15.1 = 0 then
      if pp_ix a1 4 then
      some ((x15.2.1 20 a1.toNatClampNeg), ppS x15.2 20 a1.toNatClampNeg (-1 : Int32))
      else none
    else
      (f_X7_found x15.2 (1 : Int32)).bind fun x26 =>
      some (x26.1, x26.2)
/-! X8_onward -/
def f_X8_onward (σ : pp_M) (a1 : Int32) (a2 : Int32) : Option (Int32 × pp_M) :=
  (f_X8_isPlace σ a1).bind fun x1 =>
  if x1.1 = 0 then
    some ((-2 : Int32), x1.2)
  else
    (f_X8_within x1.2 a2 (0 : Int32) (200 : Int32)).bind fun x12 =>
    if x12.1 = 0 then
      some ((-2 : Int32), x12.2)
    else
      (f_X8_tooManyOpen x12.2).bind fun x22 =>
      if x22.1 = 0 then
        (f_X6_findOnward x22.2 (x22.2.1 0 13) (x22.2.1 0 11) a1 a2).bind fun x45 =>
        (f_X6_bestSet x45).bind fun x52 =>
        if pp_ix x52.1 128 then
        (f_X8_farmsOf x52.2 (x52.2.1 38 x52.1.toNatClampNeg)).bind fun x65 =>
        if 0 < x65.1 then
          (f_X8_farmOf x65.2 (x65.2.1 38 x52.1.toNatClampNeg) (x65.1 - (1 : Int32))).bind fun x88 =>
          some (x88.1, x88.2)
        else
          some ((-1 : Int32), x65.2)
        else none
      else
        some ((-4 : Int32), x22.2)
/-! X8_pack -/
def f_X8_pack_93_B (k93 : pp_M → Nat → Int32 → Option (Int32 × pp_M)) (σ : pp_M) (a2o : Nat) (a3 : Int32) : Option (Int32 × pp_M) :=
  if a3 < (6 : Int32) then
    if pp_ix a3 40 then
    if pp_ix a3 6 then
    k93 (ppS σ 35 a3.toNatClampNeg (σ.1 18 (a2o + a3.toNatClampNeg))) a2o (a3 + (1 : Int32))
    else none
    else none
  else
    (f_X1_weightOf σ 35 0 6).bind fun x122 =>
    some (x122.1, x122.2)
def f_X8_pack_93 : Nat → pp_M → Nat → Int32 → Option (Int32 × pp_M)
  | 0 => fun _ _ _ => none
  | n + 1 => fun σ a2o a3 => f_X8_pack_93_B (f_X8_pack_93 n) σ a2o a3
def f_X8_pack_65_B (k65 : pp_M → Nat → Int32 → Option (Int32 × pp_M)) (σ : pp_M) (a2o : Nat) (a3 : Int32) : Option (Int32 × pp_M) :=
  if a3 < (6 : Int32) then
    if pp_ix a3 40 then
    (f_X8_within σ (σ.1 18 (a2o + a3.toNatClampNeg)) (0 : Int32) (4 : Int32)).bind fun x76 =>
    if x76.1 = 0 then
      some ((-3 : Int32), x76.2)
    else
      k65 x76.2 a2o (a3 + (1 : Int32))
    else none
  else
    f_X8_pack_93 100000 σ a2o (0 : Int32)
def f_X8_pack_65 : Nat → pp_M → Nat → Int32 → Option (Int32 × pp_M)
  | 0 => fun _ _ _ => none
  | n + 1 => fun σ a2o a3 => f_X8_pack_65_B (f_X8_pack_65 n) σ a2o a3
def f_X8_pack (σ : pp_M) (a1 : Int32) : Option (Int32 × pp_M) :=
  (f_X8_isSheet σ a1).bind fun x1 =>
  if x1.1 = 0 then
    some ((-2 : Int32), x1.2)
  else
    (f_X7_isLost x1.2 a1).bind fun x15 =>
    if x15.1 = 0 then
      if pp_ix a1 4 then
      if (x15.2.1 20 a1.toNatClampNeg) < (6 : Int32) then
        (f_X7_found x15.2 (2 : Int32)).bind fun x49 =>
        some (x49.1, x49.2)
      else
        f_X8_pack_65 100000 x15.2 (a1.toNatClampNeg * 40) (0 : Int32)
      else none
    else
      (f_X7_found x15.2 (1 : Int32)).bind fun x26 =>
      some (x26.1, x26.2)
/-! X8_put -/
def f_X8_put (σ : pp_M) (a1 : Int32) (a2 : Int32) (a3 : Int32) (a4 : Int32) : Option (Int32 × pp_M) :=
  (f_X8_isSheet σ a1).bind fun x1 =>
  if x1.1 = 0 then
    some ((-2 : Int32), x1.2)
  else
    (f_X8_isForm x1.2 a2).bind fun x8 =>
    if x8.1 = 0 then
      some ((-2 : Int32), x8.2)
    else
      (f_X7_findingAt x8.2 a1 a2 a3).bind fun x24 =>
      if x24.1 = 0 then
        (f_X7_lay x24.2 a1 a3 a4).bind fun x52 =>
        some ((1 : Int32), x52)
      else
        (f_X7_found x24.2 x24.1).bind fun x40 =>
        some (x40.1, x40.2)
/-! X8_read -/
def f_X8_read_97 (σ : pp_M) (a3 : Int32) : Option (Int32 × pp_M) :=
  (f_X6_forget σ).bind fun x101 =>
  some (a3, x101)
def f_X8_read_68_B (k68 : pp_M → Int32 → Int32 → Int32 → Nat → Option (Int32 × pp_M)) (σ : pp_M) (a2 : Int32) (a3 : Int32) (a4 : Int32) (a5o : Nat) : Option (Int32 × pp_M) :=
  if a3 < a4 then
    (f_X4_take σ a2 a3 18 a5o 40 (a3 * (3 : Int32))).bind fun x85 =>
    if x85.1 = 0 then
      f_X8_read_97 x85.2 a3
    else
      k68 x85.2 a2 (a3 + (1 : Int32)) a4 a5o
  else
    f_X8_read_97 σ a3
def f_X8_read_68 : Nat → pp_M → Int32 → Int32 → Int32 → Nat → Option (Int32 × pp_M)
  | 0 => fun _ _ _ _ _ => none
  | n + 1 => fun σ a2 a3 a4 a5o => f_X8_read_68_B (f_X8_read_68 n) σ a2 a3 a4 a5o
def f_X8_read (σ : pp_M) (a1 : Int32) (a2 : Int32) : Option (Int32 × pp_M) :=
  (f_X8_isSheet σ a1).bind fun x1 =>
  if x1.1 = 0 then
    some ((-2 : Int32), x1.2)
  else
    (f_X8_isFarm x1.2 a2).bind fun x8 =>
    if x8.1 = 0 then
      some ((-2 : Int32), x8.2)
    else
      (f_X7_isLost x8.2 a1).bind fun x22 =>
      if x22.1 = 0 then
        if pp_ix a1 4 then
        f_X8_read_68 100000 x22.2 a2 (0 : Int32) (if (6 : Int32) < ((x22.2.1 20 a1.toNatClampNeg) / (3 : Int32)) then (6 : Int32) else ((x22.2.1 20 a1.toNatClampNeg) / (3 : Int32))) (a1.toNatClampNeg * 40)
        else none
      else
        (f_X7_found x22.2 (1 : Int32)).bind fun x33 =>
        some (x33.1, x33.2)
/-! X8_road -/
def f_X8_road (σ : pp_M) (a1 : Int32) (a2 : Int32) (a3 : Int32) : Option (Int32 × pp_M) :=
  (f_X8_isPlace σ a1).bind fun x1 =>
  if x1.1 = 0 then
    some ((-2 : Int32), x1.2)
  else
    (f_X8_isPlace x1.2 a2).bind fun x8 =>
    if x8.1 = 0 then
      some ((-2 : Int32), x8.2)
    else
      if a1 = a2 then
        some ((-2 : Int32), x8.2)
      else
        (f_X8_within x8.2 a3 (0 : Int32) (60 : Int32)).bind fun x23 =>
        if x23.1 = 0 then
          some ((-2 : Int32), x23.2)
        else
          if pp_ix a1 8 then
          if pp_ix a2 8 then
          (f_X2_build x23.2 a1 a2 a3).bind fun x52 =>
          (f_X6_forget x52).bind fun x59 =>
          some ((x23.2.1 6 ((a1.toNatClampNeg * 8) + a2.toNatClampNeg)), x59)
          else none
          else none
/-! X8_round -/
def f_X8_round (σ : pp_M) (a1 : Int32) : Option (Int32 × pp_M) :=
  if a1 < (-1 : Int32) then
    some ((-2 : Int32), σ)
  else
    (f_X8_tooManyOpen σ).bind fun x9 =>
    if x9.1 = 0 then
      (f_X6_findRounds x9.2 (x9.2.1 0 13) (x9.2.1 0 11) (x9.2.1 0 12)).bind fun x34 =>
      (f_X6_bestSet x34).bind fun x48 =>
      if pp_ix x48.1 128 then
      (f_X8_farmsOf x48.2 (x48.2.1 38 x48.1.toNatClampNeg)).bind fun x54 =>
      if a1 = (-1 : Int32) then
        some (x54.1, x54.2)
      else
        if a1 < x54.1 then
          (f_X8_farmOf x54.2 (x48.2.1 38 x48.1.toNatClampNeg) ((x54.1 - (1 : Int32)) - a1)).bind fun x76 =>
          some (x76.1, x76.2)
        else
          some ((-1 : Int32), x54.2)
      else none
    else
      some ((-4 : Int32), x9.2)
/-! X8_rounds -/
def f_X8_rounds (σ : pp_M) (a1 : Int32) : Option (Int64 × pp_M) :=
  (f_X8_isTerm σ a1).bind fun x1 =>
  if x1.1 = 0 then
    (f_X8_refusal x1.2 (-2 : Int32)).bind fun x9 =>
    some (x9.1, x9.2)
  else
    (f_X8_tooManyOpen x1.2).bind fun x14 =>
    if x14.1 = 0 then
      (f_X6_findRounds x14.2 (x14.2.1 0 13) (x14.2.1 0 11) (x14.2.1 0 12)).bind fun x42 =>
      (f_X6_bestSet x42).bind fun x56 =>
      if pp_ix x56.1 128 then
      (f_X8_term x56.2 (x56.2.2 37 x56.1.toNatClampNeg) (268435456 : Int64) a1).bind fun x64 =>
      some (x64.1, x64.2)
      else none
    else
      (f_X8_refusal x14.2 (-4 : Int32)).bind fun x22 =>
      some (x22.1, x22.2)
/-! X8_row -/
def f_X8_row_61_B (k61 : pp_M → Int32 → Int32 → Int32 → Option (Int32 × pp_M)) (σ : pp_M) (a1 : Int32) (a2 : Int32) (a3 : Int32) : Option (Int32 × pp_M) :=
  if a3 < a2 then
    if pp_ix a1 4 then
    if pp_ix a3 40 then
    if pp_ix a3 7 then
    k61 (ppS σ 34 a3.toNatClampNeg (σ.1 18 ((a1.toNatClampNeg * 40) + a3.toNatClampNeg))) a1 a2 (a3 + (1 : Int32))
    else none
    else none
    else none
  else
    some (a2, ppS σ 0 10 a2)
def f_X8_row_61 : Nat → pp_M → Int32 → Int32 → Int32 → Option (Int32 × pp_M)
  | 0 => fun _ _ _ _ => none
  | n + 1 => fun σ a1 a2 a3 => f_X8_row_61_B (f_X8_row_61 n) σ a1 a2 a3
def f_X8_row (σ : pp_M) (a1 : Int32) : Option (Int32 × pp_M) :=
  (f_X8_isSheet σ a1).bind fun x1 =>
  if x1.1 = 0 then
    some ((-2 : Int32), x1.2)
  else
    (f_X7_isLost x1.2 a1).bind fun x15 =>
    if x15.1 = 0 then
      if pp_ix a1 4 then
      (f_X8_areFarms x15.2 18 (a1.toNatClampNeg * 40) 40 (x15.2.1 20 a1.toNatClampNeg)).bind fun x50 =>
      if x50.1 = 0 then
        some ((-3 : Int32), x50.2)
      else
        f_X8_row_61 100000 x50.2 a1 (x15.2.1 20 a1.toNatClampNeg) (0 : Int32)
      else none
    else
      (f_X7_found x15.2 (1 : Int32)).bind fun x26 =>
      some (x26.1, x26.2)
/-! X8_set -/
def f_X8_set_84 (σ : pp_M) (a3 : Int32) : Option (Int32 × pp_M) :=
  (f_X6_forget σ).bind fun x88 =>
  some (a3, x88)
def f_X8_set_59 (σ : pp_M) (a1 : Int32) (a2 : Int32) (a3 : Int32) : Option (Int32 × pp_M) :=
  if a1 = (2 : Int32) then
    (f_X8_within σ a2 (0 : Int32) (127 : Int32)).bind fun x68 =>
    if x68.1 = 0 then
      f_X8_set_84 x68.2 a3
    else
      f_X8_set_84 (ppS x68.2 0 13 a2) (x68.2.1 0 13)
  else
    f_X8_set_84 σ a3
def f_X8_set_31 (σ : pp_M) (a1 : Int32) (a2 : Int32) (a3 : Int32) : Option (Int32 × pp_M) :=
  if a1 = (1 : Int32) then
    (f_X8_within σ a2 (1 : Int32) (100 : Int32)).bind fun x40 =>
    if x40.1 = 0 then
      f_X8_set_59 x40.2 a1 a2 a3
    else
      f_X8_set_84 (ppS x40.2 0 12 a2) (x40.2.1 0 12)
  else
    f_X8_set_59 σ a1 a2 a3
def f_X8_set (σ : pp_M) (a1 : Int32) (a2 : Int32) : Option (Int32 × pp_M) :=
  if a1 = 0 then
    (f_X8_within σ a2 (1 : Int32) (200 : Int32)).bind fun x12 =>
    if x12.1 = 0 then
      f_X8_set_31 x12.2 a1 a2 (-2 : Int32)
    else
      f_X8_set_84 (ppS x12.2 0 11 a2) (x12.2.1 0 11)
  else
    f_X8_set_31 σ a1 a2 (-2 : Int32)
/-! X8_sheet -/
def f_X8_sheet (σ : pp_M) (a1 : Int32) (a2 : Int32) (a3 : Int32) : Option (Int32 × pp_M) :=
  (f_X8_isSheet σ a1).bind fun x1 =>
  if x1.1 = 0 then
    some ((-2 : Int32), x1.2)
  else
    (f_X8_isForm x1.2 a2).bind fun x8 =>
    if x8.1 = 0 then
      some ((-2 : Int32), x8.2)
    else
      if (40 : Int32) < a3 then
        some ((-2 : Int32), x8.2)
      else
        if a3 < 0 then
          (f_X7_found x8.2 (5 : Int32)).bind fun x32 =>
          some (x32.1, x32.2)
        else
          (f_X7_renew x8.2 a1 a2 a3).bind fun x43 =>
          some (a3, x43)
/-! X8_shop -/
def f_X8_shop (σ : pp_M) (a1 : Int32) (a2 : Int32) : Option (Int32 × pp_M) :=
  (f_X8_isThing σ a1).bind fun x1 =>
  if x1.1 = 0 then
    some ((-2 : Int32), x1.2)
  else
    (f_X8_within x1.2 a2 (0 : Int32) (16 : Int32)).bind fun x11 =>
    if x11.1 = 0 then
      some ((-2 : Int32), x11.2)
    else
      if pp_ix a1 6 then
      (f_X6_forget (ppS x11.2 12 a1.toNatClampNeg a2)).bind fun x44 =>
      some ((x11.2.1 12 a1.toNatClampNeg), x44)
      else none
/-! X8_sold -/
def f_X8_sold_89 (σ : pp_M) (a5 : Int32) (b0 : Int64) : Option (Int64 × pp_M) :=
  (f_X8_term σ b0 (268435456 : Int64) a5).bind fun x94 =>
  some (x94.1, x94.2)
def f_X8_sold_39 (σ : pp_M)  : Option (Int64 × pp_M) :=
  (f_X8_refusal σ (-2 : Int32)).bind fun x41 =>
  some (x41.1, x41.2)
def f_X8_sold (σ : pp_M) (a1 : Int32) (a2 : Int32) (a3 : Int32) (a4 : Int32) (a5 : Int32) : Option (Int64 × pp_M) :=
  (f_X8_isThing σ a1).bind fun x1 =>
  if x1.1 = 0 then
    f_X8_sold_39 x1.2
  else
    (f_X8_isNumber x1.2 a2).bind fun x8 =>
    if x8.1 = 0 then
      f_X8_sold_39 x8.2
    else
      (f_X8_isLevel x8.2 a3).bind fun x15 =>
      if x15.1 = 0 then
        f_X8_sold_39 x15.2
      else
        (f_X8_within x15.2 a4 (-1 : Int32) (4 : Int32)).bind fun x25 =>
        if x25.1 = 0 then
          f_X8_sold_39 x25.2
        else
          (f_X8_isTerm x25.2 a5).bind fun x33 =>
          if x33.1 = 0 then
            f_X8_sold_39 x33.2
          else
            (f_X0_sell x33.2 a1 a2 a3 34 0 7 (x33.2.1 0 10)).bind fun x60 =>
            if a4 = (-1 : Int32) then
              (f_X0_meanSold x60).bind fun x73 =>
              f_X8_sold_89 x73.2 a5 x73.1
            else
              if pp_ix a4 5 then
              f_X8_sold_89 x60 a5 (x60.2 24 a4.toNatClampNeg)
              else none
/-! X8_straps -/
def f_X8_straps (σ : pp_M)  : Option (Int32 × pp_M) :=
  (f_X8_weighUp σ).bind fun x1 =>
  (f_X5_chooseBest x1 (x1.1 0 12)).bind fun x12 =>
  (f_X5_leastBringing x12 (x12.1 0 12)).bind fun x23 =>
  some (x23.1, x23.2)
/-! X8_thing -/
def f_X8_thing (σ : pp_M) (a1 : Int32) (a2 : Int32) (a3 : Int32) : Option (Int32 × pp_M) :=
  (f_X8_isThing σ a1).bind fun x1 =>
  if x1.1 = 0 then
    some ((-2 : Int32), x1.2)
  else
    (f_X8_within x1.2 a2 (0 : Int32) (5 : Int32)).bind fun x10 =>
    if x10.1 = 0 then
      some ((-2 : Int32), x10.2)
    else
      (f_X1_mayBe x10.2 a1 a2 a3).bind fun x23 =>
      if x23.1 = 0 then
        some ((-2 : Int32), x23.2)
      else
        if pp_ix a1 6 then
        if pp_ix a2 6 then
        (f_X6_forget (ppS x23.2 3 ((a1.toNatClampNeg * 6) + a2.toNatClampNeg) a3)).bind fun x61 =>
        some ((x23.2.1 3 ((a1.toNatClampNeg * 6) + a2.toNatClampNeg)), x61)
        else none
        else none
/-! X8_trust -/
def f_X8_trust (σ : pp_M) (a1 : Int32) (a2 : Int32) (a3 : Int32) (a4 : Int32) (a5 : Int32) : Option (Int32 × pp_M) :=
  (f_X8_isThing σ a1).bind fun x1 =>
  if x1.1 = 0 then
    some ((-2 : Int32), x1.2)
  else
    (f_X8_within x1.2 a2 (0 : Int32) ((x1.2.1 0 10) - (1 : Int32))).bind fun x15 =>
    if x15.1 = 0 then
      some ((-2 : Int32), x15.2)
    else
      (f_X8_within x15.2 a3 (1 : Int32) (4 : Int32)).bind fun x24 =>
      if x24.1 = 0 then
        some ((-2 : Int32), x24.2)
      else
        (f_X8_isLevel x24.2 a4).bind fun x32 =>
        if x32.1 = 0 then
          some ((-2 : Int32), x32.2)
        else
          (f_X8_within x32.2 a5 (0 : Int32) (16 : Int32)).bind fun x43 =>
          if x43.1 = 0 then
            some ((-2 : Int32), x43.2)
          else
            (f_X0_goAlong x43.2 34 0 7 (x43.2.1 0 10)).bind fun x64 =>
            if pp_ix a1 6 then
            if pp_ix ((3 : Int32) + a4) 6 then
            if pp_ix (((x64.1 0 10) - a2) - (1 : Int32)) 8 then
            if pp_ix (((a1 * (5 : Int32)) + a3) - (1 : Int32)) 30 then
            if pp_ix ((x64.1 0 10) - a2) 8 then
            if pp_ix ((a1 * (5 : Int32)) + a3) 30 then
            if (x64.2 23 ((((x64.1 0 10) - a2).toNatClampNeg * 30) + ((a1 * (5 : Int32)) + a3).toNatClampNeg)) < (((((a5 * (x64.1 3 ((a1.toNatClampNeg * 6) + ((3 : Int32) + a4).toNatClampNeg)))).toInt64) * (16777216 : Int64)) + (x64.2 23 (((((x64.1 0 10) - a2) - (1 : Int32)).toNatClampNeg * 30) + (((a1 * (5 : Int32)) + a3) - (1 : Int32)).toNatClampNeg))) then
              some ((1 : Int32), x64)
            else
              some ((0 : Int32), x64)
            else none
            else none
            else none
            else none
            else none
            else none
/-! X8_two -/
def f_X8_two (σ : pp_M) (a1 : Int32) : Option (Int32 × pp_M) :=
  (f_X8_within σ a1 (0 : Int32) (1 : Int32)).bind fun x3 =>
  if x3.1 = 0 then
    some ((-2 : Int32), x3.2)
  else
    (f_X8_tooManyOpen x3.2).bind fun x13 =>
    if x13.1 = 0 then
      (f_X6_findRounds x13.2 (x13.2.1 0 13) (x13.2.1 0 11) (x13.2.1 0 12)).bind fun x38 =>
      (f_X6_part x38 (x38.1 0 13)).bind fun x49 =>
      if a1 = 0 then
        some ((x49.1 36 12), x49)
      else
        some ((x49.1 36 13), x49)
    else
      some ((-4 : Int32), x13.2)
/-! X8_type -/
def f_X8_type (σ : pp_M) (a1 : Int32) : Option (Int32 × pp_M) :=
  (f_X8_within σ a1 (0 : Int32) (255 : Int32)).bind fun x5 =>
  if x5.1 = 0 then
    some ((-2 : Int32), x5.2)
  else
    (f_X3_append x5.2 a1).bind fun x19 =>
    if x19.1 = 0 then
      some ((-4 : Int32), x19.2)
    else
      some ((x19.2.1 13 5), x19.2)
/-! X8_value -/
def f_X8_value_34 (σ : pp_M)  : Option (Int64 × pp_M) :=
  (f_X8_refusal σ (-2 : Int32)).bind fun x36 =>
  some (x36.1, x36.2)
def f_X8_value (σ : pp_M) (a1 : Int32) (a2 : Int32) (a3 : Int32) (a4 : Int32) : Option (Int64 × pp_M) :=
  (f_X8_isThing σ a1).bind fun x1 =>
  if x1.1 = 0 then
    f_X8_value_34 x1.2
  else
    (f_X8_within x1.2 a2 (0 : Int32) (x1.2.1 0 10)).bind fun x13 =>
    if x13.1 = 0 then
      f_X8_value_34 x13.2
    else
      (f_X8_isNumber x13.2 a3).bind fun x20 =>
      if x20.1 = 0 then
        f_X8_value_34 x20.2
      else
        (f_X8_isTerm x20.2 a4).bind fun x28 =>
        if x28.1 = 0 then
          f_X8_value_34 x28.2
        else
          (f_X0_goAlong x28.2 34 0 7 (x28.2.1 0 10)).bind fun x52 =>
          if pp_ix ((x52.1 0 10) - a2) 8 then
          if pp_ix ((a1 * (5 : Int32)) + a3) 30 then
          (f_X8_term x52 (x52.2 23 ((((x52.1 0 10) - a2).toNatClampNeg * 30) + ((a1 * (5 : Int32)) + a3).toNatClampNeg)) (268435456 : Int64) a4).bind fun x80 =>
          some (x80.1, x80.2)
          else none
          else none
/-! X8_wants -/
def f_X8_wants (σ : pp_M)  : Option (Int32 × pp_M) :=
  (f_X3_findFault σ).bind fun x4 =>
  if x4.1 = (-1 : Int32) then
    (f_X3_tellTo x4.2).bind fun x22 =>
    (f_X6_forget (ppS x22.2 13 5 (0 : Int32))).bind fun x38 =>
    some (x22.1, x38)
  else
    some ((-3 : Int32), x4.2)
/-! X8_way -/
def f_X8_way (σ : pp_M) (a1 : Int32) (a2 : Int32) : Option (Int32 × pp_M) :=
  (f_X8_isPlace σ a1).bind fun x1 =>
  if x1.1 = 0 then
    some ((-2 : Int32), x1.2)
  else
    (f_X8_isPlace x1.2 a2).bind fun x8 =>
    if x8.1 = 0 then
      some ((-2 : Int32), x8.2)
    else
      if pp_ix a1 8 then
      if pp_ix a2 8 then
      some ((x8.2.1 8 ((a1.toNatClampNeg * 8) + a2.toNatClampNeg)), x8.2)
      else none
      else none
/-! X8_wipe -/
def f_X8_wipe (σ : pp_M)  : Option (Int32 × pp_M) :=
  some ((σ.1 13 5), ppS σ 13 5 (0 : Int32))
/-! X8_write -/
def f_X8_write_62_B (k62 : pp_M → Int32 → Int32 → Int32 → Option (Int32 × pp_M)) (σ : pp_M) (a1 : Int32) (a2 : Int32) (a3 : Int32) : Option (Int32 × pp_M) :=
  if a3 < a2 then
    if pp_ix a3 6 then
    (f_X7_lay σ a1 a3 (σ.1 32 a3.toNatClampNeg)).bind fun x82 =>
    k62 x82 a1 a2 (a3 + (1 : Int32))
    else none
  else
    some (a2, σ)
def f_X8_write_62 : Nat → pp_M → Int32 → Int32 → Int32 → Option (Int32 × pp_M)
  | 0 => fun _ _ _ _ => none
  | n + 1 => fun σ a1 a2 a3 => f_X8_write_62_B (f_X8_write_62 n) σ a1 a2 a3
def f_X8_write (σ : pp_M) (a1 : Int32) : Option (Int32 × pp_M) :=
  (f_X8_isSheet σ a1).bind fun x1 =>
  if x1.1 = 0 then
    some ((-2 : Int32), x1.2)
  else
    (f_X7_isLost x1.2 a1).bind fun x15 =>
    if x15.1 = 0 then
      (f_X8_weighUp x15.2).bind fun x31 =>
      (f_X5_chooseBest x31 (x31.1 0 12)).bind fun x42 =>
      if pp_ix a1 4 then
      f_X8_write_62 100000 x42 a1 (if (6 : Int32) < (x42.1 20 a1.toNatClampNeg) then (6 : Int32) else (x42.1 20 a1.toNatClampNeg)) (0 : Int32)
      else none
    else
      (f_X7_found x15.2 (1 : Int32)).bind fun x26 =>
      some (x26.1, x26.2)
/-! X9_in -/
def f_X9_in (σ : pp_M) (a0 : Int32) (a1 : Int32) (a2 : Int32) : Option (Int32 × pp_M) :=
  if a0 < a1 then
    some ((0 : Int32), σ)
  else
    if a2 < a0 then
      some ((0 : Int32), σ)
    else
      some ((1 : Int32), σ)
/-! X9_isThing -/
def f_X9_isThing (σ : pp_M) (a0 : Int32) : Option (Int32 × pp_M) :=
  (f_X9_in σ a0 (0 : Int32) (5 : Int32)).bind fun x3 =>
  if pp_b x3.1 then
  some (x3.1, x3.2)
  else none
/-! X9_place -/
def f_X9_place (σ : pp_M) (a0 : Int32) (a1 : Int32) : Option (Int32 × pp_M) :=
  some (((3 : Int32) * (((6 : Int32) * a0) + a1)), σ)
/-! X9_chanceNow -/
def f_X9_chanceNow (σ : pp_M) (a1 : Int32) (a2 : Int32) (a3 : Int32) : Option (Int32 × pp_M) :=
  (f_X9_place σ a1 a2).bind fun x6 =>
  if pp_ix (x6.1 + a3) 144 then
  if pp_ix a2 6 then
  if ((x6.2.1 47 (x6.1 + a3).toNatClampNeg) - (x6.2.1 48 a2.toNatClampNeg)) < 0 then
    some ((0 : Int32), x6.2)
  else
    some (((x6.2.1 47 (x6.1 + a3).toNatClampNeg) - (x6.2.1 48 a2.toNatClampNeg)), x6.2)
  else none
  else none
/-! X9_sixteen -/
def f_X9_sixteen (σ : pp_M) (a0 : Int32) : Option (Int64 × pp_M) :=
  some (((1 : Int64) <<< ((((4 : Int32) * a0)).toInt64 &&& 63)), σ)
/-! X9_spot -/
def f_X9_spot (σ : pp_M) (a0 : Int32) (a1 : Int32) (a2 : Int32) : Option (Int32 × pp_M) :=
  some ((((5 : Int32) * (((8 : Int32) * a0) + a1)) + a2), σ)
/-! X9_laysWorth -/
def f_X9_laysWorth_212 (k2 : pp_M → Int32 → Option (pp_M)) (k58 : pp_M → Int32 → Int32 → Option (pp_M)) (k89 : pp_M → Int32 → Int32 → Int64 → Int32 → Option (pp_M)) (k143 : pp_M → Int32 → Int32 → Int64 → Int32 → Int64 → Int64 → Int64 → Int32 → Int32 → Option (pp_M)) (σ : pp_M) (a1 : Int32) (a2 : Int32) (a3 : Int64) (a5 : Int32) (a6 : Int64) (a8 : Int64) (a10 : Int64) (a12 : Int32) (a13 : Int32) : Option (pp_M) :=
  k143 σ a1 a2 a3 a5 a6 a8 a10 a12 (a13 + (-1 : Int32))
def f_X9_laysWorth_143_B (k2 : pp_M → Int32 → Option (pp_M)) (k58 : pp_M → Int32 → Int32 → Option (pp_M)) (k89 : pp_M → Int32 → Int32 → Int64 → Int32 → Option (pp_M)) (k143 : pp_M → Int32 → Int32 → Int64 → Int32 → Int64 → Int64 → Int64 → Int32 → Int32 → Option (pp_M)) (σ : pp_M) (a1 : Int32) (a2 : Int32) (a3 : Int64) (a5 : Int32) (a6 : Int64) (a8 : Int64) (a10 : Int64) (a12 : Int32) (a13 : Int32) : Option (pp_M) :=
  if a13 < 0 then
    (f_X9_spot σ a1 a2 a5).bind fun x226 =>
    if pp_ix x226.1 240 then
    (f_X9_spot (ppT x226.2 56 x226.1.toNatClampNeg a10) a1 a2 a5).bind fun x240 =>
    if pp_ix x240.1 240 then
    k89 (ppS x240.2 57 x240.1.toNatClampNeg a12) a1 a2 a3 (a5 + (1 : Int32))
    else none
    else none
  else
    if pp_ix a2 7 then
    (f_X9_chanceNow σ (σ.1 55 a2.toNatClampNeg) a1 a13).bind fun x158 =>
    if pp_ix (((3 : Int32) * a1) + a13) 18 then
    if (((x158.1.toInt64) * (((((x158.2.1 44 (((3 : Int32) * a1) + a13).toNatClampNeg)).toInt64) * a3) + a8)) + (((16 : Int64) - (x158.1.toInt64)) * a6)) < a10 then
      f_X9_laysWorth_212 k2 k58 k89 k143 x158.2 a1 a2 a3 a5 a6 a8 a10 a12 a13
    else
      f_X9_laysWorth_212 k2 k58 k89 k143 x158.2 a1 a2 a3 a5 a6 a8 (((x158.1.toInt64) * (((((x158.2.1 44 (((3 : Int32) * a1) + a13).toNatClampNeg)).toInt64) * a3) + a8)) + (((16 : Int64) - (x158.1.toInt64)) * a6)) a13 a13
    else none
    else none
def f_X9_laysWorth_143 (k2 : pp_M → Int32 → Option (pp_M)) (k58 : pp_M → Int32 → Int32 → Option (pp_M)) (k89 : pp_M → Int32 → Int32 → Int64 → Int32 → Option (pp_M)) : Nat → pp_M → Int32 → Int32 → Int64 → Int32 → Int64 → Int64 → Int64 → Int32 → Int32 → Option (pp_M)
  | 0 => fun _ _ _ _ _ _ _ _ _ _ => none
  | n + 1 => fun σ a1 a2 a3 a5 a6 a8 a10 a12 a13 => f_X9_laysWorth_143_B k2 k58 k89 (f_X9_laysWorth_143 k2 k58 k89 n) σ a1 a2 a3 a5 a6 a8 a10 a12 a13
def f_X9_laysWorth_89_B (k2 : pp_M → Int32 → Option (pp_M)) (k58 : pp_M → Int32 → Int32 → Option (pp_M)) (k89 : pp_M → Int32 → Int32 → Int64 → Int32 → Option (pp_M)) (σ : pp_M) (a1 : Int32) (a2 : Int32) (a3 : Int64) (a5 : Int32) : Option (pp_M) :=
  if a5 < (5 : Int32) then
    (f_X9_spot σ a1 (a2 + (1 : Int32)) a5).bind fun x105 =>
    if pp_ix x105.1 240 then
    (f_X9_spot x105.2 a1 (a2 + (1 : Int32)) (a5 - (1 : Int32))).bind fun x123 =>
    if pp_ix x123.1 240 then
    f_X9_laysWorth_143 k2 k58 k89 100000 x123.2 a1 a2 a3 a5 (x105.2.2 56 x105.1.toNatClampNeg) (x123.2.2 56 x123.1.toNatClampNeg) ((16 : Int64) * (x105.2.2 56 x105.1.toNatClampNeg)) (3 : Int32) (2 : Int32)
    else none
    else none
  else
    k58 σ a1 (a2 + (-1 : Int32))
def f_X9_laysWorth_89 (k2 : pp_M → Int32 → Option (pp_M)) (k58 : pp_M → Int32 → Int32 → Option (pp_M)) : Nat → pp_M → Int32 → Int32 → Int64 → Int32 → Option (pp_M)
  | 0 => fun _ _ _ _ _ => none
  | n + 1 => fun σ a1 a2 a3 a5 => f_X9_laysWorth_89_B k2 k58 (f_X9_laysWorth_89 k2 k58 n) σ a1 a2 a3 a5
def f_X9_laysWorth_58_B (k2 : pp_M → Int32 → Option (pp_M)) (k58 : pp_M → Int32 → Int32 → Option (pp_M)) (σ : pp_M) (a1 : Int32) (a2 : Int32) : Option (pp_M) :=
  if a2 < 0 then
    k2 σ (a1 + (1 : Int32))
  else
    (f_X9_sixteen σ (((σ.1 40 22) - (1 : Int32)) - a2)).bind fun x70 =>
    (f_X9_spot x70.2 a1 a2 (0 : Int32)).bind fun x81 =>
    if pp_ix x81.1 240 then
    f_X9_laysWorth_89 k2 k58 100000 (ppT x81.2 56 x81.1.toNatClampNeg (0 : Int64)) a1 a2 x70.1 (1 : Int32)
    else none
def f_X9_laysWorth_58 (k2 : pp_M → Int32 → Option (pp_M)) : Nat → pp_M → Int32 → Int32 → Option (pp_M)
  | 0 => fun _ _ _ => none
  | n + 1 => fun σ a1 a2 => f_X9_laysWorth_58_B k2 (f_X9_laysWorth_58 k2 n) σ a1 a2
def f_X9_laysWorth_10_B (k2 : pp_M → Int32 → Option (pp_M)) (k10 : pp_M → Int32 → Int32 → Option (pp_M)) (σ : pp_M) (a1 : Int32) (a2 : Int32) : Option (pp_M) :=
  if a2 < (5 : Int32) then
    (f_X9_spot σ a1 (σ.1 40 22) a2).bind fun x25 =>
    if pp_ix a1 6 then
    if pp_ix x25.1 240 then
    k10 (ppT x25.2 56 x25.1.toNatClampNeg (((a2 * ((x25.2.1 41 a1.toNatClampNeg) - (x25.2.1 43 a1.toNatClampNeg)))).toInt64)) a1 (a2 + (1 : Int32))
    else none
    else none
  else
    f_X9_laysWorth_58 k2 100000 σ a1 ((σ.1 40 22) - (1 : Int32))
def f_X9_laysWorth_10 (k2 : pp_M → Int32 → Option (pp_M)) : Nat → pp_M → Int32 → Int32 → Option (pp_M)
  | 0 => fun _ _ _ => none
  | n + 1 => fun σ a1 a2 => f_X9_laysWorth_10_B k2 (f_X9_laysWorth_10 k2 n) σ a1 a2
def f_X9_laysWorth_2_B (k2 : pp_M → Int32 → Option (pp_M)) (σ : pp_M) (a1 : Int32) : Option (pp_M) :=
  if a1 < (6 : Int32) then
    f_X9_laysWorth_10 k2 100000 σ a1 (0 : Int32)
  else
    some σ
def f_X9_laysWorth_2 : Nat → pp_M → Int32 → Option (pp_M)
  | 0 => fun _ _ => none
  | n + 1 => fun σ a1 => f_X9_laysWorth_2_B (f_X9_laysWorth_2 n) σ a1
def f_X9_laysWorth (σ : pp_M)  : Option (pp_M) :=
  f_X9_laysWorth_2 100000 σ (0 : Int32)
/-! X9_looksAtRow -/
def f_X9_looksAtRow_10_B (k10 : pp_M → Int32 → Option (pp_M)) (σ : pp_M) (a1 : Int32) : Option (pp_M) :=
  if a1 < (σ.1 40 19) then
    if pp_ix a1 7 then
    k10 (ppS σ 55 a1.toNatClampNeg (σ.1 53 a1.toNatClampNeg)) (a1 + (1 : Int32))
    else none
  else
    (f_X9_laysWorth σ).bind fun x37 =>
    some x37
def f_X9_looksAtRow_10 : Nat → pp_M → Int32 → Option (pp_M)
  | 0 => fun _ _ => none
  | n + 1 => fun σ a1 => f_X9_looksAtRow_10_B (f_X9_looksAtRow_10 n) σ a1
def f_X9_looksAtRow (σ : pp_M)  : Option (pp_M) :=
  f_X9_looksAtRow_10 100000 (ppS σ 40 22 (σ.1 40 19)) (0 : Int32)
/-! X9_ask -/
def f_X9_ask (σ : pp_M) (a1 : Int32) (a2 : Int32) (a3 : Int32) : Option (Int32 × pp_M) :=
  (f_X9_isThing σ a1).bind fun x1 =>
  if x1.1 = 0 then
    some ((-2 : Int32), x1.2)
  else
    (f_X9_in x1.2 a2 (0 : Int32) ((x1.2.1 40 19) - (1 : Int32))).bind fun x15 =>
    if x15.1 = 0 then
      some ((-2 : Int32), x15.2)
    else
      (f_X9_in x15.2 a3 (1 : Int32) (4 : Int32)).bind fun x24 =>
      if x24.1 = 0 then
        some ((-2 : Int32), x24.2)
      else
        (f_X9_looksAtRow x24.2).bind fun x34 =>
        (f_X9_spot x34 a1 a2 a3).bind fun x44 =>
        if pp_ix x44.1 240 then
        some ((x44.2.1 57 x44.1.toNatClampNeg), x44.2)
        else none
/-! X9_gainOf -/
def f_X9_gainOf (σ : pp_M) (a1 : Int32) (a2 : Int32) : Option (Int64 × pp_M) :=
  (f_X9_spot σ a1 (0 : Int32) a2).bind fun x7 =>
  if pp_ix x7.1 240 then
  if pp_ix a1 6 then
  (f_X9_sixteen x7.2 (x7.2.1 40 22)).bind fun x24 =>
  some (((x7.2.2 56 x7.1.toNatClampNeg) - ((((a2 * (x7.2.1 41 a1.toNatClampNeg))).toInt64) * x24.1)), x24.2)
  else none
  else none
/-! X9_packs -/
def f_X9_packs_178 (k11 : pp_M → Int32 → Int32 → Int32 → Option (pp_M)) (σ : pp_M) (a1 : Int32) (a2 : Int32) (a3 : Int32) : Option (pp_M) :=
  k11 σ a1 a2 (a3 + (1 : Int32))
def f_X9_packs_150_B (k11 : pp_M → Int32 → Int32 → Int32 → Option (pp_M)) (k150 : pp_M → Int32 → Int32 → Int32 → Int32 → Int32 → Option (pp_M)) (σ : pp_M) (a1 : Int32) (a2 : Int32) (a3 : Int32) (a4 : Int32) (a8 : Int32) : Option (pp_M) :=
  if a8 < 0 then
    f_X9_packs_178 k11 σ a1 a2 a3
  else
    if pp_ix a8 6 then
    k150 (ppS σ 59 a8.toNatClampNeg (a4 - a4 / (5 : Int32) * (5 : Int32))) a1 a2 a3 (a4 / (5 : Int32)) (a8 + (-1 : Int32))
    else none
def f_X9_packs_150 (k11 : pp_M → Int32 → Int32 → Int32 → Option (pp_M)) : Nat → pp_M → Int32 → Int32 → Int32 → Int32 → Int32 → Option (pp_M)
  | 0 => fun _ _ _ _ _ _ => none
  | n + 1 => fun σ a1 a2 a3 a4 a8 => f_X9_packs_150_B k11 (f_X9_packs_150 k11 n) σ a1 a2 a3 a4 a8
def f_X9_packs_135 (k11 : pp_M → Int32 → Int32 → Int32 → Option (pp_M)) (σ : pp_M) (a1 : Int32) (a3 : Int32) (a5 : Int32) (a6 : Int64) : Option (pp_M) :=
  f_X9_packs_150 k11 100000 (ppT σ 40 28 a6) a1 a5 a3 a3 (5 : Int32)
def f_X9_packs_77 (k11 : pp_M → Int32 → Int32 → Int32 → Option (pp_M)) (k30 : pp_M → Int32 → Int32 → Int32 → Int32 → Int32 → Int64 → Int32 → Option (pp_M)) (σ : pp_M) (a1 : Int32) (a2 : Int32) (a3 : Int32) (a4 : Int32) (a6 : Int64) (a8 : Int32) (a9 : Int32) (b0 : Int32) (b1 : Int32) (b2 : Int32) : Option (pp_M) :=
  (f_X9_gainOf σ a8 a9).bind fun x88 =>
  k30 x88.2 a1 a2 a3 a4 (b0 + (b1 + b2)) (a6 + x88.1) (a8 + (-1 : Int32))
def f_X9_packs_76 (k11 : pp_M → Int32 → Int32 → Int32 → Option (pp_M)) (k30 : pp_M → Int32 → Int32 → Int32 → Int32 → Int32 → Int64 → Int32 → Option (pp_M)) (σ : pp_M) (a1 : Int32) (a2 : Int32) (a3 : Int32) (a4 : Int32) (a6 : Int64) (a8 : Int32) (a9 : Int32) (b0 : Int32) (b1 : Int32) : Option (pp_M) :=
  f_X9_packs_77 k11 k30 σ a1 a2 a3 a4 a6 a8 a9 b0 b1 (0 : Int32)
def f_X9_packs_30_B (k11 : pp_M → Int32 → Int32 → Int32 → Option (pp_M)) (k30 : pp_M → Int32 → Int32 → Int32 → Int32 → Int32 → Int64 → Int32 → Option (pp_M)) (σ : pp_M) (a1 : Int32) (a2 : Int32) (a3 : Int32) (a4 : Int32) (a5 : Int32) (a6 : Int64) (a8 : Int32) : Option (pp_M) :=
  if a8 < 0 then
    if (σ.1 40 7) < a5 then
      f_X9_packs_178 k11 σ a1 a2 a3
    else
      if (σ.2 40 28) < a6 then
        f_X9_packs_135 k11 σ a1 a3 a5 a6
      else
        if a6 = (σ.2 40 28) then
          if a5 < a2 then
            f_X9_packs_135 k11 σ a1 a3 a5 a6
          else
            f_X9_packs_178 k11 σ a1 a2 a3
        else
          f_X9_packs_178 k11 σ a1 a2 a3
  else
    if pp_ix a8 6 then
    if a8 = a1 then
      if 0 < (a4 - a4 / (5 : Int32) * (5 : Int32)) then
        f_X9_packs_77 k11 k30 σ a1 a2 a3 (a4 / (5 : Int32)) a6 a8 (a4 - a4 / (5 : Int32) * (5 : Int32)) a5 ((a4 - a4 / (5 : Int32) * (5 : Int32)) * (σ.1 42 a8.toNatClampNeg)) (1000 : Int32)
      else
        f_X9_packs_76 k11 k30 σ a1 a2 a3 (a4 / (5 : Int32)) a6 a8 (a4 - a4 / (5 : Int32) * (5 : Int32)) a5 ((a4 - a4 / (5 : Int32) * (5 : Int32)) * (σ.1 42 a8.toNatClampNeg))
    else
      f_X9_packs_76 k11 k30 σ a1 a2 a3 (a4 / (5 : Int32)) a6 a8 (a4 - a4 / (5 : Int32) * (5 : Int32)) a5 ((a4 - a4 / (5 : Int32) * (5 : Int32)) * (σ.1 42 a8.toNatClampNeg))
    else none
def f_X9_packs_30 (k11 : pp_M → Int32 → Int32 → Int32 → Option (pp_M)) : Nat → pp_M → Int32 → Int32 → Int32 → Int32 → Int32 → Int64 → Int32 → Option (pp_M)
  | 0 => fun _ _ _ _ _ _ _ _ => none
  | n + 1 => fun σ a1 a2 a3 a4 a5 a6 a8 => f_X9_packs_30_B k11 (f_X9_packs_30 k11 n) σ a1 a2 a3 a4 a5 a6 a8
def f_X9_packs_11_B (k11 : pp_M → Int32 → Int32 → Int32 → Option (pp_M)) (σ : pp_M) (a1 : Int32) (a2 : Int32) (a3 : Int32) : Option (pp_M) :=
  if a3 < (15625 : Int32) then
    f_X9_packs_30 k11 100000 σ a1 a2 a3 a3 (0 : Int32) (0 : Int64) (5 : Int32)
  else
    some σ
def f_X9_packs_11 : Nat → pp_M → Int32 → Int32 → Int32 → Option (pp_M)
  | 0 => fun _ _ _ _ => none
  | n + 1 => fun σ a1 a2 a3 => f_X9_packs_11_B (f_X9_packs_11 n) σ a1 a2 a3
def f_X9_packs (σ : pp_M) (a1 : Int32) : Option (pp_M) :=
  f_X9_packs_11 100000 (ppT σ 40 28 (-1000000000000000000 : Int64)) a1 (0 : Int32) (0 : Int32)
/-! X9_weightOf -/
def f_X9_weightOf (σ : pp_M) (a1 : Int32) (a2 : Int32) : Option (Int32 × pp_M) :=
  if pp_ix a1 6 then
  some ((a2 * (σ.1 42 a1.toNatClampNeg)), σ)
  else none
/-! X9_bestNow -/
def f_X9_bestNow_25_B (k25 : pp_M → Int32 → Int32 → Option (Int32 × pp_M)) (σ : pp_M) (a2 : Int32) (a3 : Int32) : Option (Int32 × pp_M) :=
  if a3 < (6 : Int32) then
    if pp_ix a3 6 then
    (f_X9_weightOf σ a3 (σ.1 59 a3.toNatClampNeg)).bind fun x40 =>
    k25 x40.2 (a2 + x40.1) (a3 + (1 : Int32))
    else none
  else
    some (a2, σ)
def f_X9_bestNow_25 : Nat → pp_M → Int32 → Int32 → Option (Int32 × pp_M)
  | 0 => fun _ _ _ => none
  | n + 1 => fun σ a2 a3 => f_X9_bestNow_25_B (f_X9_bestNow_25 n) σ a2 a3
def f_X9_bestNow (σ : pp_M) (a1 : Int32) : Option (Int32 × pp_M) :=
  (f_X9_looksAtRow σ).bind fun x1 =>
  (f_X9_packs x1 (-1 : Int32)).bind fun x6 =>
  if a1 = (-1 : Int32) then
    f_X9_bestNow_25 100000 x6 (0 : Int32) (0 : Int32)
  else
    if pp_ix a1 6 then
    some ((x6.1 59 a1.toNatClampNeg), x6)
    else none
/-! X9_best -/
def f_X9_best_12 (σ : pp_M) (a1 : Int32) : Option (Int32 × pp_M) :=
  (f_X9_bestNow σ a1).bind fun x14 =>
  some (x14.1, x14.2)
def f_X9_best (σ : pp_M) (a1 : Int32) : Option (Int32 × pp_M) :=
  if a1 = (-1 : Int32) then
    f_X9_best_12 σ a1
  else
    (f_X9_isThing σ a1).bind fun x6 =>
    if x6.1 = 0 then
      some ((-2 : Int32), x6.2)
    else
      f_X9_best_12 x6.2 a1
/-! X9_gathers -/
def f_X9_gathers_47 (k7 : pp_M → Int32 → Option (Int32 × pp_M)) (σ : pp_M) (a1 : Int32) : Option (Int32 × pp_M) :=
  k7 σ (a1 + (1 : Int32))
def f_X9_gathers_7_B (k7 : pp_M → Int32 → Option (Int32 × pp_M)) (σ : pp_M) (a1 : Int32) : Option (Int32 × pp_M) :=
  if (7 : Int32) < a1 then
    if (5 : Int32) < (σ.1 40 32) then
      some ((0 : Int32), σ)
    else
      some ((1 : Int32), σ)
  else
    if (((σ.1 40 8) >>> ((a1 - (1 : Int32)) &&& 31)) &&& (1 : Int32)) = (1 : Int32) then
      if pp_ix (σ.1 40 32) 7 then
      f_X9_gathers_47 k7 (ppS (ppS σ 61 (σ.1 40 32).toNatClampNeg a1) 40 32 (((ppS σ 61 (σ.1 40 32).toNatClampNeg a1).1 40 32) + (1 : Int32))) a1
      else none
    else
      f_X9_gathers_47 k7 σ a1
def f_X9_gathers_7 : Nat → pp_M → Int32 → Option (Int32 × pp_M)
  | 0 => fun _ _ => none
  | n + 1 => fun σ a1 => f_X9_gathers_7_B (f_X9_gathers_7 n) σ a1
def f_X9_gathers (σ : pp_M)  : Option (Int32 × pp_M) :=
  f_X9_gathers_7 100000 (ppS σ 40 32 (0 : Int32)) (1 : Int32)
/-! X9_lowest -/
def f_X9_lowest_17_B (k17 : pp_M → Int64 → Int64 → Int32 → Int64 → Int64 → Option (Int64 × pp_M)) (σ : pp_M) (a0 : Int64) (a2 : Int64) (a4 : Int32) (a5 : Int64) (a7 : Int64) : Option (Int64 × pp_M) :=
  if a7 = (0 : Int64) then
    if a4 = 0 then
      if ¬ a5 = 0 then
      some ((a0 / a5), σ)
      else none
    else
      if ¬ a5 = 0 then
      some ((a2 / a5), σ)
      else none
  else
    if ¬ a7 = 0 then
    k17 σ a0 a2 a4 a7 (a5 - a5 / a7 * a7)
    else none
def f_X9_lowest_17 : Nat → pp_M → Int64 → Int64 → Int32 → Int64 → Int64 → Option (Int64 × pp_M)
  | 0 => fun _ _ _ _ _ _ => none
  | n + 1 => fun σ a0 a2 a4 a5 a7 => f_X9_lowest_17_B (f_X9_lowest_17 n) σ a0 a2 a4 a5 a7
def f_X9_lowest_12 (σ : pp_M) (a0 : Int64) (a2 : Int64) (a4 : Int32) (b0 : Int64) : Option (Int64 × pp_M) :=
  f_X9_lowest_17 100000 σ a0 a2 a4 b0 a2
def f_X9_lowest (σ : pp_M) (a0 : Int64) (a2 : Int64) (a4 : Int32) : Option (Int64 × pp_M) :=
  if a0 < (0 : Int64) then
    f_X9_lowest_12 σ a0 a2 a4 (-a0)
  else
    f_X9_lowest_12 σ a0 a2 a4 a0
/-! X9_no -/
def f_X9_no (σ : pp_M) (a0 : Int32) : Option (Int64 × pp_M) :=
  some (((-9223372036854775808 : Int64) - (a0.toInt64)), σ)
/-! X9_fives -/
def f_X9_fives_4_B (k4 : pp_M → Int32 → Int32 → Int32 → Option (Int32 × pp_M)) (σ : pp_M) (a0 : Int32) (a1 : Int32) (a2 : Int32) : Option (Int32 × pp_M) :=
  if a2 < a0 then
    k4 σ a0 (a1 * (5 : Int32)) (a2 + (1 : Int32))
  else
    some (a1, σ)
def f_X9_fives_4 : Nat → pp_M → Int32 → Int32 → Int32 → Option (Int32 × pp_M)
  | 0 => fun _ _ _ _ => none
  | n + 1 => fun σ a0 a1 a2 => f_X9_fives_4_B (f_X9_fives_4 n) σ a0 a1 a2
def f_X9_fives (σ : pp_M) (a0 : Int32) : Option (Int32 × pp_M) :=
  f_X9_fives_4 100000 σ a0 (1 : Int32) (0 : Int32)
/-! X9_hoursFrom -/
def f_X9_hoursFrom_7_B (k7 : pp_M → Int32 → Int32 → Int32 → Option (Int32 × pp_M)) (σ : pp_M) (a2 : Int32) (a3 : Int32) (a4 : Int32) : Option (Int32 × pp_M) :=
  if a4 < (σ.1 40 22) then
    if pp_ix a4 7 then
    if pp_ix (((8 : Int32) * a3) + (σ.1 55 a4.toNatClampNeg)) 64 then
    k7 σ (a2 + (σ.1 46 (((8 : Int32) * a3) + (σ.1 55 a4.toNatClampNeg)).toNatClampNeg)) (σ.1 55 a4.toNatClampNeg) (a4 + (1 : Int32))
    else none
    else none
  else
    if pp_ix ((8 : Int32) * a3) 64 then
    some ((a2 + (σ.1 46 ((8 : Int32) * a3).toNatClampNeg)), σ)
    else none
def f_X9_hoursFrom_7 : Nat → pp_M → Int32 → Int32 → Int32 → Option (Int32 × pp_M)
  | 0 => fun _ _ _ _ => none
  | n + 1 => fun σ a2 a3 a4 => f_X9_hoursFrom_7_B (f_X9_hoursFrom_7 n) σ a2 a3 a4
def f_X9_hoursFrom (σ : pp_M) (a1 : Int32) : Option (Int32 × pp_M) :=
  f_X9_hoursFrom_7 100000 σ (0 : Int32) a1 (0 : Int32)
/-! X9_laysWays -/
def f_X9_laysWays_127 (k58 : pp_M → Int32 → Option (pp_M)) (k66 : pp_M → Int32 → Int32 → Option (pp_M)) (σ : pp_M) (a1 : Int32) (a2 : Int32) (b1 : Int32) (b2 : Int32) : Option (pp_M) :=
  if pp_ix b1 64 then
  k66 (ppS σ 46 b1.toNatClampNeg b2) a1 (a2 + (1 : Int32))
  else none
def f_X9_laysWays_66_B (k58 : pp_M → Int32 → Option (pp_M)) (k66 : pp_M → Int32 → Int32 → Option (pp_M)) (σ : pp_M) (a1 : Int32) (a2 : Int32) : Option (pp_M) :=
  if a2 < (64 : Int32) then
    if pp_ix (((a2 / (8 : Int32)) * (8 : Int32)) + a1) 64 then
    if pp_ix (((8 : Int32) * a1) + (a2 - a2 / (8 : Int32) * (8 : Int32))) 64 then
    if pp_ix a2 64 then
    if ((σ.1 46 (((a2 / (8 : Int32)) * (8 : Int32)) + a1).toNatClampNeg) + (σ.1 46 (((8 : Int32) * a1) + (a2 - a2 / (8 : Int32) * (8 : Int32))).toNatClampNeg)) < (σ.1 46 a2.toNatClampNeg) then
      f_X9_laysWays_127 k58 k66 σ a1 a2 a2 ((σ.1 46 (((a2 / (8 : Int32)) * (8 : Int32)) + a1).toNatClampNeg) + (σ.1 46 (((8 : Int32) * a1) + (a2 - a2 / (8 : Int32) * (8 : Int32))).toNatClampNeg))
    else
      f_X9_laysWays_127 k58 k66 σ a1 a2 a2 (σ.1 46 a2.toNatClampNeg)
    else none
    else none
    else none
  else
    k58 σ (a1 + (1 : Int32))
def f_X9_laysWays_66 (k58 : pp_M → Int32 → Option (pp_M)) : Nat → pp_M → Int32 → Int32 → Option (pp_M)
  | 0 => fun _ _ _ => none
  | n + 1 => fun σ a1 a2 => f_X9_laysWays_66_B k58 (f_X9_laysWays_66 k58 n) σ a1 a2
def f_X9_laysWays_58_B (k58 : pp_M → Int32 → Option (pp_M)) (σ : pp_M) (a1 : Int32) : Option (pp_M) :=
  if a1 < (8 : Int32) then
    f_X9_laysWays_66 k58 100000 σ a1 (0 : Int32)
  else
    some σ
def f_X9_laysWays_58 : Nat → pp_M → Int32 → Option (pp_M)
  | 0 => fun _ _ => none
  | n + 1 => fun σ a1 => f_X9_laysWays_58_B (f_X9_laysWays_58 n) σ a1
def f_X9_laysWays_49 (k2 : pp_M → Int32 → Option (pp_M)) (σ : pp_M) (a1 : Int32) (b1 : Int32) (b2 : Int32) : Option (pp_M) :=
  if pp_ix b1 64 then
  k2 (ppS σ 46 b1.toNatClampNeg b2) (a1 + (1 : Int32))
  else none
def f_X9_laysWays_2_B (k2 : pp_M → Int32 → Option (pp_M)) (σ : pp_M) (a1 : Int32) : Option (pp_M) :=
  if a1 < (64 : Int32) then
    if (a1 / (8 : Int32)) = (a1 - a1 / (8 : Int32) * (8 : Int32)) then
      f_X9_laysWays_49 k2 σ a1 a1 (0 : Int32)
    else
      if pp_ix a1 64 then
      if 0 < (σ.1 45 a1.toNatClampNeg) then
        f_X9_laysWays_49 k2 σ a1 a1 (σ.1 45 a1.toNatClampNeg)
      else
        f_X9_laysWays_49 k2 σ a1 a1 (1000 : Int32)
      else none
  else
    f_X9_laysWays_58 100000 σ (0 : Int32)
def f_X9_laysWays_2 : Nat → pp_M → Int32 → Option (pp_M)
  | 0 => fun _ _ => none
  | n + 1 => fun σ a1 => f_X9_laysWays_2_B (f_X9_laysWays_2 n) σ a1
def f_X9_laysWays (σ : pp_M)  : Option (pp_M) :=
  f_X9_laysWays_2 100000 σ (0 : Int32)
/-! X9_looksAt -/
def f_X9_looksAt_15_B (k15 : pp_M → Int32 → Int32 → Int32 → Option (Int32 × pp_M)) (σ : pp_M) (a3 : Int32) (a4 : Int32) (a5 : Int32) : Option (Int32 × pp_M) :=
  if a5 < 0 then
    some (a4, σ)
  else
    if (a3 - a3 / (5 : Int32) * (5 : Int32)) < (σ.1 40 32) then
      if ((a4 >>> ((a3 - a3 / (5 : Int32) * (5 : Int32)) &&& 31)) &&& (1 : Int32)) = (1 : Int32) then
        some ((-1 : Int32), σ)
      else
        if pp_ix (a3 - a3 / (5 : Int32) * (5 : Int32)) 7 then
        if pp_ix a5 7 then
        k15 (ppS σ 55 a5.toNatClampNeg (σ.1 61 (a3 - a3 / (5 : Int32) * (5 : Int32)).toNatClampNeg)) (a3 / (5 : Int32)) (a4 ||| ((1 : Int32) <<< ((a3 - a3 / (5 : Int32) * (5 : Int32)) &&& 31))) (a5 + (-1 : Int32))
        else none
        else none
    else
      some ((-1 : Int32), σ)
def f_X9_looksAt_15 : Nat → pp_M → Int32 → Int32 → Int32 → Option (Int32 × pp_M)
  | 0 => fun _ _ _ _ => none
  | n + 1 => fun σ a3 a4 a5 => f_X9_looksAt_15_B (f_X9_looksAt_15 n) σ a3 a4 a5
def f_X9_looksAt (σ : pp_M) (a1 : Int32) (a2 : Int32) : Option (Int32 × pp_M) :=
  f_X9_looksAt_15 100000 (ppS σ 40 22 a1) a2 (0 : Int32) (a1 - (1 : Int32))
/-! X9_mostGain -/
def f_X9_mostGain_122 (k29 : pp_M → Int32 → Option (Int64 × pp_M)) (k40 : pp_M → Int32 → Int32 → Option (Int64 × pp_M)) (σ : pp_M) (a1 : Int32) (a2 : Int32) : Option (Int64 × pp_M) :=
  k40 σ a1 (a2 + (-1 : Int32))
def f_X9_mostGain_115 (k29 : pp_M → Int32 → Option (Int64 × pp_M)) (k40 : pp_M → Int32 → Int32 → Option (Int64 × pp_M)) (k46 : pp_M → Int32 → Int32 → Int32 → Option (Int64 × pp_M)) (σ : pp_M) (a1 : Int32) (a2 : Int32) (a3 : Int32) (b1 : Int32) (b2 : Int64) : Option (Int64 × pp_M) :=
  if pp_ix b1 101 then
  k46 (ppT σ 62 b1.toNatClampNeg b2) a1 a2 (a3 + (1 : Int32))
  else none
def f_X9_mostGain_46_B (k29 : pp_M → Int32 → Option (Int64 × pp_M)) (k40 : pp_M → Int32 → Int32 → Option (Int64 × pp_M)) (k46 : pp_M → Int32 → Int32 → Int32 → Option (Int64 × pp_M)) (σ : pp_M) (a1 : Int32) (a2 : Int32) (a3 : Int32) : Option (Int64 × pp_M) :=
  if a3 < (5 : Int32) then
    if pp_ix a1 6 then
    if a2 < (a3 * (σ.1 42 a1.toNatClampNeg)) then
      f_X9_mostGain_122 k29 k40 σ a1 a2
    else
      if pp_ix (a2 - (a3 * (σ.1 42 a1.toNatClampNeg))) 101 then
      (f_X9_gainOf σ a1 a3).bind fun x81 =>
      if pp_ix a2 101 then
      if (x81.2.2 62 a2.toNatClampNeg) < ((σ.2 62 (a2 - (a3 * (σ.1 42 a1.toNatClampNeg))).toNatClampNeg) + x81.1) then
        f_X9_mostGain_115 k29 k40 k46 x81.2 a1 a2 a3 a2 ((σ.2 62 (a2 - (a3 * (σ.1 42 a1.toNatClampNeg))).toNatClampNeg) + x81.1)
      else
        f_X9_mostGain_115 k29 k40 k46 x81.2 a1 a2 a3 a2 (x81.2.2 62 a2.toNatClampNeg)
      else none
      else none
    else none
  else
    f_X9_mostGain_122 k29 k40 σ a1 a2
def f_X9_mostGain_46 (k29 : pp_M → Int32 → Option (Int64 × pp_M)) (k40 : pp_M → Int32 → Int32 → Option (Int64 × pp_M)) : Nat → pp_M → Int32 → Int32 → Int32 → Option (Int64 × pp_M)
  | 0 => fun _ _ _ _ => none
  | n + 1 => fun σ a1 a2 a3 => f_X9_mostGain_46_B k29 k40 (f_X9_mostGain_46 k29 k40 n) σ a1 a2 a3
def f_X9_mostGain_40_B (k29 : pp_M → Int32 → Option (Int64 × pp_M)) (k40 : pp_M → Int32 → Int32 → Option (Int64 × pp_M)) (σ : pp_M) (a1 : Int32) (a2 : Int32) : Option (Int64 × pp_M) :=
  if 0 < a2 then
    f_X9_mostGain_46 k29 k40 100000 σ a1 a2 (1 : Int32)
  else
    k29 σ (a1 + (1 : Int32))
def f_X9_mostGain_40 (k29 : pp_M → Int32 → Option (Int64 × pp_M)) : Nat → pp_M → Int32 → Int32 → Option (Int64 × pp_M)
  | 0 => fun _ _ _ => none
  | n + 1 => fun σ a1 a2 => f_X9_mostGain_40_B k29 (f_X9_mostGain_40 k29 n) σ a1 a2
def f_X9_mostGain_29_B (k29 : pp_M → Int32 → Option (Int64 × pp_M)) (σ : pp_M) (a1 : Int32) : Option (Int64 × pp_M) :=
  if a1 < (6 : Int32) then
    f_X9_mostGain_40 k29 100000 σ a1 (σ.1 40 7)
  else
    if pp_ix (σ.1 40 7) 101 then
    (f_X9_sixteen σ ((5 : Int32) - (σ.1 40 22))).bind fun x149 =>
    some (((σ.2 62 (σ.1 40 7).toNatClampNeg) * x149.1), x149.2)
    else none
def f_X9_mostGain_29 : Nat → pp_M → Int32 → Option (Int64 × pp_M)
  | 0 => fun _ _ => none
  | n + 1 => fun σ a1 => f_X9_mostGain_29_B (f_X9_mostGain_29 n) σ a1
def f_X9_mostGain_6_B (k6 : pp_M → Int32 → Option (Int64 × pp_M)) (σ : pp_M) (a1 : Int32) : Option (Int64 × pp_M) :=
  if (σ.1 40 7) < a1 then
    f_X9_mostGain_29 100000 σ (0 : Int32)
  else
    if pp_ix a1 101 then
    k6 (ppT σ 62 a1.toNatClampNeg (0 : Int64)) (a1 + (1 : Int32))
    else none
def f_X9_mostGain_6 : Nat → pp_M → Int32 → Option (Int64 × pp_M)
  | 0 => fun _ _ => none
  | n + 1 => fun σ a1 => f_X9_mostGain_6_B (f_X9_mostGain_6 n) σ a1
def f_X9_mostGain (σ : pp_M)  : Option (Int64 × pp_M) :=
  (f_X9_laysWorth σ).bind fun x1 =>
  f_X9_mostGain_6 100000 x1 (0 : Int32)
/-! X9_goesRound -/
def f_X9_goesRound_168 (k41 : pp_M → Int32 → Option (pp_M)) (k51 : pp_M → Int32 → Int32 → Option (pp_M)) (σ : pp_M) (a1 : Int32) (a2 : Int32) : Option (pp_M) :=
  k51 σ a1 (a2 + (1 : Int32))
def f_X9_goesRound_142_B (k41 : pp_M → Int32 → Option (pp_M)) (k51 : pp_M → Int32 → Int32 → Option (pp_M)) (k142 : pp_M → Int32 → Int32 → Int32 → Option (pp_M)) (σ : pp_M) (a1 : Int32) (a2 : Int32) (a6 : Int32) : Option (pp_M) :=
  if a6 < a1 then
    if pp_ix a6 7 then
    if pp_ix a6 5 then
    k142 (ppS σ 63 a6.toNatClampNeg (σ.1 55 a6.toNatClampNeg)) a1 a2 (a6 + (1 : Int32))
    else none
    else none
  else
    f_X9_goesRound_168 k41 k51 σ a1 a2
def f_X9_goesRound_142 (k41 : pp_M → Int32 → Option (pp_M)) (k51 : pp_M → Int32 → Int32 → Option (pp_M)) : Nat → pp_M → Int32 → Int32 → Int32 → Option (pp_M)
  | 0 => fun _ _ _ _ => none
  | n + 1 => fun σ a1 a2 a6 => f_X9_goesRound_142_B k41 k51 (f_X9_goesRound_142 k41 k51 n) σ a1 a2 a6
def f_X9_goesRound_117 (k41 : pp_M → Int32 → Option (pp_M)) (k51 : pp_M → Int32 → Int32 → Option (pp_M)) (σ : pp_M) (a1 : Int32) (a2 : Int32) (a4 : Int64) (b1 : Int32) (b2 : Int64) : Option (pp_M) :=
  if pp_ix b1 32 then
  if ((ppT σ 64 b1.toNatClampNeg b2).2 40 36) < a4 then
    f_X9_goesRound_142 k41 k51 100000 (ppS (ppT (ppT σ 64 b1.toNatClampNeg b2) 40 36 a4) 40 34 a1) a1 a2 (0 : Int32)
  else
    f_X9_goesRound_168 k41 k51 (ppT σ 64 b1.toNatClampNeg b2) a1 a2
  else none
def f_X9_goesRound_51_B (k41 : pp_M → Int32 → Option (pp_M)) (k51 : pp_M → Int32 → Int32 → Option (pp_M)) (σ : pp_M) (a1 : Int32) (a2 : Int32) : Option (pp_M) :=
  (f_X9_fives σ a1).bind fun x53 =>
  if a2 < x53.1 then
    (f_X9_looksAt x53.2 a1 a2).bind fun x62 =>
    if x62.1 = (-1 : Int32) then
      f_X9_goesRound_168 k41 k51 x62.2 a1 a2
    else
      (f_X9_hoursFrom x62.2 (0 : Int32)).bind fun x73 =>
      if (x73.2.1 40 6) < x73.1 then
        f_X9_goesRound_168 k41 k51 x73.2 a1 a2
      else
        (f_X9_mostGain x73.2).bind fun x84 =>
        if pp_ix x62.1 32 then
        if (x84.2.2 64 x62.1.toNatClampNeg) < x84.1 then
          f_X9_goesRound_117 k41 k51 x84.2 a1 a2 x84.1 x62.1 x84.1
        else
          f_X9_goesRound_117 k41 k51 x84.2 a1 a2 x84.1 x62.1 (x84.2.2 64 x62.1.toNatClampNeg)
        else none
  else
    k41 x53.2 (a1 + (1 : Int32))
def f_X9_goesRound_51 (k41 : pp_M → Int32 → Option (pp_M)) : Nat → pp_M → Int32 → Int32 → Option (pp_M)
  | 0 => fun _ _ _ => none
  | n + 1 => fun σ a1 a2 => f_X9_goesRound_51_B k41 (f_X9_goesRound_51 k41 n) σ a1 a2
def f_X9_goesRound_41_B (k41 : pp_M → Int32 → Option (pp_M)) (σ : pp_M) (a1 : Int32) : Option (pp_M) :=
  if (σ.1 40 32) < a1 then
    some σ
  else
    f_X9_goesRound_51 k41 100000 σ a1 (0 : Int32)
def f_X9_goesRound_41 : Nat → pp_M → Int32 → Option (pp_M)
  | 0 => fun _ _ => none
  | n + 1 => fun σ a1 => f_X9_goesRound_41_B (f_X9_goesRound_41 n) σ a1
def f_X9_goesRound_18_B (k18 : pp_M → Int32 → Option (pp_M)) (σ : pp_M) (a1 : Int32) : Option (pp_M) :=
  if a1 < (32 : Int32) then
    if pp_ix a1 32 then
    k18 (ppT σ 64 a1.toNatClampNeg (-1000000000000000000 : Int64)) (a1 + (1 : Int32))
    else none
  else
    f_X9_goesRound_41 100000 σ (0 : Int32)
def f_X9_goesRound_18 : Nat → pp_M → Int32 → Option (pp_M)
  | 0 => fun _ _ => none
  | n + 1 => fun σ a1 => f_X9_goesRound_18_B (f_X9_goesRound_18 n) σ a1
def f_X9_goesRound (σ : pp_M)  : Option (pp_M) :=
  (f_X9_laysWays σ).bind fun x1 =>
  f_X9_goesRound_18 100000 (ppT (ppS x1 40 34 (0 : Int32)) 40 36 (-1000000000000000000 : Int64)) (0 : Int32)
/-! X9_parted -/
def f_X9_parted_115 (k13 : pp_M → Int32 → Option (pp_M)) (k25 : pp_M → Int32 → Int32 → Option (pp_M)) (σ : pp_M) (a1 : Int32) (a2 : Int32) : Option (pp_M) :=
  k25 σ a1 (a2 + (1 : Int32))
def f_X9_parted_25_B (k13 : pp_M → Int32 → Option (pp_M)) (k25 : pp_M → Int32 → Int32 → Option (pp_M)) (σ : pp_M) (a1 : Int32) (a2 : Int32) : Option (pp_M) :=
  if a2 < ((1 : Int32) <<< ((σ.1 40 32) &&& 31)) then
    if (a1 &&& a2) = 0 then
      if pp_ix a1 32 then
      if (σ.2 64 a1.toNatClampNeg) = (-1000000000000000000 : Int64) then
        f_X9_parted_115 k13 k25 σ a1 a2
      else
        if pp_ix a2 32 then
        if (σ.2 64 a2.toNatClampNeg) = (-1000000000000000000 : Int64) then
          f_X9_parted_115 k13 k25 σ a1 a2
        else
          if (σ.2 40 40) < ((σ.2 64 a1.toNatClampNeg) + (σ.2 64 a2.toNatClampNeg)) then
            f_X9_parted_115 k13 k25 (ppS (ppS (ppT σ 40 40 ((σ.2 64 a1.toNatClampNeg) + (σ.2 64 a2.toNatClampNeg))) 40 38 a1) 40 39 a2) a1 a2
          else
            f_X9_parted_115 k13 k25 σ a1 a2
        else none
      else none
    else
      f_X9_parted_115 k13 k25 σ a1 a2
  else
    k13 σ (a1 + (1 : Int32))
def f_X9_parted_25 (k13 : pp_M → Int32 → Option (pp_M)) : Nat → pp_M → Int32 → Int32 → Option (pp_M)
  | 0 => fun _ _ _ => none
  | n + 1 => fun σ a1 a2 => f_X9_parted_25_B k13 (f_X9_parted_25 k13 n) σ a1 a2
def f_X9_parted_13_B (k13 : pp_M → Int32 → Option (pp_M)) (σ : pp_M) (a1 : Int32) : Option (pp_M) :=
  if a1 < ((1 : Int32) <<< ((σ.1 40 32) &&& 31)) then
    f_X9_parted_25 k13 100000 σ a1 (0 : Int32)
  else
    some σ
def f_X9_parted_13 : Nat → pp_M → Int32 → Option (pp_M)
  | 0 => fun _ _ => none
  | n + 1 => fun σ a1 => f_X9_parted_13_B (f_X9_parted_13 n) σ a1
def f_X9_parted (σ : pp_M)  : Option (pp_M) :=
  (f_X9_goesRound σ).bind fun x1 =>
  f_X9_parted_13 100000 (ppT x1 40 40 (-1000000000000000000 : Int64)) (0 : Int32)
/-! X9_both -/
def f_X9_both (σ : pp_M) (a1 : Int32) : Option (Int64 × pp_M) :=
  (f_X9_in σ a1 (0 : Int32) (1 : Int32)).bind fun x3 =>
  if x3.1 = 0 then
    (f_X9_no x3.2 (-2 : Int32)).bind fun x11 =>
    some (x11.1, x11.2)
  else
    (f_X9_gathers x3.2).bind fun x16 =>
    if x16.1 = 0 then
      (f_X9_no x16.2 (-4 : Int32)).bind fun x24 =>
      some (x24.1, x24.2)
    else
      (f_X9_parted x16.2).bind fun x29 =>
      (f_X9_sixteen x29 (5 : Int32)).bind fun x37 =>
      (f_X9_lowest x37.2 (x29.2 40 40) x37.1 a1).bind fun x41 =>
      some (x41.1, x41.2)
/-! X9_boundNow -/
def f_X9_boundNow_135 (σ : pp_M) (a1 : Int32) (a4 : Int64) : Option (Int64 × pp_M) :=
  (f_X9_sixteen σ (σ.1 40 22)).bind fun x141 =>
  (f_X9_lowest x141.2 a4 x141.1 a1).bind fun x145 =>
  some (x145.1, x145.2)
def f_X9_boundNow_119 (k14 : pp_M → Int32 → Int32 → Int32 → Int64 → Option (Int64 × pp_M)) (k23 : pp_M → Int32 → Int32 → Int32 → Int64 → Int32 → Int64 → Int32 → Option (Int64 × pp_M)) (σ : pp_M) (a1 : Int32) (a2 : Int32) (a3 : Int32) (a4 : Int64) (a6 : Int32) (a7 : Int64) (a9 : Int32) : Option (Int64 × pp_M) :=
  k23 σ a1 a2 a3 a4 a6 a7 (a9 + (1 : Int32))
def f_X9_boundNow_111 (k14 : pp_M → Int32 → Int32 → Int32 → Int64 → Option (Int64 × pp_M)) (k23 : pp_M → Int32 → Int32 → Int32 → Int64 → Int32 → Int64 → Int32 → Option (Int64 × pp_M)) (σ : pp_M) (a1 : Int32) (a2 : Int32) (a3 : Int32) (a4 : Int64) (a9 : Int32) (a11 : Int64) : Option (Int64 × pp_M) :=
  f_X9_boundNow_119 k14 k23 σ a1 a2 a3 a4 a9 a11 a9
def f_X9_boundNow_23_B (k14 : pp_M → Int32 → Int32 → Int32 → Int64 → Option (Int64 × pp_M)) (k23 : pp_M → Int32 → Int32 → Int32 → Int64 → Int32 → Int64 → Int32 → Option (Int64 × pp_M)) (σ : pp_M) (a1 : Int32) (a2 : Int32) (a3 : Int32) (a4 : Int64) (a6 : Int32) (a7 : Int64) (a9 : Int32) : Option (Int64 × pp_M) :=
  if a9 < (24 : Int32) then
    (f_X9_gainOf σ (a9 / (4 : Int32)) ((a9 - a9 / (4 : Int32) * (4 : Int32)) + (1 : Int32))).bind fun x45 =>
    (f_X9_gainOf x45.2 (a9 / (4 : Int32)) (a9 - a9 / (4 : Int32) * (4 : Int32))).bind fun x55 =>
    if ((a2 >>> (a9 &&& 31)) &&& (1 : Int32)) = 0 then
      if (0 : Int64) < (x45.1 - x55.1) then
        if a6 = (-1 : Int32) then
          f_X9_boundNow_111 k14 k23 x55.2 a1 a2 a3 a4 a9 (x45.1 - x55.1)
        else
          if pp_ix (a6 / (4 : Int32)) 6 then
          if pp_ix (a9 / (4 : Int32)) 6 then
          if (a7 * (((x55.2.1 42 (a9 / (4 : Int32)).toNatClampNeg)).toInt64)) < ((x45.1 - x55.1) * (((x55.2.1 42 (a6 / (4 : Int32)).toNatClampNeg)).toInt64)) then
            f_X9_boundNow_111 k14 k23 x55.2 a1 a2 a3 a4 a9 (x45.1 - x55.1)
          else
            f_X9_boundNow_119 k14 k23 x55.2 a1 a2 a3 a4 a6 a7 a9
          else none
          else none
      else
        f_X9_boundNow_119 k14 k23 x55.2 a1 a2 a3 a4 a6 a7 a9
    else
      f_X9_boundNow_119 k14 k23 x55.2 a1 a2 a3 a4 a6 a7 a9
  else
    if a6 = (-1 : Int32) then
      f_X9_boundNow_135 σ a1 a4
    else
      if a3 = 0 then
        f_X9_boundNow_135 σ a1 a4
      else
        if pp_ix (a6 / (4 : Int32)) 6 then
        if a3 < (σ.1 42 (a6 / (4 : Int32)).toNatClampNeg) then
          (f_X9_sixteen σ (σ.1 40 22)).bind fun x182 =>
          (f_X9_lowest x182.2 ((a4 * (((σ.1 42 (a6 / (4 : Int32)).toNatClampNeg)).toInt64)) + (a7 * (a3.toInt64))) (x182.1 * (((σ.1 42 (a6 / (4 : Int32)).toNatClampNeg)).toInt64)) a1).bind fun x190 =>
          some (x190.1, x190.2)
        else
          k14 σ a1 (a2 ||| ((1 : Int32) <<< (a6 &&& 31))) (a3 - (σ.1 42 (a6 / (4 : Int32)).toNatClampNeg)) (a4 + a7)
        else none
def f_X9_boundNow_23 (k14 : pp_M → Int32 → Int32 → Int32 → Int64 → Option (Int64 × pp_M)) : Nat → pp_M → Int32 → Int32 → Int32 → Int64 → Int32 → Int64 → Int32 → Option (Int64 × pp_M)
  | 0 => fun _ _ _ _ _ _ _ _ => none
  | n + 1 => fun σ a1 a2 a3 a4 a6 a7 a9 => f_X9_boundNow_23_B k14 (f_X9_boundNow_23 k14 n) σ a1 a2 a3 a4 a6 a7 a9
def f_X9_boundNow_14_B (k14 : pp_M → Int32 → Int32 → Int32 → Int64 → Option (Int64 × pp_M)) (σ : pp_M) (a1 : Int32) (a2 : Int32) (a3 : Int32) (a4 : Int64) : Option (Int64 × pp_M) :=
  f_X9_boundNow_23 k14 100000 σ a1 a2 a3 a4 (-1 : Int32) (0 : Int64) (0 : Int32)
def f_X9_boundNow_14 : Nat → pp_M → Int32 → Int32 → Int32 → Int64 → Option (Int64 × pp_M)
  | 0 => fun _ _ _ _ _ => none
  | n + 1 => fun σ a1 a2 a3 a4 => f_X9_boundNow_14_B (f_X9_boundNow_14 n) σ a1 a2 a3 a4
def f_X9_boundNow (σ : pp_M) (a1 : Int32) : Option (Int64 × pp_M) :=
  (f_X9_looksAtRow σ).bind fun x1 =>
  f_X9_boundNow_14 100000 x1 a1 (0 : Int32) (x1.1 40 7) (0 : Int64)
/-! X9_bringsNow -/
def f_X9_bringsNow (σ : pp_M) (a1 : Int32) : Option (Int64 × pp_M) :=
  (f_X9_packs σ (-1 : Int32)).bind fun x2 =>
  (f_X9_packs x2 a1).bind fun x12 =>
  some (((x2.2 40 28) - (x12.2 40 28)), x12)
/-! X9_brings -/
def f_X9_brings_16 (σ : pp_M)  : Option (Int64 × pp_M) :=
  (f_X9_no σ (-2 : Int32)).bind fun x18 =>
  some (x18.1, x18.2)
def f_X9_brings (σ : pp_M) (a1 : Int32) (a2 : Int32) : Option (Int64 × pp_M) :=
  (f_X9_isThing σ a1).bind fun x1 =>
  if x1.1 = 0 then
    f_X9_brings_16 x1.2
  else
    (f_X9_in x1.2 a2 (0 : Int32) (1 : Int32)).bind fun x10 =>
    if x10.1 = 0 then
      f_X9_brings_16 x10.2
    else
      (f_X9_looksAtRow x10.2).bind fun x23 =>
      (f_X9_bringsNow x23 a1).bind fun x28 =>
      (f_X9_sixteen x28.2 (x28.2.1 40 19)).bind fun x35 =>
      (f_X9_lowest x35.2 x28.1 x35.1 a2).bind fun x39 =>
      some (x39.1, x39.2)
/-! X9_byteNow -/
def f_X9_byteNow (σ : pp_M)  : Option (Int32 × pp_M) :=
  if (σ.1 40 13) < (σ.1 40 11) then
    if pp_ix (σ.1 40 13) 40 then
    some ((σ.1 49 (σ.1 40 13).toNatClampNeg), σ)
    else none
  else
    some ((-1 : Int32), σ)
/-! X9_isFarm -/
def f_X9_isFarm (σ : pp_M) (a0 : Int32) : Option (Int32 × pp_M) :=
  (f_X9_in σ a0 (1 : Int32) (7 : Int32)).bind fun x4 =>
  if pp_b x4.1 then
  some (x4.1, x4.2)
  else none
/-! X9_chance -/
def f_X9_chance (σ : pp_M) (a1 : Int32) (a2 : Int32) (a3 : Int32) : Option (Int32 × pp_M) :=
  (f_X9_isFarm σ a1).bind fun x1 =>
  if x1.1 = 0 then
    some ((-2 : Int32), x1.2)
  else
    (f_X9_isThing x1.2 a2).bind fun x8 =>
    if x8.1 = 0 then
      some ((-2 : Int32), x8.2)
    else
      (f_X9_in x8.2 a3 (0 : Int32) (2 : Int32)).bind fun x17 =>
      if x17.1 = 0 then
        some ((-2 : Int32), x17.2)
      else
        (f_X9_chanceNow x17.2 a1 a2 a3).bind fun x27 =>
        some (x27.1, x27.2)
/-! X9_isSheet -/
def f_X9_isSheet (σ : pp_M) (a0 : Int32) : Option (Int32 × pp_M) :=
  (f_X9_in σ a0 (0 : Int32) (3 : Int32)).bind fun x3 =>
  if pp_b x3.1 then
  some (x3.1, x3.2)
  else none
/-! X9_meets -/
def f_X9_meets (σ : pp_M) (a1 : Int32) : Option (Int32 × pp_M) :=
  some (((-10 : Int32) - a1), ppS σ 40 47 a1)
/-! X9_copy -/
def f_X9_copy_157_B (k157 : pp_M → Int32 → Int32 → Int32 → Int32 → Option (Int32 × pp_M)) (σ : pp_M) (a3 : Int32) (a4 : Int32) (a5 : Int32) (a6 : Int32) : Option (Int32 × pp_M) :=
  if a6 < a5 then
    if pp_ix a6 40 then
    if pp_ix ((((40 : Int32) * a3) + a4) + a6) 160 then
    k157 (ppS σ 69 ((((40 : Int32) * a3) + a4) + a6).toNatClampNeg (σ.1 70 a6.toNatClampNeg)) a3 a4 a5 (a6 + (1 : Int32))
    else none
    else none
  else
    some ((1 : Int32), σ)
def f_X9_copy_157 : Nat → pp_M → Int32 → Int32 → Int32 → Int32 → Option (Int32 × pp_M)
  | 0 => fun _ _ _ _ _ => none
  | n + 1 => fun σ a3 a4 a5 a6 => f_X9_copy_157_B (f_X9_copy_157 n) σ a3 a4 a5 a6
def f_X9_copy_120_B (k120 : pp_M → Int32 → Int32 → Int32 → Int32 → Int32 → Int32 → Option (Int32 × pp_M)) (σ : pp_M) (a1 : Int32) (a2 : Int32) (a3 : Int32) (a4 : Int32) (a5 : Int32) (a6 : Int32) : Option (Int32 × pp_M) :=
  if a6 < a5 then
    if pp_ix ((((40 : Int32) * a1) + a2) + a6) 160 then
    if pp_ix a6 40 then
    k120 (ppS σ 70 a6.toNatClampNeg (σ.1 69 ((((40 : Int32) * a1) + a2) + a6).toNatClampNeg)) a1 a2 a3 a4 a5 (a6 + (1 : Int32))
    else none
    else none
  else
    f_X9_copy_157 100000 σ a3 a4 a5 (0 : Int32)
def f_X9_copy_120 : Nat → pp_M → Int32 → Int32 → Int32 → Int32 → Int32 → Int32 → Option (Int32 × pp_M)
  | 0 => fun _ _ _ _ _ _ _ => none
  | n + 1 => fun σ a1 a2 a3 a4 a5 a6 => f_X9_copy_120_B (f_X9_copy_120 n) σ a1 a2 a3 a4 a5 a6
def f_X9_copy_111 (σ : pp_M)  : Option (Int32 × pp_M) :=
  (f_X9_meets σ (2 : Int32)).bind fun x113 =>
  some (x113.1, x113.2)
def f_X9_copy_35 (σ : pp_M)  : Option (Int32 × pp_M) :=
  (f_X9_meets σ (1 : Int32)).bind fun x37 =>
  some (x37.1, x37.2)
def f_X9_copy (σ : pp_M) (a1 : Int32) (a2 : Int32) (a3 : Int32) (a4 : Int32) (a5 : Int32) : Option (Int32 × pp_M) :=
  (f_X9_isSheet σ a1).bind fun x1 =>
  if x1.1 = 0 then
    some ((-2 : Int32), x1.2)
  else
    (f_X9_isSheet x1.2 a3).bind fun x8 =>
    if x8.1 = 0 then
      some ((-2 : Int32), x8.2)
    else
      if pp_ix a1 4 then
      if (x8.2.1 66 a1.toNatClampNeg) = 0 then
        f_X9_copy_35 x8.2
      else
        if pp_ix a3 4 then
        if (x8.2.1 66 a3.toNatClampNeg) = 0 then
          f_X9_copy_35 x8.2
        else
          if (x8.2.1 67 a1.toNatClampNeg) = (x8.2.1 67 a3.toNatClampNeg) then
            if a2 < 0 then
              f_X9_copy_111 x8.2
            else
              if a4 < 0 then
                f_X9_copy_111 x8.2
              else
                if a5 < 0 then
                  f_X9_copy_111 x8.2
                else
                  if (((x8.2.1 68 a1.toNatClampNeg)).toInt64) < ((a2.toInt64) + (a5.toInt64)) then
                    f_X9_copy_111 x8.2
                  else
                    if (((x8.2.1 68 a3.toNatClampNeg)).toInt64) < ((a4.toInt64) + (a5.toInt64)) then
                      f_X9_copy_111 x8.2
                    else
                      f_X9_copy_120 100000 x8.2 a1 a2 a3 a4 a5 (0 : Int32)
          else
            (f_X9_meets x8.2 (4 : Int32)).bind fun x58 =>
            some (x58.1, x58.2)
        else none
      else none
/-! X9_countNow -/
def f_X9_countNow_92 (k54 : pp_M → Int32 → Int32 → Option (Int32 × pp_M)) (k63 : pp_M → Int32 → Int32 → Int32 → Option (Int32 × pp_M)) (σ : pp_M) (a3 : Int32) (a4 : Int32) (b0 : Int32) (b1 : Int32) : Option (Int32 × pp_M) :=
  k63 σ (b0 + b1) a3 (a4 + (1 : Int32))
def f_X9_countNow_63_B (k54 : pp_M → Int32 → Int32 → Option (Int32 × pp_M)) (k63 : pp_M → Int32 → Int32 → Int32 → Option (Int32 × pp_M)) (σ : pp_M) (a2 : Int32) (a3 : Int32) (a4 : Int32) : Option (Int32 × pp_M) :=
  if a4 < (18 : Int32) then
    (f_X9_chanceNow σ a3 (a4 / (3 : Int32)) (a4 - a4 / (3 : Int32) * (3 : Int32))).bind fun x81 =>
    if 0 < x81.1 then
      f_X9_countNow_92 k54 k63 x81.2 a3 a4 a2 (1 : Int32)
    else
      f_X9_countNow_92 k54 k63 x81.2 a3 a4 a2 (0 : Int32)
  else
    k54 σ a2 (a3 + (1 : Int32))
def f_X9_countNow_63 (k54 : pp_M → Int32 → Int32 → Option (Int32 × pp_M)) : Nat → pp_M → Int32 → Int32 → Int32 → Option (Int32 × pp_M)
  | 0 => fun _ _ _ _ => none
  | n + 1 => fun σ a2 a3 a4 => f_X9_countNow_63_B k54 (f_X9_countNow_63 k54 n) σ a2 a3 a4
def f_X9_countNow_54_B (k54 : pp_M → Int32 → Int32 → Option (Int32 × pp_M)) (σ : pp_M) (a2 : Int32) (a3 : Int32) : Option (Int32 × pp_M) :=
  if (7 : Int32) < a3 then
    some (a2, σ)
  else
    f_X9_countNow_63 k54 100000 σ a2 a3 (0 : Int32)
def f_X9_countNow_54 : Nat → pp_M → Int32 → Int32 → Option (Int32 × pp_M)
  | 0 => fun _ _ _ => none
  | n + 1 => fun σ a2 a3 => f_X9_countNow_54_B (f_X9_countNow_54 n) σ a2 a3
def f_X9_countNow_41 (k9 : pp_M → Int32 → Int32 → Option (Int32 × pp_M)) (σ : pp_M) (a3 : Int32) (b0 : Int32) (b1 : Int32) : Option (Int32 × pp_M) :=
  k9 σ (b0 + b1) (a3 + (1 : Int32))
def f_X9_countNow_40 (k9 : pp_M → Int32 → Int32 → Option (Int32 × pp_M)) (σ : pp_M) (a3 : Int32) (b0 : Int32) : Option (Int32 × pp_M) :=
  f_X9_countNow_41 k9 σ a3 b0 (0 : Int32)
def f_X9_countNow_9_B (k9 : pp_M → Int32 → Int32 → Option (Int32 × pp_M)) (σ : pp_M) (a2 : Int32) (a3 : Int32) : Option (Int32 × pp_M) :=
  if a3 < (64 : Int32) then
    if (a3 / (8 : Int32)) < (a3 - a3 / (8 : Int32) * (8 : Int32)) then
      if pp_ix a3 64 then
      if 0 < (σ.1 45 a3.toNatClampNeg) then
        f_X9_countNow_41 k9 σ a3 a2 (1 : Int32)
      else
        f_X9_countNow_40 k9 σ a3 a2
      else none
    else
      f_X9_countNow_40 k9 σ a3 a2
  else
    some (a2, σ)
def f_X9_countNow_9 : Nat → pp_M → Int32 → Int32 → Option (Int32 × pp_M)
  | 0 => fun _ _ _ => none
  | n + 1 => fun σ a2 a3 => f_X9_countNow_9_B (f_X9_countNow_9 n) σ a2 a3
def f_X9_countNow (σ : pp_M) (a1 : Int32) : Option (Int32 × pp_M) :=
  if a1 = (2 : Int32) then
    f_X9_countNow_9 100000 σ (0 : Int32) (0 : Int32)
  else
    f_X9_countNow_54 100000 σ (0 : Int32) (1 : Int32)
/-! X9_packWeight -/
def f_X9_packWeight_4_B (k4 : pp_M → Int32 → Int32 → Option (Int32 × pp_M)) (σ : pp_M) (a1 : Int32) (a2 : Int32) : Option (Int32 × pp_M) :=
  if a2 < (6 : Int32) then
    if pp_ix a2 6 then
    k4 σ (a1 + ((σ.1 54 a2.toNatClampNeg) * (σ.1 42 a2.toNatClampNeg))) (a2 + (1 : Int32))
    else none
  else
    some (a1, σ)
def f_X9_packWeight_4 : Nat → pp_M → Int32 → Int32 → Option (Int32 × pp_M)
  | 0 => fun _ _ _ => none
  | n + 1 => fun σ a1 a2 => f_X9_packWeight_4_B (f_X9_packWeight_4 n) σ a1 a2
def f_X9_packWeight (σ : pp_M)  : Option (Int32 × pp_M) :=
  f_X9_packWeight_4 100000 σ (0 : Int32) (0 : Int32)
/-! X9_count -/
def f_X9_count (σ : pp_M) (a1 : Int32) : Option (Int32 × pp_M) :=
  if a1 = 0 then
    some ((σ.1 40 19), σ)
  else
  if a1 = 1 then
    (f_X9_packWeight σ).bind fun x58 =>
    some (x58.1, x58.2)
  else
  if a1 = 2 then
    (f_X9_countNow σ a1).bind fun x64 =>
    some (x64.1, x64.2)
  else
  if a1 = 3 then
    (f_X9_countNow σ a1).bind fun x64 =>
    some (x64.1, x64.2)
  else
  if a1 = 4 then
    some ((σ.1 40 11), σ)
  else
  if a1 = 5 then
    some ((σ.1 40 6), σ)
  else
  if a1 = 6 then
    some ((σ.1 40 7), σ)
  else
  if a1 = 7 then
    some ((σ.1 40 8), σ)
  else
  if a1 = 8 then
    some ((σ.1 40 47), σ)
  else
    some ((-2 : Int32), σ)
/-! X9_expects -/
def f_X9_expects (σ : pp_M) (a1 : Int32) : Option (pp_M) :=
  if (σ.1 40 14) = (-1 : Int32) then
    (f_X9_byteNow σ).bind fun x9 =>
    if x9.1 = a1 then
      some (ppS x9.2 40 13 ((x9.2.1 40 13) + (1 : Int32)))
    else
      some (ppS (ppS x9.2 40 14 (x9.2.1 40 13)) 40 13 (((ppS x9.2 40 14 (x9.2.1 40 13)).1 40 13) + (1 : Int32)))
  else
    some (ppS σ 40 13 ((σ.1 40 13) + (1 : Int32)))
/-! X9_number -/
def f_X9_number_74 (σ : pp_M) (a2 : Int32) (a3 : Int32) (a4 : Int32) (a5 : Int32) : Option (Int32 × pp_M) :=
  if (σ.1 40 14) = (-1 : Int32) then
    if (σ.1 40 13) = a4 then
      some (a5, ppS σ 40 14 a4)
    else
      (f_X9_in σ a5 a2 a3).bind fun x95 =>
      if x95.1 = 0 then
        some (a5, ppS x95.2 40 14 a4)
      else
        some (a5, x95.2)
  else
    some (a5, σ)
def f_X9_number_9_B (k9 : pp_M → Int32 → Int32 → Int32 → Int32 → Int32 → Option (Int32 × pp_M)) (σ : pp_M) (a1 : Int32) (a2 : Int32) (a3 : Int32) (a4 : Int32) (a5 : Int32) : Option (Int32 × pp_M) :=
  if (σ.1 40 14) = (-1 : Int32) then
    if (σ.1 40 13) < (a4 + a1) then
      (f_X9_byteNow σ).bind fun x29 =>
      if x29.1 < (48 : Int32) then
        f_X9_number_74 x29.2 a2 a3 a4 a5
      else
        (f_X9_byteNow x29.2).bind fun x38 =>
        if (57 : Int32) < x38.1 then
          f_X9_number_74 x38.2 a2 a3 a4 a5
        else
          (f_X9_byteNow x38.2).bind fun x52 =>
          k9 (ppS x52.2 40 13 ((x52.2.1 40 13) + (1 : Int32))) a1 a2 a3 a4 ((((10 : Int32) * a5) + x52.1) - (48 : Int32))
    else
      f_X9_number_74 σ a2 a3 a4 a5
  else
    f_X9_number_74 σ a2 a3 a4 a5
def f_X9_number_9 : Nat → pp_M → Int32 → Int32 → Int32 → Int32 → Int32 → Option (Int32 × pp_M)
  | 0 => fun _ _ _ _ _ _ => none
  | n + 1 => fun σ a1 a2 a3 a4 a5 => f_X9_number_9_B (f_X9_number_9 n) σ a1 a2 a3 a4 a5
def f_X9_number (σ : pp_M) (a1 : Int32) (a2 : Int32) (a3 : Int32) : Option (Int32 × pp_M) :=
  f_X9_number_9 100000 σ a1 a2 a3 (σ.1 40 13) (0 : Int32)
/-! X9_part -/
def f_X9_part (σ : pp_M)  : Option (pp_M) :=
  (f_X9_number σ (1 : Int32) (1 : Int32) (7 : Int32)).bind fun x5 =>
  (f_X9_expects x5.2 (58 : Int32)).bind fun x12 =>
  (f_X9_number x12 (1 : Int32) (0 : Int32) (5 : Int32)).bind fun x19 =>
  (f_X9_expects x19.2 (61 : Int32)).bind fun x26 =>
  (f_X9_number x26 (2 : Int32) (0 : Int32) (16 : Int32)).bind fun x34 =>
  (f_X9_expects x34.2 (44 : Int32)).bind fun x41 =>
  (f_X9_number x41 (2 : Int32) (0 : Int32) x34.1).bind fun x48 =>
  (f_X9_expects x48.2 (44 : Int32)).bind fun x56 =>
  (f_X9_number x56 (2 : Int32) (0 : Int32) x48.1).bind fun x64 =>
  if (x64.2.1 40 14) = (-1 : Int32) then
    if pp_ix (x64.2.1 40 15) 10 then
    if pp_ix ((ppS x64.2 50 (x64.2.1 40 15).toNatClampNeg x5.1).1 40 15) 10 then
    if pp_ix ((3 : Int32) * ((ppS (ppS x64.2 50 (x64.2.1 40 15).toNatClampNeg x5.1) 51 ((ppS x64.2 50 (x64.2.1 40 15).toNatClampNeg x5.1).1 40 15).toNatClampNeg x19.1).1 40 15)) 30 then
    if pp_ix (((3 : Int32) * ((ppS (ppS (ppS x64.2 50 (x64.2.1 40 15).toNatClampNeg x5.1) 51 ((ppS x64.2 50 (x64.2.1 40 15).toNatClampNeg x5.1).1 40 15).toNatClampNeg x19.1) 52 ((3 : Int32) * ((ppS (ppS x64.2 50 (x64.2.1 40 15).toNatClampNeg x5.1) 51 ((ppS x64.2 50 (x64.2.1 40 15).toNatClampNeg x5.1).1 40 15).toNatClampNeg x19.1).1 40 15)).toNatClampNeg x34.1).1 40 15)) + (1 : Int32)) 30 then
    if pp_ix (((3 : Int32) * ((ppS (ppS (ppS (ppS x64.2 50 (x64.2.1 40 15).toNatClampNeg x5.1) 51 ((ppS x64.2 50 (x64.2.1 40 15).toNatClampNeg x5.1).1 40 15).toNatClampNeg x19.1) 52 ((3 : Int32) * ((ppS (ppS x64.2 50 (x64.2.1 40 15).toNatClampNeg x5.1) 51 ((ppS x64.2 50 (x64.2.1 40 15).toNatClampNeg x5.1).1 40 15).toNatClampNeg x19.1).1 40 15)).toNatClampNeg x34.1) 52 (((3 : Int32) * ((ppS (ppS (ppS x64.2 50 (x64.2.1 40 15).toNatClampNeg x5.1) 51 ((ppS x64.2 50 (x64.2.1 40 15).toNatClampNeg x5.1).1 40 15).toNatClampNeg x19.1) 52 ((3 : Int32) * ((ppS (ppS x64.2 50 (x64.2.1 40 15).toNatClampNeg x5.1) 51 ((ppS x64.2 50 (x64.2.1 40 15).toNatClampNeg x5.1).1 40 15).toNatClampNeg x19.1).1 40 15)).toNatClampNeg x34.1).1 40 15)) + (1 : Int32)).toNatClampNeg x48.1).1 40 15)) + (2 : Int32)) 30 then
    some (ppS (ppS (ppS (ppS (ppS (ppS x64.2 50 (x64.2.1 40 15).toNatClampNeg x5.1) 51 ((ppS x64.2 50 (x64.2.1 40 15).toNatClampNeg x5.1).1 40 15).toNatClampNeg x19.1) 52 ((3 : Int32) * ((ppS (ppS x64.2 50 (x64.2.1 40 15).toNatClampNeg x5.1) 51 ((ppS x64.2 50 (x64.2.1 40 15).toNatClampNeg x5.1).1 40 15).toNatClampNeg x19.1).1 40 15)).toNatClampNeg x34.1) 52 (((3 : Int32) * ((ppS (ppS (ppS x64.2 50 (x64.2.1 40 15).toNatClampNeg x5.1) 51 ((ppS x64.2 50 (x64.2.1 40 15).toNatClampNeg x5.1).1 40 15).toNatClampNeg x19.1) 52 ((3 : Int32) * ((ppS (ppS x64.2 50 (x64.2.1 40 15).toNatClampNeg x5.1) 51 ((ppS x64.2 50 (x64.2.1 40 15).toNatClampNeg x5.1).1 40 15).toNatClampNeg x19.1).1 40 15)).toNatClampNeg x34.1).1 40 15)) + (1 : Int32)).toNatClampNeg x48.1) 52 (((3 : Int32) * ((ppS (ppS (ppS (ppS x64.2 50 (x64.2.1 40 15).toNatClampNeg x5.1) 51 ((ppS x64.2 50 (x64.2.1 40 15).toNatClampNeg x5.1).1 40 15).toNatClampNeg x19.1) 52 ((3 : Int32) * ((ppS (ppS x64.2 50 (x64.2.1 40 15).toNatClampNeg x5.1) 51 ((ppS x64.2 50 (x64.2.1 40 15).toNatClampNeg x5.1).1 40 15).toNatClampNeg x19.1).1 40 15)).toNatClampNeg x34.1) 52 (((3 : Int32) * ((ppS (ppS (ppS x64.2 50 (x64.2.1 40 15).toNatClampNeg x5.1) 51 ((ppS x64.2 50 (x64.2.1 40 15).toNatClampNeg x5.1).1 40 15).toNatClampNeg x19.1) 52 ((3 : Int32) * ((ppS (ppS x64.2 50 (x64.2.1 40 15).toNatClampNeg x5.1) 51 ((ppS x64.2 50 (x64.2.1 40 15).toNatClampNeg x5.1).1 40 15).toNatClampNeg x19.1).1 40 15)).toNatClampNeg x34.1).1 40 15)) + (1 : Int32)).toNatClampNeg x48.1).1 40 15)) + (2 : Int32)).toNatClampNeg x64.1) 40 15 (((ppS (ppS (ppS (ppS (ppS x64.2 50 (x64.2.1 40 15).toNatClampNeg x5.1) 51 ((ppS x64.2 50 (x64.2.1 40 15).toNatClampNeg x5.1).1 40 15).toNatClampNeg x19.1) 52 ((3 : Int32) * ((ppS (ppS x64.2 50 (x64.2.1 40 15).toNatClampNeg x5.1) 51 ((ppS x64.2 50 (x64.2.1 40 15).toNatClampNeg x5.1).1 40 15).toNatClampNeg x19.1).1 40 15)).toNatClampNeg x34.1) 52 (((3 : Int32) * ((ppS (ppS (ppS x64.2 50 (x64.2.1 40 15).toNatClampNeg x5.1) 51 ((ppS x64.2 50 (x64.2.1 40 15).toNatClampNeg x5.1).1 40 15).toNatClampNeg x19.1) 52 ((3 : Int32) * ((ppS (ppS x64.2 50 (x64.2.1 40 15).toNatClampNeg x5.1) 51 ((ppS x64.2 50 (x64.2.1 40 15).toNatClampNeg x5.1).1 40 15).toNatClampNeg x19.1).1 40 15)).toNatClampNeg x34.1).1 40 15)) + (1 : Int32)).toNatClampNeg x48.1) 52 (((3 : Int32) * ((ppS (ppS (ppS (ppS x64.2 50 (x64.2.1 40 15).toNatClampNeg x5.1) 51 ((ppS x64.2 50 (x64.2.1 40 15).toNatClampNeg x5.1).1 40 15).toNatClampNeg x19.1) 52 ((3 : Int32) * ((ppS (ppS x64.2 50 (x64.2.1 40 15).toNatClampNeg x5.1) 51 ((ppS x64.2 50 (x64.2.1 40 15).toNatClampNeg x5.1).1 40 15).toNatClampNeg x19.1).1 40 15)).toNatClampNeg x34.1) 52 (((3 : Int32) * ((ppS (ppS (ppS x64.2 50 (x64.2.1 40 15).toNatClampNeg x5.1) 51 ((ppS x64.2 50 (x64.2.1 40 15).toNatClampNeg x5.1).1 40 15).toNatClampNeg x19.1) 52 ((3 : Int32) * ((ppS (ppS x64.2 50 (x64.2.1 40 15).toNatClampNeg x5.1) 51 ((ppS x64.2 50 (x64.2.1 40 15).toNatClampNeg x5.1).1 40 15).toNatClampNeg x19.1).1 40 15)).toNatClampNeg x34.1).1 40 15)) + (1 : Int32)).toNatClampNeg x48.1).1 40 15)) + (2 : Int32)).toNatClampNeg x64.1).1 40 15) + (1 : Int32)))
    else none
    else none
    else none
    else none
    else none
  else
    some x64.2
/-! X9_faultNow -/
def f_X9_faultNow_19_B (k19 : pp_M → Option (Int32 × pp_M)) (σ : pp_M)  : Option (Int32 × pp_M) :=
  if (σ.1 40 14) = (-1 : Int32) then
    if (σ.1 40 13) < (σ.1 40 11) then
      (f_X9_expects σ (59 : Int32)).bind fun x41 =>
      if (x41.1 40 14) = (-1 : Int32) then
        (f_X9_part x41).bind fun x53 =>
        k19 x53
      else
        k19 x41
    else
      some ((σ.1 40 14), σ)
  else
    some ((σ.1 40 14), σ)
def f_X9_faultNow_19 : Nat → pp_M → Option (Int32 × pp_M)
  | 0 => fun _ => none
  | n + 1 => fun σ => f_X9_faultNow_19_B (f_X9_faultNow_19 n) σ 
def f_X9_faultNow (σ : pp_M)  : Option (Int32 × pp_M) :=
  (f_X9_part (ppS (ppS (ppS σ 40 13 (0 : Int32)) 40 14 (-1 : Int32)) 40 15 (0 : Int32))).bind fun x16 =>
  f_X9_faultNow_19 100000 x16
/-! X9_gainNow -/
def f_X9_gainNow_8_B (k8 : pp_M → Int64 → Int32 → Option (Int64 × pp_M)) (σ : pp_M) (a1 : Int64) (a3 : Int32) : Option (Int64 × pp_M) :=
  if a3 < (6 : Int32) then
    if pp_ix a3 6 then
    (f_X9_gainOf σ a3 (σ.1 54 a3.toNatClampNeg)).bind fun x23 =>
    k8 x23.2 (a1 + x23.1) (a3 + (1 : Int32))
    else none
  else
    some (a1, σ)
def f_X9_gainNow_8 : Nat → pp_M → Int64 → Int32 → Option (Int64 × pp_M)
  | 0 => fun _ _ _ => none
  | n + 1 => fun σ a1 a3 => f_X9_gainNow_8_B (f_X9_gainNow_8 n) σ a1 a3
def f_X9_gainNow (σ : pp_M)  : Option (Int64 × pp_M) :=
  (f_X9_looksAtRow σ).bind fun x1 =>
  f_X9_gainNow_8 100000 x1 (0 : Int64) (0 : Int32)
/-! X9_hoursNow -/
def f_X9_hoursNow (σ : pp_M)  : Option (Int32 × pp_M) :=
  (f_X9_laysWays σ).bind fun x1 =>
  (f_X9_looksAtRow x1).bind fun x5 =>
  (f_X9_hoursFrom x5 (0 : Int32)).bind fun x10 =>
  some (x10.1, x10.2)
/-! X9_judgedNow -/
def f_X9_judgedNow (σ : pp_M)  : Option (Int32 × pp_M) :=
  (f_X9_packWeight σ).bind fun x1 =>
  if (x1.2.1 40 7) < x1.1 then
    some ((1 : Int32), x1.2)
  else
    (f_X9_hoursNow x1.2).bind fun x16 =>
    if (x16.2.1 40 6) < x16.1 then
      some ((2 : Int32), x16.2)
    else
      some ((0 : Int32), x16.2)
/-! X9_loads -/
def f_X9_loads_199 (k32 : pp_M → Int32 → Option (pp_M)) (σ : pp_M) (a1 : Int32) : Option (pp_M) :=
  k32 σ a1
def f_X9_loads_169 (k32 : pp_M → Int32 → Option (pp_M)) (σ : pp_M) (a2 : Int32) (b0 : Int32) : Option (pp_M) :=
  if b0 = 0 then
    f_X9_loads_199 k32 σ b0
  else
    if pp_ix a2 6 then
    f_X9_loads_199 k32 (ppS (ppS σ 60 a2.toNatClampNeg ((σ.1 60 a2.toNatClampNeg) + (1 : Int32))) 40 30 (((ppS σ 60 a2.toNatClampNeg ((σ.1 60 a2.toNatClampNeg) + (1 : Int32))).1 40 30) + ((ppS σ 60 a2.toNatClampNeg ((σ.1 60 a2.toNatClampNeg) + (1 : Int32))).1 42 a2.toNatClampNeg))) b0
    else none
def f_X9_loads_153 (k32 : pp_M → Int32 → Option (pp_M)) (k43 : pp_M → Int32 → Int64 → Int32 → Option (pp_M)) (σ : pp_M) (a2 : Int32) (a3 : Int64) (a5 : Int32) : Option (pp_M) :=
  k43 σ a2 a3 (a5 + (1 : Int32))
def f_X9_loads_147 (k32 : pp_M → Int32 → Option (pp_M)) (k43 : pp_M → Int32 → Int64 → Int32 → Option (pp_M)) (σ : pp_M) (a5 : Int32) (a6 : Int64) : Option (pp_M) :=
  f_X9_loads_153 k32 k43 σ a5 a6 a5
def f_X9_loads_43_B (k32 : pp_M → Int32 → Option (pp_M)) (k43 : pp_M → Int32 → Int64 → Int32 → Option (pp_M)) (σ : pp_M) (a2 : Int32) (a3 : Int64) (a5 : Int32) : Option (pp_M) :=
  if a5 < (6 : Int32) then
    if pp_ix a5 6 then
    if (σ.1 60 a5.toNatClampNeg) < (4 : Int32) then
      if (σ.1 40 7) < ((σ.1 40 30) + (σ.1 42 a5.toNatClampNeg)) then
        f_X9_loads_153 k32 k43 σ a2 a3 a5
      else
        (f_X9_gainOf σ a5 ((σ.1 60 a5.toNatClampNeg) + (1 : Int32))).bind fun x92 =>
        (f_X9_gainOf x92.2 a5 (x92.2.1 60 a5.toNatClampNeg)).bind fun x105 =>
        if (0 : Int64) < (x92.1 - x105.1) then
          if a2 = (-1 : Int32) then
            f_X9_loads_147 k32 k43 x105.2 a5 (x92.1 - x105.1)
          else
            if pp_ix a2 6 then
            if (a3 * (((x105.2.1 42 a5.toNatClampNeg)).toInt64)) < ((x92.1 - x105.1) * (((x105.2.1 42 a2.toNatClampNeg)).toInt64)) then
              f_X9_loads_147 k32 k43 x105.2 a5 (x92.1 - x105.1)
            else
              f_X9_loads_153 k32 k43 x105.2 a2 a3 a5
            else none
        else
          f_X9_loads_153 k32 k43 x105.2 a2 a3 a5
    else
      f_X9_loads_153 k32 k43 σ a2 a3 a5
    else none
  else
    if a2 = (-1 : Int32) then
      f_X9_loads_169 k32 σ a2 (0 : Int32)
    else
      f_X9_loads_169 k32 σ a2 (1 : Int32)
def f_X9_loads_43 (k32 : pp_M → Int32 → Option (pp_M)) : Nat → pp_M → Int32 → Int64 → Int32 → Option (pp_M)
  | 0 => fun _ _ _ _ => none
  | n + 1 => fun σ a2 a3 a5 => f_X9_loads_43_B k32 (f_X9_loads_43 k32 n) σ a2 a3 a5
def f_X9_loads_32_B (k32 : pp_M → Int32 → Option (pp_M)) (σ : pp_M) (a1 : Int32) : Option (pp_M) :=
  if a1 = 0 then
    some σ
  else
    f_X9_loads_43 k32 100000 σ (-1 : Int32) (0 : Int64) (0 : Int32)
def f_X9_loads_32 : Nat → pp_M → Int32 → Option (pp_M)
  | 0 => fun _ _ => none
  | n + 1 => fun σ a1 => f_X9_loads_32_B (f_X9_loads_32 n) σ a1
def f_X9_loads_11_B (k11 : pp_M → Int32 → Option (pp_M)) (σ : pp_M) (a1 : Int32) : Option (pp_M) :=
  if a1 < (6 : Int32) then
    if pp_ix a1 6 then
    k11 (ppS σ 60 a1.toNatClampNeg (0 : Int32)) (a1 + (1 : Int32))
    else none
  else
    f_X9_loads_32 100000 σ (1 : Int32)
def f_X9_loads_11 : Nat → pp_M → Int32 → Option (pp_M)
  | 0 => fun _ _ => none
  | n + 1 => fun σ a1 => f_X9_loads_11_B (f_X9_loads_11 n) σ a1
def f_X9_loads (σ : pp_M)  : Option (pp_M) :=
  (f_X9_looksAtRow σ).bind fun x1 =>
  f_X9_loads_11 100000 (ppS x1 40 30 (0 : Int32)) (0 : Int32)
/-! X9_loadNow -/
def f_X9_loadNow_70 (σ : pp_M) (a2 : Int32) (a3 : Int64) : Option (Int64 × pp_M) :=
  (f_X9_sixteen σ (σ.1 40 22)).bind fun x75 =>
  (f_X9_lowest x75.2 a3 x75.1 a2).bind fun x79 =>
  some (x79.1, x79.2)
def f_X9_loadNow_41_B (k41 : pp_M → Int32 → Int64 → Int32 → Option (Int64 × pp_M)) (σ : pp_M) (a2 : Int32) (a3 : Int64) (a5 : Int32) : Option (Int64 × pp_M) :=
  if a5 < (6 : Int32) then
    if pp_ix a5 6 then
    (f_X9_gainOf σ a5 (σ.1 60 a5.toNatClampNeg)).bind fun x59 =>
    k41 x59.2 a2 (a3 + x59.1) (a5 + (1 : Int32))
    else none
  else
    f_X9_loadNow_70 σ a2 a3
def f_X9_loadNow_41 : Nat → pp_M → Int32 → Int64 → Int32 → Option (Int64 × pp_M)
  | 0 => fun _ _ _ _ => none
  | n + 1 => fun σ a2 a3 a5 => f_X9_loadNow_41_B (f_X9_loadNow_41 n) σ a2 a3 a5
def f_X9_loadNow (σ : pp_M) (a1 : Int32) (a2 : Int32) : Option (Int64 × pp_M) :=
  if a1 = (2 : Int32) then
    (f_X9_boundNow σ a2).bind fun x7 =>
    some (x7.1, x7.2)
  else
    if a1 = 0 then
      (f_X9_looksAtRow σ).bind fun x18 =>
      (f_X9_packs x18 (-1 : Int32)).bind fun x23 =>
      f_X9_loadNow_70 x23 a2 (x23.2 40 28)
    else
      (f_X9_loads σ).bind fun x35 =>
      f_X9_loadNow_41 100000 x35 a2 (0 : Int64) (0 : Int32)
/-! X9_loadedNow -/
def f_X9_loadedNow (σ : pp_M) (a1 : Int32) : Option (Int32 × pp_M) :=
  (f_X9_loads σ).bind fun x1 =>
  if a1 = (-1 : Int32) then
    some ((x1.1 40 30), x1)
  else
    if pp_ix a1 6 then
    some ((x1.1 60 a1.toNatClampNeg), x1)
    else none
/-! X9_strapsNow -/
def f_X9_strapsNow_113 (k42 : pp_M → Int32 → Int64 → Int32 → Option (Int32 × pp_M)) (σ : pp_M) (a1 : Int32) (a2 : Int64) (a4 : Int32) : Option (Int32 × pp_M) :=
  k42 σ a1 a2 (a4 + (1 : Int32))
def f_X9_strapsNow_107 (k42 : pp_M → Int32 → Int64 → Int32 → Option (Int32 × pp_M)) (σ : pp_M) (a4 : Int32) (a5 : Int64) : Option (Int32 × pp_M) :=
  f_X9_strapsNow_113 k42 σ a4 a5 a4
def f_X9_strapsNow_42_B (k42 : pp_M → Int32 → Int64 → Int32 → Option (Int32 × pp_M)) (σ : pp_M) (a1 : Int32) (a2 : Int64) (a4 : Int32) : Option (Int32 × pp_M) :=
  if a4 < (6 : Int32) then
    if pp_ix a4 6 then
    if 0 < (σ.1 65 a4.toNatClampNeg) then
      (f_X9_bringsNow σ a4).bind fun x62 =>
      if a1 = (-1 : Int32) then
        f_X9_strapsNow_107 k42 x62.2 a4 x62.1
      else
        if pp_ix a1 6 then
        (f_X9_weightOf x62.2 a1 (x62.2.1 65 a1.toNatClampNeg)).bind fun x82 =>
        (f_X9_weightOf x82.2 a4 (x82.2.1 65 a4.toNatClampNeg)).bind fun x98 =>
        if (x62.1 * (x82.1.toInt64)) < (a2 * (x98.1.toInt64)) then
          f_X9_strapsNow_107 k42 x98.2 a4 x62.1
        else
          f_X9_strapsNow_113 k42 x98.2 a1 a2 a4
        else none
    else
      f_X9_strapsNow_113 k42 σ a1 a2 a4
    else none
  else
    some (a1, σ)
def f_X9_strapsNow_42 : Nat → pp_M → Int32 → Int64 → Int32 → Option (Int32 × pp_M)
  | 0 => fun _ _ _ _ => none
  | n + 1 => fun σ a1 a2 a4 => f_X9_strapsNow_42_B (f_X9_strapsNow_42 n) σ a1 a2 a4
def f_X9_strapsNow_11_B (k11 : pp_M → Int32 → Option (Int32 × pp_M)) (σ : pp_M) (a1 : Int32) : Option (Int32 × pp_M) :=
  if a1 < (6 : Int32) then
    if pp_ix a1 6 then
    k11 (ppS σ 65 a1.toNatClampNeg (σ.1 59 a1.toNatClampNeg)) (a1 + (1 : Int32))
    else none
  else
    f_X9_strapsNow_42 100000 σ (-1 : Int32) (0 : Int64) (0 : Int32)
def f_X9_strapsNow_11 : Nat → pp_M → Int32 → Option (Int32 × pp_M)
  | 0 => fun _ _ => none
  | n + 1 => fun σ a1 => f_X9_strapsNow_11_B (f_X9_strapsNow_11 n) σ a1
def f_X9_strapsNow (σ : pp_M)  : Option (Int32 × pp_M) :=
  (f_X9_looksAtRow σ).bind fun x1 =>
  (f_X9_packs x1 (-1 : Int32)).bind fun x6 =>
  f_X9_strapsNow_11 100000 x6 (0 : Int32)
/-! X9_thingNow -/
def f_X9_thingNow (σ : pp_M) (a1 : Int32) (a2 : Int32) : Option (Int32 × pp_M) :=
  if a2 = 0 then
    if pp_ix a1 6 then
    some ((σ.1 41 a1.toNatClampNeg), σ)
    else none
  else
    if a2 = (1 : Int32) then
      if pp_ix a1 6 then
      some ((σ.1 42 a1.toNatClampNeg), σ)
      else none
    else
      if a2 = (2 : Int32) then
        if pp_ix a1 6 then
        some ((σ.1 43 a1.toNatClampNeg), σ)
        else none
      else
        if pp_ix ((((3 : Int32) * a1) + a2) - (3 : Int32)) 18 then
        some ((σ.1 44 ((((3 : Int32) * a1) + a2) - (3 : Int32)).toNatClampNeg), σ)
        else none
/-! X9_digest -/
def f_X9_digest_184_B (k184 : pp_M → Int64 → Int32 → Option (Int64 × pp_M)) (σ : pp_M) (a1 : Int64) (a5 : Int32) : Option (Int64 × pp_M) :=
  if a5 < (3 : Int32) then
    (f_X9_loadNow σ a5 (0 : Int32)).bind fun x199 =>
    (f_X9_loadNow x199.2 a5 (1 : Int32)).bind fun x213 =>
    k184 x213.2 (((31 : Int64) * (((31 : Int64) * a1) + x199.1)) + x213.1) (a5 + (1 : Int32))
  else
    (f_X9_strapsNow σ).bind fun x230 =>
    some ((((31 : Int64) * a1) + (x230.1.toInt64)), x230.2)
def f_X9_digest_184 : Nat → pp_M → Int64 → Int32 → Option (Int64 × pp_M)
  | 0 => fun _ _ _ => none
  | n + 1 => fun σ a1 a5 => f_X9_digest_184_B (f_X9_digest_184 n) σ a1 a5
def f_X9_digest_54_B (k45 : pp_M → Int64 → Int32 → Option (Int64 × pp_M)) (k54 : pp_M → Int64 → Int32 → Int32 → Option (Int64 × pp_M)) (σ : pp_M) (a1 : Int64) (a3 : Int32) (a4 : Int32) : Option (Int64 × pp_M) :=
  if a4 < (6 : Int32) then
    (f_X9_thingNow σ a3 a4).bind fun x70 =>
    k54 x70.2 (((31 : Int64) * a1) + (x70.1.toInt64)) a3 (a4 + (1 : Int32))
  else
    (f_X9_bestNow σ a3).bind fun x89 =>
    (f_X9_loadedNow x89.2 a3).bind fun x102 =>
    k45 x102.2 (((31 : Int64) * (((31 : Int64) * a1) + (x89.1.toInt64))) + (x102.1.toInt64)) (a3 + (1 : Int32))
def f_X9_digest_54 (k45 : pp_M → Int64 → Int32 → Option (Int64 × pp_M)) : Nat → pp_M → Int64 → Int32 → Int32 → Option (Int64 × pp_M)
  | 0 => fun _ _ _ _ => none
  | n + 1 => fun σ a1 a3 a4 => f_X9_digest_54_B k45 (f_X9_digest_54 k45 n) σ a1 a3 a4
def f_X9_digest_45_B (k45 : pp_M → Int64 → Int32 → Option (Int64 × pp_M)) (σ : pp_M) (a1 : Int64) (a3 : Int32) : Option (Int64 × pp_M) :=
  if a3 < (6 : Int32) then
    f_X9_digest_54 k45 100000 σ a1 a3 (0 : Int32)
  else
    (f_X9_hoursNow σ).bind fun x120 =>
    (f_X9_judgedNow x120.2).bind fun x132 =>
    (f_X9_gainNow x132.2).bind fun x139 =>
    (f_X9_sixteen x139.2 (x139.2.1 40 19)).bind fun x153 =>
    (f_X9_lowest x153.2 x139.1 x153.1 (0 : Int32)).bind fun x157 =>
    (f_X9_sixteen x157.2 (x157.2.1 40 19)).bind fun x172 =>
    (f_X9_lowest x172.2 x139.1 x172.1 (1 : Int32)).bind fun x176 =>
    f_X9_digest_184 100000 x176.2 (((31 : Int64) * (((31 : Int64) * (((31 : Int64) * (((31 : Int64) * a1) + (x120.1.toInt64))) + (x132.1.toInt64))) + x157.1)) + x176.1) (0 : Int32)
def f_X9_digest_45 : Nat → pp_M → Int64 → Int32 → Option (Int64 × pp_M)
  | 0 => fun _ _ _ => none
  | n + 1 => fun σ a1 a3 => f_X9_digest_45_B (f_X9_digest_45 n) σ a1 a3
def f_X9_digest_6_B (k6 : pp_M → Int64 → Int32 → Option (Int64 × pp_M)) (σ : pp_M) (a1 : Int64) (a3 : Int32) : Option (Int64 × pp_M) :=
  if a3 < (8 : Int32) then
    (f_X9_count σ a3).bind fun x19 =>
    k6 x19.2 (((31 : Int64) * a1) + (x19.1.toInt64)) (a3 + (1 : Int32))
  else
    (f_X9_faultNow σ).bind fun x37 =>
    f_X9_digest_45 100000 x37.2 (((31 : Int64) * a1) + (x37.1.toInt64)) (0 : Int32)
def f_X9_digest_6 : Nat → pp_M → Int64 → Int32 → Option (Int64 × pp_M)
  | 0 => fun _ _ _ => none
  | n + 1 => fun σ a1 a3 => f_X9_digest_6_B (f_X9_digest_6 n) σ a1 a3
def f_X9_digest (σ : pp_M)  : Option (Int64 × pp_M) :=
  f_X9_digest_6 100000 σ (17 : Int64) (0 : Int32)
/-! X9_fault -/
def f_X9_fault (σ : pp_M)  : Option (Int32 × pp_M) :=
  (f_X9_faultNow σ).bind fun x1 =>
  some (x1.1, x1.2)
/-! X9_gain -/
def f_X9_gain (σ : pp_M) (a1 : Int32) : Option (Int64 × pp_M) :=
  (f_X9_in σ a1 (0 : Int32) (1 : Int32)).bind fun x3 =>
  if x3.1 = 0 then
    (f_X9_no x3.2 (-2 : Int32)).bind fun x29 =>
    some (x29.1, x29.2)
  else
    (f_X9_gainNow x3.2).bind fun x10 =>
    (f_X9_sixteen x10.2 (x10.2.1 40 19)).bind fun x17 =>
    (f_X9_lowest x17.2 x10.1 x17.1 a1).bind fun x21 =>
    some (x21.1, x21.2)
/-! X9_lacks -/
def f_X9_lacks (σ : pp_M) (a1 : Int32) (a2 : Int32) (a3 : Int32) : Option (Int32 × pp_M) :=
  if pp_ix a1 4 then
  if (σ.1 66 a1.toNatClampNeg) = 0 then
    some ((1 : Int32), σ)
  else
    if (σ.1 67 a1.toNatClampNeg) = a2 then
      (f_X9_in σ a3 (0 : Int32) ((σ.1 68 a1.toNatClampNeg) - (1 : Int32))).bind fun x37 =>
      if x37.1 = 0 then
        some ((2 : Int32), x37.2)
      else
        some ((0 : Int32), x37.2)
    else
      some ((3 : Int32), σ)
  else none
/-! X9_get -/
def f_X9_get (σ : pp_M) (a1 : Int32) (a2 : Int32) (a3 : Int32) : Option (Int32 × pp_M) :=
  (f_X9_isSheet σ a1).bind fun x1 =>
  if x1.1 = 0 then
    some ((-2147483648 : Int32), x1.2)
  else
    (f_X9_in x1.2 a2 (0 : Int32) (2 : Int32)).bind fun x10 =>
    if x10.1 = 0 then
      some ((-2147483648 : Int32), x10.2)
    else
      (f_X9_lacks x10.2 a1 a2 a3).bind fun x24 =>
      if 0 < x24.1 then
        some ((-2147483648 : Int32), ppS x24.2 40 47 x24.1)
      else
        if pp_ix (((40 : Int32) * a1) + a3) 160 then
        some ((x24.2.1 69 (((40 : Int32) * a1) + a3).toNatClampNeg), x24.2)
        else none
/-! X9_hours -/
def f_X9_hours (σ : pp_M)  : Option (Int32 × pp_M) :=
  (f_X9_hoursNow σ).bind fun x1 =>
  some (x1.1, x1.2)
/-! X9_isPlace -/
def f_X9_isPlace (σ : pp_M) (a0 : Int32) : Option (Int32 × pp_M) :=
  (f_X9_in σ a0 (0 : Int32) (7 : Int32)).bind fun x4 =>
  if pp_b x4.1 then
  some (x4.1, x4.2)
  else none
/-! X9_judged -/
def f_X9_judged (σ : pp_M)  : Option (Int32 × pp_M) :=
  (f_X9_judgedNow σ).bind fun x1 =>
  some (x1.1, x1.2)
/-! X9_keep -/
def f_X9_keep (σ : pp_M) (a1 : Int32) (a2 : Int32) (a3 : Int32) : Option (pp_M) :=
  if pp_ix a1 4 then
  if (σ.1 67 a1.toNatClampNeg) = 0 then
    if pp_ix (((40 : Int32) * a1) + a2) 160 then
    some (ppS σ 69 (((40 : Int32) * a1) + a2).toNatClampNeg ((a3).toInt8.toInt32))
    else none
  else
    if (σ.1 67 a1.toNatClampNeg) = (1 : Int32) then
      if pp_ix (((40 : Int32) * a1) + a2) 160 then
      some (ppS σ 69 (((40 : Int32) * a1) + a2).toNatClampNeg ((a3).toInt16.toInt32))
      else none
    else
      if pp_ix (((40 : Int32) * a1) + a2) 160 then
      some (ppS σ 69 (((40 : Int32) * a1) + a2).toNatClampNeg a3)
      else none
  else none
/-! X9_load -/
def f_X9_load_27 (σ : pp_M)  : Option (Int64 × pp_M) :=
  (f_X9_no σ (-2 : Int32)).bind fun x29 =>
  some (x29.1, x29.2)
def f_X9_load (σ : pp_M) (a1 : Int32) (a2 : Int32) : Option (Int64 × pp_M) :=
  (f_X9_in σ a1 (0 : Int32) (2 : Int32)).bind fun x3 =>
  if x3.1 = 0 then
    f_X9_load_27 x3.2
  else
    (f_X9_in x3.2 a2 (0 : Int32) (1 : Int32)).bind fun x12 =>
    if x12.1 = 0 then
      f_X9_load_27 x12.2
    else
      (f_X9_loadNow x12.2 a1 a2).bind fun x21 =>
      some (x21.1, x21.2)
/-! X9_loaded -/
def f_X9_loaded_12 (σ : pp_M) (a1 : Int32) : Option (Int32 × pp_M) :=
  (f_X9_loadedNow σ a1).bind fun x14 =>
  some (x14.1, x14.2)
def f_X9_loaded (σ : pp_M) (a1 : Int32) : Option (Int32 × pp_M) :=
  if a1 = (-1 : Int32) then
    f_X9_loaded_12 σ a1
  else
    (f_X9_isThing σ a1).bind fun x6 =>
    if x6.1 = 0 then
      some ((-2 : Int32), x6.2)
    else
      f_X9_loaded_12 x6.2 a1
/-! X9_lose -/
def f_X9_lose (σ : pp_M) (a1 : Int32) : Option (Int32 × pp_M) :=
  (f_X9_isSheet σ a1).bind fun x1 =>
  if x1.1 = 0 then
    some ((-2 : Int32), x1.2)
  else
    if pp_ix a1 4 then
    if (x1.2.1 66 a1.toNatClampNeg) = 0 then
      (f_X9_meets x1.2 (1 : Int32)).bind fun x21 =>
      some (x21.1, x21.2)
    else
      some (((ppS x1.2 66 a1.toNatClampNeg (0 : Int32)).1 68 a1.toNatClampNeg), ppS x1.2 66 a1.toNatClampNeg (0 : Int32))
    else none
/-! X9_onward -/
def f_X9_onward_230 (k45 : pp_M → Int32 → Int32 → Int32 → Int64 → Int32 → Option (Int32 × pp_M)) (k57 : pp_M → Int32 → Int32 → Int32 → Int64 → Int32 → Int32 → Option (Int32 × pp_M)) (σ : pp_M) (a1 : Int32) (a2 : Int32) (a3 : Int32) (a4 : Int64) (a6 : Int32) (a7 : Int32) : Option (Int32 × pp_M) :=
  k57 σ a1 a2 a3 a4 a6 (a7 + (1 : Int32))
def f_X9_onward_229 (k45 : pp_M → Int32 → Int32 → Int32 → Int64 → Int32 → Option (Int32 × pp_M)) (k57 : pp_M → Int32 → Int32 → Int32 → Int64 → Int32 → Int32 → Option (Int32 × pp_M)) (σ : pp_M) (a1 : Int32) (a2 : Int32) (a4 : Int64) (a6 : Int32) (a7 : Int32) (b0 : Int32) : Option (Int32 × pp_M) :=
  f_X9_onward_230 k45 k57 σ a1 a2 b0 a4 a6 a7
def f_X9_onward_154_B (k45 : pp_M → Int32 → Int32 → Int32 → Int64 → Int32 → Option (Int32 × pp_M)) (k57 : pp_M → Int32 → Int32 → Int32 → Int64 → Int32 → Int32 → Option (Int32 × pp_M)) (k154 : pp_M → Int32 → Int32 → Int32 → Int64 → Int32 → Int32 → Int64 → Int32 → Option (Int32 × pp_M)) (σ : pp_M) (a1 : Int32) (a2 : Int32) (a3 : Int32) (a4 : Int64) (a6 : Int32) (a7 : Int32) (a9 : Int64) (a11 : Int32) : Option (Int32 × pp_M) :=
  if a11 < (6 : Int32) then
    if pp_ix a11 6 then
    (f_X9_spot σ a11 (0 : Int32) (σ.1 54 a11.toNatClampNeg)).bind fun x177 =>
    if pp_ix x177.1 240 then
    k154 x177.2 a1 a2 a3 a4 a6 a7 (a9 + (x177.2.2 56 x177.1.toNatClampNeg)) (a11 + (1 : Int32))
    else none
    else none
  else
    (f_X9_sixteen σ ((5 : Int32) - a6)).bind fun x196 =>
    if a4 < (a9 * x196.1) then
      if a6 = 0 then
        f_X9_onward_229 k45 k57 x196.2 a1 a2 (a9 * x196.1) a6 a7 (-1 : Int32)
      else
        f_X9_onward_229 k45 k57 x196.2 a1 a2 (a9 * x196.1) a6 a7 (x196.2.1 55 0)
    else
      f_X9_onward_230 k45 k57 x196.2 a1 a2 a3 a4 a6 a7
def f_X9_onward_154 (k45 : pp_M → Int32 → Int32 → Int32 → Int64 → Int32 → Option (Int32 × pp_M)) (k57 : pp_M → Int32 → Int32 → Int32 → Int64 → Int32 → Int32 → Option (Int32 × pp_M)) : Nat → pp_M → Int32 → Int32 → Int32 → Int64 → Int32 → Int32 → Int64 → Int32 → Option (Int32 × pp_M)
  | 0 => fun _ _ _ _ _ _ _ _ _ => none
  | n + 1 => fun σ a1 a2 a3 a4 a6 a7 a9 a11 => f_X9_onward_154_B k45 k57 (f_X9_onward_154 k45 k57 n) σ a1 a2 a3 a4 a6 a7 a9 a11
def f_X9_onward_125 (k45 : pp_M → Int32 → Int32 → Int32 → Int64 → Int32 → Option (Int32 × pp_M)) (k57 : pp_M → Int32 → Int32 → Int32 → Int64 → Int32 → Int32 → Option (Int32 × pp_M)) (σ : pp_M) (a1 : Int32) (a2 : Int32) (a3 : Int32) (a4 : Int64) (a6 : Int32) (a7 : Int32) (a8 : Int32) : Option (Int32 × pp_M) :=
  if a8 = 0 then
    f_X9_onward_230 k45 k57 σ a1 a2 a3 a4 a6 a7
  else
    (f_X9_hoursFrom σ a1).bind fun x133 =>
    if (x133.2.1 40 6) < (a2 + x133.1) then
      f_X9_onward_230 k45 k57 x133.2 a1 a2 a3 a4 a6 a7
    else
      (f_X9_laysWorth x133.2).bind fun x145 =>
      f_X9_onward_154 k45 k57 100000 x145 a1 a2 a3 a4 a6 a7 (0 : Int64) (0 : Int32)
def f_X9_onward_117 (k45 : pp_M → Int32 → Int32 → Int32 → Int64 → Int32 → Option (Int32 × pp_M)) (k57 : pp_M → Int32 → Int32 → Int32 → Int64 → Int32 → Int32 → Option (Int32 × pp_M)) (k89 : pp_M → Int32 → Int32 → Int32 → Int64 → Int32 → Int32 → Int32 → Int32 → Option (Int32 × pp_M)) (σ : pp_M) (a1 : Int32) (a2 : Int32) (a3 : Int32) (a4 : Int64) (a6 : Int32) (a7 : Int32) (a9 : Int32) (b0 : Int32) : Option (Int32 × pp_M) :=
  k89 σ a1 a2 a3 a4 a6 a7 b0 (a9 + (1 : Int32))
def f_X9_onward_89_B (k45 : pp_M → Int32 → Int32 → Int32 → Int64 → Int32 → Option (Int32 × pp_M)) (k57 : pp_M → Int32 → Int32 → Int32 → Int64 → Int32 → Int32 → Option (Int32 × pp_M)) (k89 : pp_M → Int32 → Int32 → Int32 → Int64 → Int32 → Int32 → Int32 → Int32 → Option (Int32 × pp_M)) (σ : pp_M) (a1 : Int32) (a2 : Int32) (a3 : Int32) (a4 : Int64) (a6 : Int32) (a7 : Int32) (a8 : Int32) (a9 : Int32) : Option (Int32 × pp_M) :=
  if a9 < a6 then
    if a8 = 0 then
      f_X9_onward_125 k45 k57 σ a1 a2 a3 a4 a6 a7 a8
    else
      if pp_ix a9 7 then
      if (σ.1 55 a9.toNatClampNeg) = a1 then
        f_X9_onward_117 k45 k57 k89 σ a1 a2 a3 a4 a6 a7 a9 (0 : Int32)
      else
        f_X9_onward_117 k45 k57 k89 σ a1 a2 a3 a4 a6 a7 a9 (1 : Int32)
      else none
  else
    f_X9_onward_125 k45 k57 σ a1 a2 a3 a4 a6 a7 a8
def f_X9_onward_89 (k45 : pp_M → Int32 → Int32 → Int32 → Int64 → Int32 → Option (Int32 × pp_M)) (k57 : pp_M → Int32 → Int32 → Int32 → Int64 → Int32 → Int32 → Option (Int32 × pp_M)) : Nat → pp_M → Int32 → Int32 → Int32 → Int64 → Int32 → Int32 → Int32 → Int32 → Option (Int32 × pp_M)
  | 0 => fun _ _ _ _ _ _ _ _ _ => none
  | n + 1 => fun σ a1 a2 a3 a4 a6 a7 a8 a9 => f_X9_onward_89_B k45 k57 (f_X9_onward_89 k45 k57 n) σ a1 a2 a3 a4 a6 a7 a8 a9
def f_X9_onward_84 (k45 : pp_M → Int32 → Int32 → Int32 → Int64 → Int32 → Option (Int32 × pp_M)) (k57 : pp_M → Int32 → Int32 → Int32 → Int64 → Int32 → Int32 → Option (Int32 × pp_M)) (σ : pp_M) (a1 : Int32) (a2 : Int32) (a3 : Int32) (a4 : Int64) (a6 : Int32) (a7 : Int32) (b0 : Int32) : Option (Int32 × pp_M) :=
  f_X9_onward_89 k45 k57 100000 σ a1 a2 a3 a4 a6 a7 b0 (0 : Int32)
def f_X9_onward_57_B (k45 : pp_M → Int32 → Int32 → Int32 → Int64 → Int32 → Option (Int32 × pp_M)) (k57 : pp_M → Int32 → Int32 → Int32 → Int64 → Int32 → Int32 → Option (Int32 × pp_M)) (σ : pp_M) (a1 : Int32) (a2 : Int32) (a3 : Int32) (a4 : Int64) (a6 : Int32) (a7 : Int32) : Option (Int32 × pp_M) :=
  (f_X9_fives σ a6).bind fun x61 =>
  if a7 < x61.1 then
    (f_X9_looksAt x61.2 a6 a7).bind fun x72 =>
    if x72.1 = (-1 : Int32) then
      f_X9_onward_84 k45 k57 x72.2 a1 a2 a3 a4 a6 a7 (0 : Int32)
    else
      f_X9_onward_84 k45 k57 x72.2 a1 a2 a3 a4 a6 a7 (1 : Int32)
  else
    k45 x61.2 a1 a2 a3 a4 (a6 + (1 : Int32))
def f_X9_onward_57 (k45 : pp_M → Int32 → Int32 → Int32 → Int64 → Int32 → Option (Int32 × pp_M)) : Nat → pp_M → Int32 → Int32 → Int32 → Int64 → Int32 → Int32 → Option (Int32 × pp_M)
  | 0 => fun _ _ _ _ _ _ _ => none
  | n + 1 => fun σ a1 a2 a3 a4 a6 a7 => f_X9_onward_57_B k45 (f_X9_onward_57 k45 n) σ a1 a2 a3 a4 a6 a7
def f_X9_onward_45_B (k45 : pp_M → Int32 → Int32 → Int32 → Int64 → Int32 → Option (Int32 × pp_M)) (σ : pp_M) (a1 : Int32) (a2 : Int32) (a3 : Int32) (a4 : Int64) (a6 : Int32) : Option (Int32 × pp_M) :=
  if (σ.1 40 32) < a6 then
    some (a3, σ)
  else
    f_X9_onward_57 k45 100000 σ a1 a2 a3 a4 a6 (0 : Int32)
def f_X9_onward_45 : Nat → pp_M → Int32 → Int32 → Int32 → Int64 → Int32 → Option (Int32 × pp_M)
  | 0 => fun _ _ _ _ _ _ => none
  | n + 1 => fun σ a1 a2 a3 a4 a6 => f_X9_onward_45_B (f_X9_onward_45 n) σ a1 a2 a3 a4 a6
def f_X9_onward (σ : pp_M) (a1 : Int32) (a2 : Int32) : Option (Int32 × pp_M) :=
  (f_X9_isPlace σ a1).bind fun x1 =>
  if x1.1 = 0 then
    some ((-2 : Int32), x1.2)
  else
    (f_X9_in x1.2 a2 (0 : Int32) (200 : Int32)).bind fun x12 =>
    if x12.1 = 0 then
      some ((-2 : Int32), x12.2)
    else
      (f_X9_gathers x12.2).bind fun x22 =>
      if x22.1 = 0 then
        some ((-4 : Int32), x22.2)
      else
        (f_X9_laysWays x22.2).bind fun x32 =>
        f_X9_onward_45 100000 x32 a1 a2 (-1 : Int32) (-1000000000000000000 : Int64) (0 : Int32)
/-! X9_pack -/
def f_X9_pack_80_B (k80 : pp_M → Int32 → Int32 → Option (Int32 × pp_M)) (σ : pp_M) (a1 : Int32) (a2 : Int32) : Option (Int32 × pp_M) :=
  if a2 < (6 : Int32) then
    if pp_ix (((40 : Int32) * a1) + a2) 160 then
    if pp_ix a2 6 then
    k80 (ppS σ 54 a2.toNatClampNeg (σ.1 69 (((40 : Int32) * a1) + a2).toNatClampNeg)) a1 (a2 + (1 : Int32))
    else none
    else none
  else
    (f_X9_packWeight σ).bind fun x110 =>
    some (x110.1, x110.2)
def f_X9_pack_80 : Nat → pp_M → Int32 → Int32 → Option (Int32 × pp_M)
  | 0 => fun _ _ _ => none
  | n + 1 => fun σ a1 a2 => f_X9_pack_80_B (f_X9_pack_80 n) σ a1 a2
def f_X9_pack_44_B (k44 : pp_M → Int32 → Int32 → Option (Int32 × pp_M)) (σ : pp_M) (a1 : Int32) (a2 : Int32) : Option (Int32 × pp_M) :=
  if a2 < (6 : Int32) then
    if pp_ix (((40 : Int32) * a1) + a2) 160 then
    (f_X9_in σ (σ.1 69 (((40 : Int32) * a1) + a2).toNatClampNeg) (0 : Int32) (4 : Int32)).bind fun x63 =>
    if x63.1 = 0 then
      some ((-3 : Int32), x63.2)
    else
      k44 x63.2 a1 (a2 + (1 : Int32))
    else none
  else
    f_X9_pack_80 100000 σ a1 (0 : Int32)
def f_X9_pack_44 : Nat → pp_M → Int32 → Int32 → Option (Int32 × pp_M)
  | 0 => fun _ _ _ => none
  | n + 1 => fun σ a1 a2 => f_X9_pack_44_B (f_X9_pack_44 n) σ a1 a2
def f_X9_pack (σ : pp_M) (a1 : Int32) : Option (Int32 × pp_M) :=
  (f_X9_isSheet σ a1).bind fun x1 =>
  if x1.1 = 0 then
    some ((-2 : Int32), x1.2)
  else
    if pp_ix a1 4 then
    if (x1.2.1 66 a1.toNatClampNeg) = 0 then
      (f_X9_meets x1.2 (1 : Int32)).bind fun x21 =>
      some (x21.1, x21.2)
    else
      if (x1.2.1 68 a1.toNatClampNeg) < (6 : Int32) then
        (f_X9_meets x1.2 (2 : Int32)).bind fun x38 =>
        some (x38.1, x38.2)
      else
        f_X9_pack_44 100000 x1.2 a1 (0 : Int32)
    else none
/-! X9_put -/
def f_X9_put (σ : pp_M) (a1 : Int32) (a2 : Int32) (a3 : Int32) (a4 : Int32) : Option (Int32 × pp_M) :=
  (f_X9_isSheet σ a1).bind fun x1 =>
  if x1.1 = 0 then
    some ((-2 : Int32), x1.2)
  else
    (f_X9_in x1.2 a2 (0 : Int32) (2 : Int32)).bind fun x10 =>
    if x10.1 = 0 then
      some ((-2 : Int32), x10.2)
    else
      (f_X9_lacks x10.2 a1 a2 a3).bind fun x23 =>
      if 0 < x23.1 then
        (f_X9_meets x23.2 x23.1).bind fun x36 =>
        some (x36.1, x36.2)
      else
        (f_X9_keep x23.2 a1 a3 a4).bind fun x45 =>
        some ((1 : Int32), x45)
/-! X9_read -/
def f_X9_read_133_B (k34 : pp_M → Int32 → Int32 → Int32 → Option (Int32 × pp_M)) (k133 : pp_M → Int32 → Int32 → Int32 → Int32 → Int32 → Option (Int32 × pp_M)) (σ : pp_M) (a1 : Int32) (a2 : Int32) (a3 : Int32) (a4 : Int32) (a5 : Int32) : Option (Int32 × pp_M) :=
  if a5 < (3 : Int32) then
    (f_X9_place σ a2 a3).bind fun x145 =>
    if pp_ix (a4 + a5) 160 then
    if pp_ix (x145.1 + a5) 144 then
    k133 (ppS x145.2 47 (x145.1 + a5).toNatClampNeg (x145.2.1 69 (a4 + a5).toNatClampNeg)) a1 a2 a3 a4 (a5 + (1 : Int32))
    else none
    else none
  else
    k34 σ a1 a2 (a3 + (1 : Int32))
def f_X9_read_133 (k34 : pp_M → Int32 → Int32 → Int32 → Option (Int32 × pp_M)) : Nat → pp_M → Int32 → Int32 → Int32 → Int32 → Int32 → Option (Int32 × pp_M)
  | 0 => fun _ _ _ _ _ _ => none
  | n + 1 => fun σ a1 a2 a3 a4 a5 => f_X9_read_133_B k34 (f_X9_read_133 k34 n) σ a1 a2 a3 a4 a5
def f_X9_read_34_B (k34 : pp_M → Int32 → Int32 → Int32 → Option (Int32 × pp_M)) (σ : pp_M) (a1 : Int32) (a2 : Int32) (a3 : Int32) : Option (Int32 × pp_M) :=
  if a3 < (6 : Int32) then
    if pp_ix a1 4 then
    if (((3 : Int32) * a3) + (2 : Int32)) < (σ.1 68 a1.toNatClampNeg) then
      if pp_ix (((40 : Int32) * a1) + ((3 : Int32) * a3)) 160 then
      (f_X9_in σ (σ.1 69 (((40 : Int32) * a1) + ((3 : Int32) * a3)).toNatClampNeg) (0 : Int32) (16 : Int32)).bind fun x74 =>
      if x74.1 = 0 then
        some (a3, x74.2)
      else
        if pp_ix ((((40 : Int32) * a1) + ((3 : Int32) * a3)) + (1 : Int32)) 160 then
        (f_X9_in x74.2 (x74.2.1 69 ((((40 : Int32) * a1) + ((3 : Int32) * a3)) + (1 : Int32)).toNatClampNeg) (0 : Int32) (x74.2.1 69 (((40 : Int32) * a1) + ((3 : Int32) * a3)).toNatClampNeg)).bind fun x97 =>
        if x97.1 = 0 then
          some (a3, x97.2)
        else
          if pp_ix ((((40 : Int32) * a1) + ((3 : Int32) * a3)) + (2 : Int32)) 160 then
          (f_X9_in x97.2 (x97.2.1 69 ((((40 : Int32) * a1) + ((3 : Int32) * a3)) + (2 : Int32)).toNatClampNeg) (0 : Int32) (x97.2.1 69 ((((40 : Int32) * a1) + ((3 : Int32) * a3)) + (1 : Int32)).toNatClampNeg)).bind fun x122 =>
          if x122.1 = 0 then
            some (a3, x122.2)
          else
            f_X9_read_133 k34 100000 x122.2 a1 a2 a3 (((40 : Int32) * a1) + ((3 : Int32) * a3)) (0 : Int32)
          else none
        else none
      else none
    else
      some (a3, σ)
    else none
  else
    some (a3, σ)
def f_X9_read_34 : Nat → pp_M → Int32 → Int32 → Int32 → Option (Int32 × pp_M)
  | 0 => fun _ _ _ _ => none
  | n + 1 => fun σ a1 a2 a3 => f_X9_read_34_B (f_X9_read_34 n) σ a1 a2 a3
def f_X9_read (σ : pp_M) (a1 : Int32) (a2 : Int32) : Option (Int32 × pp_M) :=
  (f_X9_isSheet σ a1).bind fun x1 =>
  if x1.1 = 0 then
    some ((-2 : Int32), x1.2)
  else
    (f_X9_isFarm x1.2 a2).bind fun x8 =>
    if x8.1 = 0 then
      some ((-2 : Int32), x8.2)
    else
      if pp_ix a1 4 then
      if (x8.2.1 66 a1.toNatClampNeg) = 0 then
        (f_X9_meets x8.2 (1 : Int32)).bind fun x28 =>
        some (x28.1, x28.2)
      else
        f_X9_read_34 100000 x8.2 a1 a2 (0 : Int32)
      else none
/-! X9_road -/
def f_X9_road (σ : pp_M) (a1 : Int32) (a2 : Int32) (a3 : Int32) : Option (Int32 × pp_M) :=
  (f_X9_isPlace σ a1).bind fun x1 =>
  if x1.1 = 0 then
    some ((-2 : Int32), x1.2)
  else
    (f_X9_isPlace x1.2 a2).bind fun x8 =>
    if x8.1 = 0 then
      some ((-2 : Int32), x8.2)
    else
      if a1 = a2 then
        some ((-2 : Int32), x8.2)
      else
        (f_X9_in x8.2 a3 (0 : Int32) (60 : Int32)).bind fun x23 =>
        if x23.1 = 0 then
          some ((-2 : Int32), x23.2)
        else
          if pp_ix (((8 : Int32) * a1) + a2) 64 then
          if pp_ix (((8 : Int32) * a2) + a1) 64 then
          some ((x23.2.1 45 (((8 : Int32) * a1) + a2).toNatClampNeg), ppS (ppS x23.2 45 (((8 : Int32) * a1) + a2).toNatClampNeg a3) 45 (((8 : Int32) * a2) + a1).toNatClampNeg a3)
          else none
          else none
/-! X9_round -/
def f_X9_round (σ : pp_M) (a1 : Int32) : Option (Int32 × pp_M) :=
  if a1 < (-1 : Int32) then
    some ((-2 : Int32), σ)
  else
    (f_X9_gathers σ).bind fun x9 =>
    if x9.1 = 0 then
      some ((-4 : Int32), x9.2)
    else
      (f_X9_goesRound x9.2).bind fun x19 =>
      if a1 = (-1 : Int32) then
        some ((x19.1 40 34), x19)
      else
        if a1 < (x19.1 40 34) then
          if pp_ix a1 5 then
          some ((x19.1 63 a1.toNatClampNeg), x19)
          else none
        else
          some ((-1 : Int32), x19)
/-! X9_rounds -/
def f_X9_rounds (σ : pp_M) (a1 : Int32) : Option (Int64 × pp_M) :=
  (f_X9_in σ a1 (0 : Int32) (1 : Int32)).bind fun x3 =>
  if x3.1 = 0 then
    (f_X9_no x3.2 (-2 : Int32)).bind fun x11 =>
    some (x11.1, x11.2)
  else
    (f_X9_gathers x3.2).bind fun x16 =>
    if x16.1 = 0 then
      (f_X9_no x16.2 (-4 : Int32)).bind fun x24 =>
      some (x24.1, x24.2)
    else
      (f_X9_goesRound x16.2).bind fun x29 =>
      (f_X9_sixteen x29 (5 : Int32)).bind fun x37 =>
      (f_X9_lowest x37.2 (x29.2 40 36) x37.1 a1).bind fun x41 =>
      some (x41.1, x41.2)
/-! X9_row -/
def f_X9_row_98_B (k98 : pp_M → Int32 → Int32 → Option (Int32 × pp_M)) (σ : pp_M) (a1 : Int32) (a3 : Int32) : Option (Int32 × pp_M) :=
  if a3 < (σ.1 40 19) then
    if pp_ix (((40 : Int32) * a1) + a3) 160 then
    if pp_ix a3 7 then
    k98 (ppS σ 53 a3.toNatClampNeg (σ.1 69 (((40 : Int32) * a1) + a3).toNatClampNeg)) a1 (a3 + (1 : Int32))
    else none
    else none
  else
    some ((σ.1 40 19), σ)
def f_X9_row_98 : Nat → pp_M → Int32 → Int32 → Option (Int32 × pp_M)
  | 0 => fun _ _ _ => none
  | n + 1 => fun σ a1 a3 => f_X9_row_98_B (f_X9_row_98 n) σ a1 a3
def f_X9_row_29_B (k29 : pp_M → Int32 → Int32 → Int32 → Option (Int32 × pp_M)) (σ : pp_M) (a1 : Int32) (a2 : Int32) (a3 : Int32) : Option (Int32 × pp_M) :=
  if pp_ix a1 4 then
  if a3 < (σ.1 68 a1.toNatClampNeg) then
    if pp_ix (((40 : Int32) * a1) + a3) 160 then
    (f_X9_isFarm σ (σ.1 69 (((40 : Int32) * a1) + a3).toNatClampNeg)).bind fun x54 =>
    if x54.1 = 0 then
      some ((-3 : Int32), x54.2)
    else
      if ((a2 >>> ((σ.1 69 (((40 : Int32) * a1) + a3).toNatClampNeg) &&& 31)) &&& (1 : Int32)) = (1 : Int32) then
        some ((-3 : Int32), x54.2)
      else
        k29 x54.2 a1 (a2 ||| ((1 : Int32) <<< ((σ.1 69 (((40 : Int32) * a1) + a3).toNatClampNeg) &&& 31))) (a3 + (1 : Int32))
    else none
  else
    f_X9_row_98 100000 (ppS σ 40 19 (σ.1 68 a1.toNatClampNeg)) a1 (0 : Int32)
  else none
def f_X9_row_29 : Nat → pp_M → Int32 → Int32 → Int32 → Option (Int32 × pp_M)
  | 0 => fun _ _ _ _ => none
  | n + 1 => fun σ a1 a2 a3 => f_X9_row_29_B (f_X9_row_29 n) σ a1 a2 a3
def f_X9_row (σ : pp_M) (a1 : Int32) : Option (Int32 × pp_M) :=
  (f_X9_isSheet σ a1).bind fun x1 =>
  if x1.1 = 0 then
    some ((-2 : Int32), x1.2)
  else
    if pp_ix a1 4 then
    if (x1.2.1 66 a1.toNatClampNeg) = 0 then
      (f_X9_meets x1.2 (1 : Int32)).bind fun x21 =>
      some (x21.1, x21.2)
    else
      f_X9_row_29 100000 x1.2 a1 (0 : Int32) (0 : Int32)
    else none
/-! X9_set -/
def f_X9_set_109 (σ : pp_M) (a1 : Int32) (a2 : Int32) (a3 : Int32) (b1 : Int32) : Option (Int32 × pp_M) :=
  if a1 = (2 : Int32) then
    some (a3, ppS (ppS σ 40 7 b1) 40 8 a2)
  else
    some (a3, ppS (ppS σ 40 7 b1) 40 8 ((ppS σ 40 7 b1).1 40 8))
def f_X9_set_92 (σ : pp_M) (a1 : Int32) (a2 : Int32) (a3 : Int32) (b1 : Int32) : Option (Int32 × pp_M) :=
  if a1 = (1 : Int32) then
    f_X9_set_109 (ppS σ 40 6 b1) a1 a2 a3 a2
  else
    f_X9_set_109 (ppS σ 40 6 b1) a1 a2 a3 ((ppS σ 40 6 b1).1 40 7)
def f_X9_set_78 (σ : pp_M) (a1 : Int32) (a2 : Int32) (b0 : Int32) : Option (Int32 × pp_M) :=
  if a1 = 0 then
    f_X9_set_92 σ a1 a2 b0 a2
  else
    f_X9_set_92 σ a1 a2 b0 (σ.1 40 6)
def f_X9_set_42 (σ : pp_M) (a1 : Int32) (a2 : Int32) (b0 : Int32) (b1 : Int32) (b2 : Int32) : Option (Int32 × pp_M) :=
  (f_X9_in σ b0 b1 b2).bind fun x42 =>
  if x42.1 = 0 then
    some ((-2 : Int32), x42.2)
  else
    if a1 = 0 then
      f_X9_set_78 x42.2 a1 a2 (x42.2.1 40 6)
    else
      if a1 = (1 : Int32) then
        f_X9_set_78 x42.2 a1 a2 (x42.2.1 40 7)
      else
        f_X9_set_78 x42.2 a1 a2 (x42.2.1 40 8)
def f_X9_set_20 (σ : pp_M) (a1 : Int32) (a2 : Int32) (b0 : Int32) (b1 : Int32) : Option (Int32 × pp_M) :=
  if a1 = 0 then
    f_X9_set_42 σ a1 a2 b0 b1 (200 : Int32)
  else
    if a1 = (1 : Int32) then
      f_X9_set_42 σ a1 a2 b0 b1 (100 : Int32)
    else
      f_X9_set_42 σ a1 a2 b0 b1 (127 : Int32)
def f_X9_set (σ : pp_M) (a1 : Int32) (a2 : Int32) : Option (Int32 × pp_M) :=
  (f_X9_in σ a1 (0 : Int32) (2 : Int32)).bind fun x3 =>
  if x3.1 = 0 then
    some ((-2 : Int32), x3.2)
  else
    if a1 = (2 : Int32) then
      f_X9_set_20 x3.2 a1 a2 a2 (0 : Int32)
    else
      f_X9_set_20 x3.2 a1 a2 a2 (1 : Int32)
/-! X9_sheet -/
def f_X9_sheet_59_B (k59 : pp_M → Int32 → Int32 → Int32 → Option (Int32 × pp_M)) (σ : pp_M) (a1 : Int32) (a3 : Int32) (a4 : Int32) : Option (Int32 × pp_M) :=
  if a4 < (40 : Int32) then
    if pp_ix (((40 : Int32) * a1) + a4) 160 then
    k59 (ppS σ 69 (((40 : Int32) * a1) + a4).toNatClampNeg (0 : Int32)) a1 a3 (a4 + (1 : Int32))
    else none
  else
    some (a3, σ)
def f_X9_sheet_59 : Nat → pp_M → Int32 → Int32 → Int32 → Option (Int32 × pp_M)
  | 0 => fun _ _ _ _ => none
  | n + 1 => fun σ a1 a3 a4 => f_X9_sheet_59_B (f_X9_sheet_59 n) σ a1 a3 a4
def f_X9_sheet (σ : pp_M) (a1 : Int32) (a2 : Int32) (a3 : Int32) : Option (Int32 × pp_M) :=
  (f_X9_isSheet σ a1).bind fun x1 =>
  if x1.1 = 0 then
    some ((-2 : Int32), x1.2)
  else
    (f_X9_in x1.2 a2 (0 : Int32) (2 : Int32)).bind fun x10 =>
    if x10.1 = 0 then
      some ((-2 : Int32), x10.2)
    else
      if (40 : Int32) < a3 then
        some ((-2 : Int32), x10.2)
      else
        if a3 < 0 then
          (f_X9_meets x10.2 (5 : Int32)).bind fun x31 =>
          some (x31.1, x31.2)
        else
          if pp_ix a1 4 then
          f_X9_sheet_59 100000 (ppS (ppS (ppS x10.2 66 a1.toNatClampNeg (1 : Int32)) 67 a1.toNatClampNeg a2) 68 a1.toNatClampNeg a3) a1 a3 (0 : Int32)
          else none
/-! X9_shop -/
def f_X9_shop (σ : pp_M) (a1 : Int32) (a2 : Int32) : Option (Int32 × pp_M) :=
  (f_X9_isThing σ a1).bind fun x1 =>
  if x1.1 = 0 then
    some ((-2 : Int32), x1.2)
  else
    (f_X9_in x1.2 a2 (0 : Int32) (16 : Int32)).bind fun x11 =>
    if x11.1 = 0 then
      some ((-2 : Int32), x11.2)
    else
      if pp_ix a1 6 then
      some ((x11.2.1 48 a1.toNatClampNeg), ppS x11.2 48 a1.toNatClampNeg a2)
      else none
/-! X9_sold -/
def f_X9_sold_252 (σ : pp_M) (a5 : Int32) (b0 : Int64) : Option (Int64 × pp_M) :=
  (f_X9_sixteen σ (σ.1 40 19)).bind fun x256 =>
  (f_X9_lowest x256.2 b0 x256.1 a5).bind fun x261 =>
  some (x261.1, x261.2)
def f_X9_sold_206_B (k206 : pp_M → Int32 → Int32 → Int64 → Int32 → Option (Int64 × pp_M)) (σ : pp_M) (a4 : Int32) (a5 : Int32) (a6 : Int64) (a8 : Int32) : Option (Int64 × pp_M) :=
  if a8 < (5 : Int32) then
    if pp_ix a8 5 then
    k206 σ a4 a5 (a6 + ((a8.toInt64) * (σ.2 58 a8.toNatClampNeg))) (a8 + (1 : Int32))
    else none
  else
    if a4 = (-1 : Int32) then
      f_X9_sold_252 σ a5 a6
    else
      if pp_ix a4 5 then
      f_X9_sold_252 σ a5 (σ.2 58 a4.toNatClampNeg)
      else none
def f_X9_sold_206 : Nat → pp_M → Int32 → Int32 → Int64 → Int32 → Option (Int64 × pp_M)
  | 0 => fun _ _ _ _ _ => none
  | n + 1 => fun σ a4 a5 a6 a8 => f_X9_sold_206_B (f_X9_sold_206 n) σ a4 a5 a6 a8
def f_X9_sold_187 (k86 : pp_M → Int32 → Int32 → Int32 → Int32 → Int32 → Int32 → Option (Int64 × pp_M)) (k114 : pp_M → Int32 → Int32 → Int32 → Int32 → Int32 → Int32 → Int64 → Int32 → Option (Int64 × pp_M)) (σ : pp_M) (a1 : Int32) (a2 : Int32) (a3 : Int32) (a4 : Int32) (a5 : Int32) (a6 : Int32) (a7 : Int64) (a9 : Int32) (b1 : Int32) (b2 : Int64) : Option (Int64 × pp_M) :=
  if pp_ix b1 5 then
  k114 (ppT σ 58 b1.toNatClampNeg b2) a1 a2 a3 a4 a5 a6 a7 (a9 + (-1 : Int32))
  else none
def f_X9_sold_186 (k86 : pp_M → Int32 → Int32 → Int32 → Int32 → Int32 → Int32 → Option (Int64 × pp_M)) (k114 : pp_M → Int32 → Int32 → Int32 → Int32 → Int32 → Int32 → Int64 → Int32 → Option (Int64 × pp_M)) (σ : pp_M) (a1 : Int32) (a2 : Int32) (a3 : Int32) (a4 : Int32) (a5 : Int32) (a6 : Int32) (a7 : Int64) (a9 : Int32) (b1 : Int32) (b2 : Int64) (b3 : Int64) : Option (Int64 × pp_M) :=
  f_X9_sold_187 k86 k114 σ a1 a2 a3 a4 a5 a6 a7 a9 b1 (b2 + b3)
def f_X9_sold_137 (k86 : pp_M → Int32 → Int32 → Int32 → Int32 → Int32 → Int32 → Option (Int64 × pp_M)) (k114 : pp_M → Int32 → Int32 → Int32 → Int32 → Int32 → Int32 → Int64 → Int32 → Option (Int64 × pp_M)) (σ : pp_M) (a1 : Int32) (a2 : Int32) (a3 : Int32) (a4 : Int32) (a5 : Int32) (a6 : Int32) (a7 : Int64) (a9 : Int32) (b0 : Int64) : Option (Int64 × pp_M) :=
  if a2 < a9 then
    f_X9_sold_187 k86 k114 σ a1 a2 a3 a4 a5 a6 a7 a9 a9 (0 : Int64)
  else
    if pp_ix a9 5 then
    if 0 < a9 then
      if pp_ix (a9 - (1 : Int32)) 5 then
      f_X9_sold_186 k86 k114 σ a1 a2 a3 a4 a5 a6 a7 a9 a9 ((σ.2 58 a9.toNatClampNeg) * b0) ((σ.2 58 (a9 - (1 : Int32)).toNatClampNeg) * a7)
      else none
    else
      f_X9_sold_186 k86 k114 σ a1 a2 a3 a4 a5 a6 a7 a9 a9 ((σ.2 58 a9.toNatClampNeg) * b0) (0 : Int64)
    else none
def f_X9_sold_114_B (k86 : pp_M → Int32 → Int32 → Int32 → Int32 → Int32 → Int32 → Option (Int64 × pp_M)) (k114 : pp_M → Int32 → Int32 → Int32 → Int32 → Int32 → Int32 → Int64 → Int32 → Option (Int64 × pp_M)) (σ : pp_M) (a1 : Int32) (a2 : Int32) (a3 : Int32) (a4 : Int32) (a5 : Int32) (a6 : Int32) (a7 : Int64) (a9 : Int32) : Option (Int64 × pp_M) :=
  if a9 < 0 then
    k86 σ a1 a2 a3 a4 a5 (a6 + (1 : Int32))
  else
    if a9 = a2 then
      f_X9_sold_137 k86 k114 σ a1 a2 a3 a4 a5 a6 a7 a9 (16 : Int64)
    else
      f_X9_sold_137 k86 k114 σ a1 a2 a3 a4 a5 a6 a7 a9 ((16 : Int64) - a7)
def f_X9_sold_114 (k86 : pp_M → Int32 → Int32 → Int32 → Int32 → Int32 → Int32 → Option (Int64 × pp_M)) : Nat → pp_M → Int32 → Int32 → Int32 → Int32 → Int32 → Int32 → Int64 → Int32 → Option (Int64 × pp_M)
  | 0 => fun _ _ _ _ _ _ _ _ _ => none
  | n + 1 => fun σ a1 a2 a3 a4 a5 a6 a7 a9 => f_X9_sold_114_B k86 (f_X9_sold_114 k86 n) σ a1 a2 a3 a4 a5 a6 a7 a9
def f_X9_sold_86_B (k86 : pp_M → Int32 → Int32 → Int32 → Int32 → Int32 → Int32 → Option (Int64 × pp_M)) (σ : pp_M) (a1 : Int32) (a2 : Int32) (a3 : Int32) (a4 : Int32) (a5 : Int32) (a6 : Int32) : Option (Int64 × pp_M) :=
  if a6 < (σ.1 40 19) then
    if pp_ix a6 7 then
    (f_X9_chanceNow σ (σ.1 53 a6.toNatClampNeg) a1 a3).bind fun x105 =>
    f_X9_sold_114 k86 100000 x105.2 a1 a2 a3 a4 a5 a6 (x105.1.toInt64) (4 : Int32)
    else none
  else
    f_X9_sold_206 100000 σ a4 a5 (0 : Int64) (1 : Int32)
def f_X9_sold_86 : Nat → pp_M → Int32 → Int32 → Int32 → Int32 → Int32 → Int32 → Option (Int64 × pp_M)
  | 0 => fun _ _ _ _ _ _ _ => none
  | n + 1 => fun σ a1 a2 a3 a4 a5 a6 => f_X9_sold_86_B (f_X9_sold_86 n) σ a1 a2 a3 a4 a5 a6
def f_X9_sold_76 (k54 : pp_M → Int32 → Int32 → Int32 → Int32 → Int32 → Int32 → Option (Int64 × pp_M)) (σ : pp_M) (a1 : Int32) (a2 : Int32) (a3 : Int32) (a4 : Int32) (a5 : Int32) (a6 : Int32) (b1 : Int32) (b2 : Int64) : Option (Int64 × pp_M) :=
  if pp_ix b1 5 then
  k54 (ppT σ 58 b1.toNatClampNeg b2) a1 a2 a3 a4 a5 (a6 + (1 : Int32))
  else none
def f_X9_sold_54_B (k54 : pp_M → Int32 → Int32 → Int32 → Int32 → Int32 → Int32 → Option (Int64 × pp_M)) (σ : pp_M) (a1 : Int32) (a2 : Int32) (a3 : Int32) (a4 : Int32) (a5 : Int32) (a6 : Int32) : Option (Int64 × pp_M) :=
  if a6 < (5 : Int32) then
    if a6 = 0 then
      f_X9_sold_76 k54 σ a1 a2 a3 a4 a5 a6 a6 (1 : Int64)
    else
      f_X9_sold_76 k54 σ a1 a2 a3 a4 a5 a6 a6 (0 : Int64)
  else
    f_X9_sold_86 100000 σ a1 a2 a3 a4 a5 (0 : Int32)
def f_X9_sold_54 : Nat → pp_M → Int32 → Int32 → Int32 → Int32 → Int32 → Int32 → Option (Int64 × pp_M)
  | 0 => fun _ _ _ _ _ _ _ => none
  | n + 1 => fun σ a1 a2 a3 a4 a5 a6 => f_X9_sold_54_B (f_X9_sold_54 n) σ a1 a2 a3 a4 a5 a6
def f_X9_sold_45 (σ : pp_M)  : Option (Int64 × pp_M) :=
  (f_X9_no σ (-2 : Int32)).bind fun x47 =>
  some (x47.1, x47.2)
def f_X9_sold (σ : pp_M) (a1 : Int32) (a2 : Int32) (a3 : Int32) (a4 : Int32) (a5 : Int32) : Option (Int64 × pp_M) :=
  (f_X9_isThing σ a1).bind fun x1 =>
  if x1.1 = 0 then
    f_X9_sold_45 x1.2
  else
    (f_X9_in x1.2 a2 (0 : Int32) (4 : Int32)).bind fun x10 =>
    if x10.1 = 0 then
      f_X9_sold_45 x10.2
    else
      (f_X9_in x10.2 a3 (0 : Int32) (2 : Int32)).bind fun x19 =>
      if x19.1 = 0 then
        f_X9_sold_45 x19.2
      else
        (f_X9_in x19.2 a4 (-1 : Int32) (4 : Int32)).bind fun x29 =>
        if x29.1 = 0 then
          f_X9_sold_45 x29.2
        else
          (f_X9_in x29.2 a5 (0 : Int32) (1 : Int32)).bind fun x39 =>
          if x39.1 = 0 then
            f_X9_sold_45 x39.2
          else
            f_X9_sold_54 100000 x39.2 a1 a2 a3 a4 a5 (0 : Int32)
/-! X9_straps -/
def f_X9_straps (σ : pp_M)  : Option (Int32 × pp_M) :=
  (f_X9_strapsNow σ).bind fun x1 =>
  some (x1.1, x1.2)
/-! X9_thing -/
def f_X9_thing_173 (σ : pp_M) (a1 : Int32) (a2 : Int32) (a3 : Int32) (a6 : Int32) (b1 : Int32) (b2 : Int32) : Option (Int32 × pp_M) :=
  if pp_ix b1 6 then
  if (2 : Int32) < a2 then
    if pp_ix ((((3 : Int32) * a1) + a2) - (3 : Int32)) 18 then
    some (a6, ppS (ppS σ 43 b1.toNatClampNeg b2) 44 ((((3 : Int32) * a1) + a2) - (3 : Int32)).toNatClampNeg a3)
    else none
  else
    some (a6, ppS σ 43 b1.toNatClampNeg b2)
  else none
def f_X9_thing_152 (σ : pp_M) (a1 : Int32) (a2 : Int32) (a3 : Int32) (a6 : Int32) (b1 : Int32) (b2 : Int32) : Option (Int32 × pp_M) :=
  if pp_ix b1 6 then
  if a2 = (2 : Int32) then
    f_X9_thing_173 (ppS σ 42 b1.toNatClampNeg b2) a1 a2 a3 a6 a1 a3
  else
    if pp_ix a1 6 then
    f_X9_thing_173 (ppS σ 42 b1.toNatClampNeg b2) a1 a2 a3 a6 a1 ((ppS σ 42 b1.toNatClampNeg b2).1 43 a1.toNatClampNeg)
    else none
  else none
def f_X9_thing_131 (σ : pp_M) (a1 : Int32) (a2 : Int32) (a3 : Int32) (a6 : Int32) (b1 : Int32) (b2 : Int32) : Option (Int32 × pp_M) :=
  if pp_ix b1 6 then
  if a2 = (1 : Int32) then
    f_X9_thing_152 (ppS σ 41 b1.toNatClampNeg b2) a1 a2 a3 a6 a1 a3
  else
    if pp_ix a1 6 then
    f_X9_thing_152 (ppS σ 41 b1.toNatClampNeg b2) a1 a2 a3 a6 a1 ((ppS σ 41 b1.toNatClampNeg b2).1 42 a1.toNatClampNeg)
    else none
  else none
def f_X9_thing_88 (σ : pp_M) (a1 : Int32) (a2 : Int32) (a3 : Int32) (a4 : Int32) (b0 : Int32) : Option (Int32 × pp_M) :=
  (f_X9_in σ a3 a4 b0).bind fun x95 =>
  if x95.1 = 0 then
    some ((-2 : Int32), x95.2)
  else
    (f_X9_thingNow x95.2 a1 a2).bind fun x107 =>
    if a2 = 0 then
      f_X9_thing_131 x107.2 a1 a2 a3 x107.1 a1 a3
    else
      if pp_ix a1 6 then
      f_X9_thing_131 x107.2 a1 a2 a3 x107.1 a1 (x107.2.1 41 a1.toNatClampNeg)
      else none
def f_X9_thing_86 (σ : pp_M) (a1 : Int32) (a2 : Int32) (a3 : Int32) (a4 : Int32) : Option (Int32 × pp_M) :=
  f_X9_thing_88 σ a1 a2 a3 a4 (99 : Int32)
def f_X9_thing_49 (σ : pp_M) (a1 : Int32) (a2 : Int32) (a3 : Int32) (b0 : Int32) : Option (Int32 × pp_M) :=
  if a2 = (1 : Int32) then
    f_X9_thing_88 σ a1 a2 a3 b0 (20 : Int32)
  else
    if (2 : Int32) < a2 then
      if a2 < (5 : Int32) then
        if pp_ix ((((3 : Int32) * a1) + a2) - (2 : Int32)) 18 then
        f_X9_thing_88 σ a1 a2 a3 b0 (σ.1 44 ((((3 : Int32) * a1) + a2) - (2 : Int32)).toNatClampNeg)
        else none
      else
        f_X9_thing_86 σ a1 a2 a3 b0
    else
      f_X9_thing_86 σ a1 a2 a3 b0
def f_X9_thing (σ : pp_M) (a1 : Int32) (a2 : Int32) (a3 : Int32) : Option (Int32 × pp_M) :=
  (f_X9_isThing σ a1).bind fun x1 =>
  if x1.1 = 0 then
    some ((-2 : Int32), x1.2)
  else
    (f_X9_in x1.2 a2 (0 : Int32) (5 : Int32)).bind fun x10 =>
    if x10.1 = 0 then
      some ((-2 : Int32), x10.2)
    else
      if a2 = (1 : Int32) then
        f_X9_thing_49 x10.2 a1 a2 a3 (1 : Int32)
      else
        if (3 : Int32) < a2 then
          if pp_ix ((((3 : Int32) * a1) + a2) - (4 : Int32)) 18 then
          f_X9_thing_49 x10.2 a1 a2 a3 (x10.2.1 44 ((((3 : Int32) * a1) + a2) - (4 : Int32)).toNatClampNeg)
          else none
        else
          f_X9_thing_49 x10.2 a1 a2 a3 (0 : Int32)
/-! X9_trust -/
def f_X9_trust (σ : pp_M) (a1 : Int32) (a2 : Int32) (a3 : Int32) (a4 : Int32) (a5 : Int32) : Option (Int32 × pp_M) :=
  (f_X9_isThing σ a1).bind fun x1 =>
  if x1.1 = 0 then
    some ((-2 : Int32), x1.2)
  else
    (f_X9_in x1.2 a2 (0 : Int32) ((x1.2.1 40 19) - (1 : Int32))).bind fun x15 =>
    if x15.1 = 0 then
      some ((-2 : Int32), x15.2)
    else
      (f_X9_in x15.2 a3 (1 : Int32) (4 : Int32)).bind fun x24 =>
      if x24.1 = 0 then
        some ((-2 : Int32), x24.2)
      else
        (f_X9_in x24.2 a4 (0 : Int32) (2 : Int32)).bind fun x34 =>
        if x34.1 = 0 then
          some ((-2 : Int32), x34.2)
        else
          (f_X9_in x34.2 a5 (0 : Int32) (16 : Int32)).bind fun x45 =>
          if x45.1 = 0 then
            some ((-2 : Int32), x45.2)
          else
            (f_X9_looksAtRow x45.2).bind fun x55 =>
            if pp_ix (((3 : Int32) * a1) + a4) 18 then
            (f_X9_sixteen x55 (((x55.1 40 19) - (1 : Int32)) - a2)).bind fun x81 =>
            (f_X9_spot x81.2 a1 (a2 + (1 : Int32)) (a3 - (1 : Int32))).bind fun x100 =>
            if pp_ix x100.1 240 then
            (f_X9_spot x100.2 a1 a2 a3).bind fun x117 =>
            if pp_ix x117.1 240 then
            if (x117.2.2 56 x117.1.toNatClampNeg) < (((a5.toInt64) * ((((x55.1 44 (((3 : Int32) * a1) + a4).toNatClampNeg)).toInt64) * x81.1)) + ((16 : Int64) * (x100.2.2 56 x100.1.toNatClampNeg))) then
              some ((1 : Int32), x117.2)
            else
              some ((0 : Int32), x117.2)
            else none
            else none
            else none
/-! X9_two -/
def f_X9_two_82 (k47 : pp_M → Int32 → Int32 → Int32 → Option (Int32 × pp_M)) (σ : pp_M) (a2 : Int32) (a4 : Int32) (b0 : Int32) (b1 : Int32) : Option (Int32 × pp_M) :=
  k47 σ a2 (b0 ||| b1) (a4 + (1 : Int32))
def f_X9_two_47_B (k47 : pp_M → Int32 → Int32 → Int32 → Option (Int32 × pp_M)) (σ : pp_M) (a2 : Int32) (a3 : Int32) (a4 : Int32) : Option (Int32 × pp_M) :=
  if a4 < (σ.1 40 32) then
    if ((a2 >>> (a4 &&& 31)) &&& (1 : Int32)) = (1 : Int32) then
      if pp_ix a4 7 then
      f_X9_two_82 k47 σ a2 a4 a3 ((1 : Int32) <<< (((σ.1 61 a4.toNatClampNeg) - (1 : Int32)) &&& 31))
      else none
    else
      f_X9_two_82 k47 σ a2 a4 a3 (0 : Int32)
  else
    some (a3, σ)
def f_X9_two_47 : Nat → pp_M → Int32 → Int32 → Int32 → Option (Int32 × pp_M)
  | 0 => fun _ _ _ _ => none
  | n + 1 => fun σ a2 a3 a4 => f_X9_two_47_B (f_X9_two_47 n) σ a2 a3 a4
def f_X9_two_41 (σ : pp_M) (b0 : Int32) : Option (Int32 × pp_M) :=
  f_X9_two_47 100000 σ b0 (0 : Int32) (0 : Int32)
def f_X9_two (σ : pp_M) (a1 : Int32) : Option (Int32 × pp_M) :=
  (f_X9_in σ a1 (0 : Int32) (1 : Int32)).bind fun x3 =>
  if x3.1 = 0 then
    some ((-2 : Int32), x3.2)
  else
    (f_X9_gathers x3.2).bind fun x13 =>
    if x13.1 = 0 then
      some ((-4 : Int32), x13.2)
    else
      (f_X9_parted x13.2).bind fun x23 =>
      if a1 = 0 then
        f_X9_two_41 x23 (x23.1 40 38)
      else
        f_X9_two_41 x23 (x23.1 40 39)
/-! X9_type -/
def f_X9_type (σ : pp_M) (a1 : Int32) : Option (Int32 × pp_M) :=
  (f_X9_in σ a1 (0 : Int32) (255 : Int32)).bind fun x5 =>
  if x5.1 = 0 then
    some ((-2 : Int32), x5.2)
  else
    if (x5.2.1 40 11) = (40 : Int32) then
      some ((-4 : Int32), x5.2)
    else
      if pp_ix (x5.2.1 40 11) 40 then
      some (((ppS (ppS x5.2 49 (x5.2.1 40 11).toNatClampNeg a1) 40 11 (((ppS x5.2 49 (x5.2.1 40 11).toNatClampNeg a1).1 40 11) + (1 : Int32))).1 40 11), ppS (ppS x5.2 49 (x5.2.1 40 11).toNatClampNeg a1) 40 11 (((ppS x5.2 49 (x5.2.1 40 11).toNatClampNeg a1).1 40 11) + (1 : Int32)))
      else none
/-! X9_value -/
def f_X9_value_38 (σ : pp_M)  : Option (Int64 × pp_M) :=
  (f_X9_no σ (-2 : Int32)).bind fun x40 =>
  some (x40.1, x40.2)
def f_X9_value (σ : pp_M) (a1 : Int32) (a2 : Int32) (a3 : Int32) (a4 : Int32) : Option (Int64 × pp_M) :=
  (f_X9_isThing σ a1).bind fun x1 =>
  if x1.1 = 0 then
    f_X9_value_38 x1.2
  else
    (f_X9_in x1.2 a2 (0 : Int32) (x1.2.1 40 19)).bind fun x13 =>
    if x13.1 = 0 then
      f_X9_value_38 x13.2
    else
      (f_X9_in x13.2 a3 (0 : Int32) (4 : Int32)).bind fun x22 =>
      if x22.1 = 0 then
        f_X9_value_38 x22.2
      else
        (f_X9_in x22.2 a4 (0 : Int32) (1 : Int32)).bind fun x32 =>
        if x32.1 = 0 then
          f_X9_value_38 x32.2
        else
          (f_X9_looksAtRow x32.2).bind fun x45 =>
          (f_X9_spot x45 a1 a2 a3).bind fun x55 =>
          if pp_ix x55.1 240 then
          (f_X9_sixteen x55.2 ((x55.2.1 40 19) - a2)).bind fun x65 =>
          (f_X9_lowest x65.2 (x55.2.2 56 x55.1.toNatClampNeg) x65.1 a4).bind fun x70 =>
          some (x70.1, x70.2)
          else none
/-! X9_wants -/
def f_X9_wants_23_B (k13 : pp_M → Int32 → Option (Int32 × pp_M)) (k23 : pp_M → Int32 → Int32 → Option (Int32 × pp_M)) (σ : pp_M) (a1 : Int32) (a2 : Int32) : Option (Int32 × pp_M) :=
  if a2 < (3 : Int32) then
    if pp_ix a1 10 then
    (f_X9_place σ (σ.1 50 a1.toNatClampNeg) (σ.1 51 a1.toNatClampNeg)).bind fun x44 =>
    if pp_ix (((3 : Int32) * a1) + a2) 30 then
    if pp_ix (x44.1 + a2) 144 then
    k23 (ppS x44.2 47 (x44.1 + a2).toNatClampNeg (x44.2.1 52 (((3 : Int32) * a1) + a2).toNatClampNeg)) a1 (a2 + (1 : Int32))
    else none
    else none
    else none
  else
    k13 σ (a1 + (1 : Int32))
def f_X9_wants_23 (k13 : pp_M → Int32 → Option (Int32 × pp_M)) : Nat → pp_M → Int32 → Int32 → Option (Int32 × pp_M)
  | 0 => fun _ _ _ => none
  | n + 1 => fun σ a1 a2 => f_X9_wants_23_B k13 (f_X9_wants_23 k13 n) σ a1 a2
def f_X9_wants_13_B (k13 : pp_M → Int32 → Option (Int32 × pp_M)) (σ : pp_M) (a1 : Int32) : Option (Int32 × pp_M) :=
  if a1 < (σ.1 40 15) then
    f_X9_wants_23 k13 100000 σ a1 (0 : Int32)
  else
    some (((ppS σ 40 11 (0 : Int32)).1 40 15), ppS σ 40 11 (0 : Int32))
def f_X9_wants_13 : Nat → pp_M → Int32 → Option (Int32 × pp_M)
  | 0 => fun _ _ => none
  | n + 1 => fun σ a1 => f_X9_wants_13_B (f_X9_wants_13 n) σ a1
def f_X9_wants (σ : pp_M)  : Option (Int32 × pp_M) :=
  (f_X9_faultNow σ).bind fun x1 =>
  if x1.1 = (-1 : Int32) then
    f_X9_wants_13 100000 x1.2 (0 : Int32)
  else
    some ((-3 : Int32), x1.2)
/-! X9_way -/
def f_X9_way (σ : pp_M) (a1 : Int32) (a2 : Int32) : Option (Int32 × pp_M) :=
  (f_X9_isPlace σ a1).bind fun x1 =>
  if x1.1 = 0 then
    some ((-2 : Int32), x1.2)
  else
    (f_X9_isPlace x1.2 a2).bind fun x8 =>
    if x8.1 = 0 then
      some ((-2 : Int32), x8.2)
    else
      (f_X9_laysWays x8.2).bind fun x18 =>
      if pp_ix (((8 : Int32) * a1) + a2) 64 then
      some ((x18.1 46 (((8 : Int32) * a1) + a2).toNatClampNeg), x18)
      else none
/-! X9_wipe -/
def f_X9_wipe (σ : pp_M)  : Option (Int32 × pp_M) :=
  some ((σ.1 40 11), ppS σ 40 11 (0 : Int32))
/-! X9_write -/
def f_X9_write_36_B (k36 : pp_M → Int32 → Int32 → Option (Int32 × pp_M)) (σ : pp_M) (a1 : Int32) (a2 : Int32) : Option (Int32 × pp_M) :=
  if a2 < (6 : Int32) then
    if pp_ix a1 4 then
    if a2 < (σ.1 68 a1.toNatClampNeg) then
      if pp_ix a2 6 then
      (f_X9_keep σ a1 a2 (σ.1 59 a2.toNatClampNeg)).bind fun x61 =>
      k36 x61 a1 (a2 + (1 : Int32))
      else none
    else
      some (a2, σ)
    else none
  else
    some (a2, σ)
def f_X9_write_36 : Nat → pp_M → Int32 → Int32 → Option (Int32 × pp_M)
  | 0 => fun _ _ _ => none
  | n + 1 => fun σ a1 a2 => f_X9_write_36_B (f_X9_write_36 n) σ a1 a2
def f_X9_write (σ : pp_M) (a1 : Int32) : Option (Int32 × pp_M) :=
  (f_X9_isSheet σ a1).bind fun x1 =>
  if x1.1 = 0 then
    some ((-2 : Int32), x1.2)
  else
    if pp_ix a1 4 then
    if (x1.2.1 66 a1.toNatClampNeg) = 0 then
      (f_X9_meets x1.2 (1 : Int32)).bind fun x21 =>
      some (x21.1, x21.2)
    else
      (f_X9_looksAtRow x1.2).bind fun x26 =>
      (f_X9_packs x26 (-1 : Int32)).bind fun x31 =>
      f_X9_write_36 100000 x31 a1 (0 : Int32)
    else none
end
