section
-- ===== PART A: goes FIRST, ahead of the names: the tables' words, and 'selects' of the private methods out of them =====
/-- a private method of a class that the tables say can be made, by its rows of tables_1 -/
def lw_okq (q : MethodName × Nat) : Prop := (q.1.cls ≠ "java/lang/invoke/MethodHandle" ∧ q.1.cls ≠ "java/lang/invoke/VarHandle") ∧ Cond.instantiable q.1.cls q.2 ∈ tables_1 ∧ Cond.privateMethod q.1 ∈ tables_1 ∧ Cond.instanceMethod q.1 ∈ tables_1
theorem lw_p0 : lw_okq (⟨"PedlarPack$Land", "findWays", "()V"⟩, 2) := ⟨⟨by decide +kernel, by decide +kernel⟩, List.mem_of_getElem? (i := 39) (by decide +kernel), List.mem_of_getElem? (i := 46) (by decide +kernel), List.mem_of_getElem? (i := 47) (by decide +kernel)⟩
theorem lw_p1 : lw_okq (⟨"PedlarPack$Line", "readPart", "(I)I"⟩, 6) := ⟨⟨by decide +kernel, by decide +kernel⟩, List.mem_of_getElem? (i := 78) (by decide +kernel), List.mem_of_getElem? (i := 351) (by decide +kernel), List.mem_of_getElem? (i := 352) (by decide +kernel)⟩
theorem lw_p2 : lw_okq (⟨"PedlarPack$Line", "figureAt", "(I)I"⟩, 6) := ⟨⟨by decide +kernel, by decide +kernel⟩, List.mem_of_getElem? (i := 78) (by decide +kernel), List.mem_of_getElem? (i := 355) (by decide +kernel), List.mem_of_getElem? (i := 356) (by decide +kernel)⟩
theorem lw_p3 : lw_okq (⟨"PedlarPack$Line", "isAt", "(IC)Z"⟩, 6) := ⟨⟨by decide +kernel, by decide +kernel⟩, List.mem_of_getElem? (i := 78) (by decide +kernel), List.mem_of_getElem? (i := 363) (by decide +kernel), List.mem_of_getElem? (i := 364) (by decide +kernel)⟩
theorem lw_p4 : lw_okq (⟨"PedlarPack$Line", "readChances", "(I)I"⟩, 6) := ⟨⟨by decide +kernel, by decide +kernel⟩, List.mem_of_getElem? (i := 78) (by decide +kernel), List.mem_of_getElem? (i := 368) (by decide +kernel), List.mem_of_getElem? (i := 369) (by decide +kernel)⟩
theorem lw_p5 : lw_okq (⟨"PedlarPack$Doors", "meanAsked", "(IIIII)J"⟩, 4) := ⟨⟨by decide +kernel, by decide +kernel⟩, List.mem_of_getElem? (i := 128) (by decide +kernel), List.mem_of_getElem? (i := 501) (by decide +kernel), List.mem_of_getElem? (i := 502) (by decide +kernel)⟩
theorem lw_p6 : lw_okq (⟨"PedlarPack", "weighUp", "()V"⟩, 14) := ⟨⟨by decide +kernel, by decide +kernel⟩, List.mem_of_getElem? (i := 15) (by decide +kernel), List.mem_of_getElem? (i := 514) (by decide +kernel), List.mem_of_getElem? (i := 515) (by decide +kernel)⟩
theorem lw_p7 : lw_okq (⟨"PedlarPack$Packer", "fillMost", "(III)V"⟩, 9) := ⟨⟨by decide +kernel, by decide +kernel⟩, List.mem_of_getElem? (i := 153) (by decide +kernel), List.mem_of_getElem? (i := 539) (by decide +kernel), List.mem_of_getElem? (i := 540) (by decide +kernel)⟩
theorem lw_p8 : lw_okq (⟨"PedlarPack$Packer", "leastNumber", "(II)I"⟩, 9) := ⟨⟨by decide +kernel, by decide +kernel⟩, List.mem_of_getElem? (i := 153) (by decide +kernel), List.mem_of_getElem? (i := 546) (by decide +kernel), List.mem_of_getElem? (i := 547) (by decide +kernel)⟩
theorem lw_p9 : lw_okq (⟨"PedlarPack", "numberOrWeight", "([II)I"⟩, 14) := ⟨⟨by decide +kernel, by decide +kernel⟩, List.mem_of_getElem? (i := 15) (by decide +kernel), List.mem_of_getElem? (i := 550) (by decide +kernel), List.mem_of_getElem? (i := 551) (by decide +kernel)⟩
theorem lw_p10 : lw_okq (⟨"PedlarPack", "loadTerm", "(II)J"⟩, 14) := ⟨⟨by decide +kernel, by decide +kernel⟩, List.mem_of_getElem? (i := 15) (by decide +kernel), List.mem_of_getElem? (i := 558) (by decide +kernel), List.mem_of_getElem? (i := 559) (by decide +kernel)⟩
theorem lw_p11 : lw_okq (⟨"PedlarPack$Packer", "nextLoaded", "(I)I"⟩, 9) := ⟨⟨by decide +kernel, by decide +kernel⟩, List.mem_of_getElem? (i := 153) (by decide +kernel), List.mem_of_getElem? (i := 567) (by decide +kernel), List.mem_of_getElem? (i := 568) (by decide +kernel)⟩
theorem lw_p12 : lw_okq (⟨"PedlarPack$Packer", "stepGain", "(II)J"⟩, 9) := ⟨⟨by decide +kernel, by decide +kernel⟩, List.mem_of_getElem? (i := 153) (by decide +kernel), List.mem_of_getElem? (i := 571) (by decide +kernel), List.mem_of_getElem? (i := 572) (by decide +kernel)⟩
theorem lw_p13 : lw_okq (⟨"PedlarPack$Packer", "nextStep", "()I"⟩, 9) := ⟨⟨by decide +kernel, by decide +kernel⟩, List.mem_of_getElem? (i := 153) (by decide +kernel), List.mem_of_getElem? (i := 579) (by decide +kernel), List.mem_of_getElem? (i := 580) (by decide +kernel)⟩
theorem lw_p14 : lw_okq (⟨"PedlarPack", "tooManyOpen", "()Z"⟩, 14) := ⟨⟨by decide +kernel, by decide +kernel⟩, List.mem_of_getElem? (i := 15) (by decide +kernel), List.mem_of_getElem? (i := 591) (by decide +kernel), List.mem_of_getElem? (i := 592) (by decide +kernel)⟩
theorem lw_p15 : lw_okq (⟨"PedlarPack$Rounds", "clear", "()V"⟩, 15) := ⟨⟨by decide +kernel, by decide +kernel⟩, List.mem_of_getElem? (i := 193) (by decide +kernel), List.mem_of_getElem? (i := 605) (by decide +kernel), List.mem_of_getElem? (i := 606) (by decide +kernel)⟩
def lw_privs_1 : List (MethodName × Nat) := [(⟨"PedlarPack$Land", "findWays", "()V"⟩, 2), (⟨"PedlarPack$Line", "readPart", "(I)I"⟩, 6), (⟨"PedlarPack$Line", "figureAt", "(I)I"⟩, 6), (⟨"PedlarPack$Line", "isAt", "(IC)Z"⟩, 6), (⟨"PedlarPack$Line", "readChances", "(I)I"⟩, 6), (⟨"PedlarPack$Doors", "meanAsked", "(IIIII)J"⟩, 4), (⟨"PedlarPack", "weighUp", "()V"⟩, 14), (⟨"PedlarPack$Packer", "fillMost", "(III)V"⟩, 9), (⟨"PedlarPack$Packer", "leastNumber", "(II)I"⟩, 9), (⟨"PedlarPack", "numberOrWeight", "([II)I"⟩, 14), (⟨"PedlarPack", "loadTerm", "(II)J"⟩, 14), (⟨"PedlarPack$Packer", "nextLoaded", "(I)I"⟩, 9), (⟨"PedlarPack$Packer", "stepGain", "(II)J"⟩, 9), (⟨"PedlarPack$Packer", "nextStep", "()I"⟩, 9), (⟨"PedlarPack", "tooManyOpen", "()Z"⟩, 14), (⟨"PedlarPack$Rounds", "clear", "()V"⟩, 15)]
theorem lw_r1 : ∀ q ∈ lw_privs_1, lw_okq q := List.forall_mem_cons.mpr ⟨lw_p0, List.forall_mem_cons.mpr ⟨lw_p1, List.forall_mem_cons.mpr ⟨lw_p2, List.forall_mem_cons.mpr ⟨lw_p3, List.forall_mem_cons.mpr ⟨lw_p4, List.forall_mem_cons.mpr ⟨lw_p5, List.forall_mem_cons.mpr ⟨lw_p6, List.forall_mem_cons.mpr ⟨lw_p7, List.forall_mem_cons.mpr ⟨lw_p8, List.forall_mem_cons.mpr ⟨lw_p9, List.forall_mem_cons.mpr ⟨lw_p10, List.forall_mem_cons.mpr ⟨lw_p11, List.forall_mem_cons.mpr ⟨lw_p12, List.forall_mem_cons.mpr ⟨lw_p13, List.forall_mem_cons.mpr ⟨lw_p14, List.forall_mem_cons.mpr ⟨lw_p15, fun _ h => absurd h List.not_mem_nil⟩⟩⟩⟩⟩⟩⟩⟩⟩⟩⟩⟩⟩⟩⟩⟩
theorem lw_p16 : lw_okq (⟨"PedlarPack$Rounds", "lengthen", "(IIIII)V"⟩, 15) := ⟨⟨by decide +kernel, by decide +kernel⟩, List.mem_of_getElem? (i := 193) (by decide +kernel), List.mem_of_getElem? (i := 611) (by decide +kernel), List.mem_of_getElem? (i := 612) (by decide +kernel)⟩
theorem lw_p17 : lw_okq (⟨"PedlarPack$Rounds", "judge", "(III)V"⟩, 15) := ⟨⟨by decide +kernel, by decide +kernel⟩, List.mem_of_getElem? (i := 193) (by decide +kernel), List.mem_of_getElem? (i := 615) (by decide +kernel), List.mem_of_getElem? (i := 616) (by decide +kernel)⟩
theorem lw_p18 : lw_okq (⟨"PedlarPack$Rounds", "valueOfPack", "([J)J"⟩, 15) := ⟨⟨by decide +kernel, by decide +kernel⟩, List.mem_of_getElem? (i := 193) (by decide +kernel), List.mem_of_getElem? (i := 619) (by decide +kernel), List.mem_of_getElem? (i := 620) (by decide +kernel)⟩
theorem lw_p19 : lw_okq (⟨"PedlarPack$Rounds", "keep", "(IIJ)V"⟩, 15) := ⟨⟨by decide +kernel, by decide +kernel⟩, List.mem_of_getElem? (i := 193) (by decide +kernel), List.mem_of_getElem? (i := 623) (by decide +kernel), List.mem_of_getElem? (i := 624) (by decide +kernel)⟩
theorem lw_p20 : lw_okq (⟨"PedlarPack$Rounds", "isBetter", "(IIJ)Z"⟩, 15) := ⟨⟨by decide +kernel, by decide +kernel⟩, List.mem_of_getElem? (i := 193) (by decide +kernel), List.mem_of_getElem? (i := 627) (by decide +kernel), List.mem_of_getElem? (i := 628) (by decide +kernel)⟩
theorem lw_p21 : lw_okq (⟨"PedlarPack$Rounds", "partWith", "(II)V"⟩, 15) := ⟨⟨by decide +kernel, by decide +kernel⟩, List.mem_of_getElem? (i := 193) (by decide +kernel), List.mem_of_getElem? (i := 682) (by decide +kernel), List.mem_of_getElem? (i := 683) (by decide +kernel)⟩
theorem lw_p22 : lw_okq (⟨"PedlarPackModel", "thingNow", "(II)I"⟩, 48) := ⟨⟨by decide +kernel, by decide +kernel⟩, List.mem_of_getElem? (i := 773) (by decide +kernel), List.mem_of_getElem? (i := 934) (by decide +kernel), List.mem_of_getElem? (i := 935) (by decide +kernel)⟩
theorem lw_p23 : lw_okq (⟨"PedlarPackModel", "laysWays", "()V"⟩, 48) := ⟨⟨by decide +kernel, by decide +kernel⟩, List.mem_of_getElem? (i := 773) (by decide +kernel), List.mem_of_getElem? (i := 949) (by decide +kernel), List.mem_of_getElem? (i := 950) (by decide +kernel)⟩
theorem lw_p24 : lw_okq (⟨"PedlarPackModel", "faultNow", "()I"⟩, 48) := ⟨⟨by decide +kernel, by decide +kernel⟩, List.mem_of_getElem? (i := 773) (by decide +kernel), List.mem_of_getElem? (i := 969) (by decide +kernel), List.mem_of_getElem? (i := 970) (by decide +kernel)⟩
theorem lw_p25 : lw_okq (⟨"PedlarPackModel", "part", "()V"⟩, 48) := ⟨⟨by decide +kernel, by decide +kernel⟩, List.mem_of_getElem? (i := 773) (by decide +kernel), List.mem_of_getElem? (i := 973) (by decide +kernel), List.mem_of_getElem? (i := 974) (by decide +kernel)⟩
theorem lw_p26 : lw_okq (⟨"PedlarPackModel", "number", "(III)I"⟩, 48) := ⟨⟨by decide +kernel, by decide +kernel⟩, List.mem_of_getElem? (i := 773) (by decide +kernel), List.mem_of_getElem? (i := 977) (by decide +kernel), List.mem_of_getElem? (i := 978) (by decide +kernel)⟩
theorem lw_p27 : lw_okq (⟨"PedlarPackModel", "byteNow", "()I"⟩, 48) := ⟨⟨by decide +kernel, by decide +kernel⟩, List.mem_of_getElem? (i := 773) (by decide +kernel), List.mem_of_getElem? (i := 981) (by decide +kernel), List.mem_of_getElem? (i := 982) (by decide +kernel)⟩
theorem lw_p28 : lw_okq (⟨"PedlarPackModel", "expects", "(I)V"⟩, 48) := ⟨⟨by decide +kernel, by decide +kernel⟩, List.mem_of_getElem? (i := 773) (by decide +kernel), List.mem_of_getElem? (i := 985) (by decide +kernel), List.mem_of_getElem? (i := 986) (by decide +kernel)⟩
theorem lw_p29 : lw_okq (⟨"PedlarPackModel", "meets", "(I)I"⟩, 48) := ⟨⟨by decide +kernel, by decide +kernel⟩, List.mem_of_getElem? (i := 773) (by decide +kernel), List.mem_of_getElem? (i := 1006) (by decide +kernel), List.mem_of_getElem? (i := 1007) (by decide +kernel)⟩
theorem lw_p30 : lw_okq (⟨"PedlarPackModel", "chanceNow", "(III)I"⟩, 48) := ⟨⟨by decide +kernel, by decide +kernel⟩, List.mem_of_getElem? (i := 773) (by decide +kernel), List.mem_of_getElem? (i := 1014) (by decide +kernel), List.mem_of_getElem? (i := 1015) (by decide +kernel)⟩
theorem lw_p31 : lw_okq (⟨"PedlarPackModel", "packWeight", "()I"⟩, 48) := ⟨⟨by decide +kernel, by decide +kernel⟩, List.mem_of_getElem? (i := 773) (by decide +kernel), List.mem_of_getElem? (i := 1030) (by decide +kernel), List.mem_of_getElem? (i := 1031) (by decide +kernel)⟩
def lw_privs_2 : List (MethodName × Nat) := [(⟨"PedlarPack$Rounds", "lengthen", "(IIIII)V"⟩, 15), (⟨"PedlarPack$Rounds", "judge", "(III)V"⟩, 15), (⟨"PedlarPack$Rounds", "valueOfPack", "([J)J"⟩, 15), (⟨"PedlarPack$Rounds", "keep", "(IIJ)V"⟩, 15), (⟨"PedlarPack$Rounds", "isBetter", "(IIJ)Z"⟩, 15), (⟨"PedlarPack$Rounds", "partWith", "(II)V"⟩, 15), (⟨"PedlarPackModel", "thingNow", "(II)I"⟩, 48), (⟨"PedlarPackModel", "laysWays", "()V"⟩, 48), (⟨"PedlarPackModel", "faultNow", "()I"⟩, 48), (⟨"PedlarPackModel", "part", "()V"⟩, 48), (⟨"PedlarPackModel", "number", "(III)I"⟩, 48), (⟨"PedlarPackModel", "byteNow", "()I"⟩, 48), (⟨"PedlarPackModel", "expects", "(I)V"⟩, 48), (⟨"PedlarPackModel", "meets", "(I)I"⟩, 48), (⟨"PedlarPackModel", "chanceNow", "(III)I"⟩, 48), (⟨"PedlarPackModel", "packWeight", "()I"⟩, 48)]
theorem lw_r2 : ∀ q ∈ lw_privs_2, lw_okq q := List.forall_mem_cons.mpr ⟨lw_p16, List.forall_mem_cons.mpr ⟨lw_p17, List.forall_mem_cons.mpr ⟨lw_p18, List.forall_mem_cons.mpr ⟨lw_p19, List.forall_mem_cons.mpr ⟨lw_p20, List.forall_mem_cons.mpr ⟨lw_p21, List.forall_mem_cons.mpr ⟨lw_p22, List.forall_mem_cons.mpr ⟨lw_p23, List.forall_mem_cons.mpr ⟨lw_p24, List.forall_mem_cons.mpr ⟨lw_p25, List.forall_mem_cons.mpr ⟨lw_p26, List.forall_mem_cons.mpr ⟨lw_p27, List.forall_mem_cons.mpr ⟨lw_p28, List.forall_mem_cons.mpr ⟨lw_p29, List.forall_mem_cons.mpr ⟨lw_p30, List.forall_mem_cons.mpr ⟨lw_p31, fun _ h => absurd h List.not_mem_nil⟩⟩⟩⟩⟩⟩⟩⟩⟩⟩⟩⟩⟩⟩⟩⟩
theorem lw_p32 : lw_okq (⟨"PedlarPackModel", "hoursNow", "()I"⟩, 48) := ⟨⟨by decide +kernel, by decide +kernel⟩, List.mem_of_getElem? (i := 773) (by decide +kernel), List.mem_of_getElem? (i := 1038) (by decide +kernel), List.mem_of_getElem? (i := 1039) (by decide +kernel)⟩
theorem lw_p33 : lw_okq (⟨"PedlarPackModel", "looksAtRow", "()V"⟩, 48) := ⟨⟨by decide +kernel, by decide +kernel⟩, List.mem_of_getElem? (i := 773) (by decide +kernel), List.mem_of_getElem? (i := 1042) (by decide +kernel), List.mem_of_getElem? (i := 1043) (by decide +kernel)⟩
theorem lw_p34 : lw_okq (⟨"PedlarPackModel", "laysWorth", "()V"⟩, 48) := ⟨⟨by decide +kernel, by decide +kernel⟩, List.mem_of_getElem? (i := 773) (by decide +kernel), List.mem_of_getElem? (i := 1046) (by decide +kernel), List.mem_of_getElem? (i := 1047) (by decide +kernel)⟩
theorem lw_p35 : lw_okq (⟨"PedlarPackModel", "hoursFrom", "(I)I"⟩, 48) := ⟨⟨by decide +kernel, by decide +kernel⟩, List.mem_of_getElem? (i := 773) (by decide +kernel), List.mem_of_getElem? (i := 1057) (by decide +kernel), List.mem_of_getElem? (i := 1058) (by decide +kernel)⟩
theorem lw_p36 : lw_okq (⟨"PedlarPackModel", "judgedNow", "()I"⟩, 48) := ⟨⟨by decide +kernel, by decide +kernel⟩, List.mem_of_getElem? (i := 773) (by decide +kernel), List.mem_of_getElem? (i := 1065) (by decide +kernel), List.mem_of_getElem? (i := 1066) (by decide +kernel)⟩
theorem lw_p37 : lw_okq (⟨"PedlarPackModel", "gainNow", "()J"⟩, 48) := ⟨⟨by decide +kernel, by decide +kernel⟩, List.mem_of_getElem? (i := 773) (by decide +kernel), List.mem_of_getElem? (i := 1092) (by decide +kernel), List.mem_of_getElem? (i := 1093) (by decide +kernel)⟩
theorem lw_p38 : lw_okq (⟨"PedlarPackModel", "gainOf", "(II)J"⟩, 48) := ⟨⟨by decide +kernel, by decide +kernel⟩, List.mem_of_getElem? (i := 773) (by decide +kernel), List.mem_of_getElem? (i := 1096) (by decide +kernel), List.mem_of_getElem? (i := 1097) (by decide +kernel)⟩
theorem lw_p39 : lw_okq (⟨"PedlarPackModel", "bestNow", "(I)I"⟩, 48) := ⟨⟨by decide +kernel, by decide +kernel⟩, List.mem_of_getElem? (i := 773) (by decide +kernel), List.mem_of_getElem? (i := 1104) (by decide +kernel), List.mem_of_getElem? (i := 1105) (by decide +kernel)⟩
theorem lw_p40 : lw_okq (⟨"PedlarPackModel", "packs", "(I)V"⟩, 48) := ⟨⟨by decide +kernel, by decide +kernel⟩, List.mem_of_getElem? (i := 773) (by decide +kernel), List.mem_of_getElem? (i := 1108) (by decide +kernel), List.mem_of_getElem? (i := 1109) (by decide +kernel)⟩
theorem lw_p41 : lw_okq (⟨"PedlarPackModel", "weightOf", "(II)I"⟩, 48) := ⟨⟨by decide +kernel, by decide +kernel⟩, List.mem_of_getElem? (i := 773) (by decide +kernel), List.mem_of_getElem? (i := 1113) (by decide +kernel), List.mem_of_getElem? (i := 1114) (by decide +kernel)⟩
theorem lw_p42 : lw_okq (⟨"PedlarPackModel", "loadedNow", "(I)I"⟩, 48) := ⟨⟨by decide +kernel, by decide +kernel⟩, List.mem_of_getElem? (i := 773) (by decide +kernel), List.mem_of_getElem? (i := 1121) (by decide +kernel), List.mem_of_getElem? (i := 1122) (by decide +kernel)⟩
theorem lw_p43 : lw_okq (⟨"PedlarPackModel", "loads", "()V"⟩, 48) := ⟨⟨by decide +kernel, by decide +kernel⟩, List.mem_of_getElem? (i := 773) (by decide +kernel), List.mem_of_getElem? (i := 1125) (by decide +kernel), List.mem_of_getElem? (i := 1126) (by decide +kernel)⟩
theorem lw_p44 : lw_okq (⟨"PedlarPackModel", "loadNow", "(II)J"⟩, 48) := ⟨⟨by decide +kernel, by decide +kernel⟩, List.mem_of_getElem? (i := 773) (by decide +kernel), List.mem_of_getElem? (i := 1133) (by decide +kernel), List.mem_of_getElem? (i := 1134) (by decide +kernel)⟩
theorem lw_p45 : lw_okq (⟨"PedlarPackModel", "boundNow", "(I)J"⟩, 48) := ⟨⟨by decide +kernel, by decide +kernel⟩, List.mem_of_getElem? (i := 773) (by decide +kernel), List.mem_of_getElem? (i := 1137) (by decide +kernel), List.mem_of_getElem? (i := 1138) (by decide +kernel)⟩
theorem lw_p46 : lw_okq (⟨"PedlarPackModel", "gathers", "()Z"⟩, 48) := ⟨⟨by decide +kernel, by decide +kernel⟩, List.mem_of_getElem? (i := 773) (by decide +kernel), List.mem_of_getElem? (i := 1145) (by decide +kernel), List.mem_of_getElem? (i := 1146) (by decide +kernel)⟩
theorem lw_p47 : lw_okq (⟨"PedlarPackModel", "goesRound", "()V"⟩, 48) := ⟨⟨by decide +kernel, by decide +kernel⟩, List.mem_of_getElem? (i := 773) (by decide +kernel), List.mem_of_getElem? (i := 1149) (by decide +kernel), List.mem_of_getElem? (i := 1150) (by decide +kernel)⟩
def lw_privs_3 : List (MethodName × Nat) := [(⟨"PedlarPackModel", "hoursNow", "()I"⟩, 48), (⟨"PedlarPackModel", "looksAtRow", "()V"⟩, 48), (⟨"PedlarPackModel", "laysWorth", "()V"⟩, 48), (⟨"PedlarPackModel", "hoursFrom", "(I)I"⟩, 48), (⟨"PedlarPackModel", "judgedNow", "()I"⟩, 48), (⟨"PedlarPackModel", "gainNow", "()J"⟩, 48), (⟨"PedlarPackModel", "gainOf", "(II)J"⟩, 48), (⟨"PedlarPackModel", "bestNow", "(I)I"⟩, 48), (⟨"PedlarPackModel", "packs", "(I)V"⟩, 48), (⟨"PedlarPackModel", "weightOf", "(II)I"⟩, 48), (⟨"PedlarPackModel", "loadedNow", "(I)I"⟩, 48), (⟨"PedlarPackModel", "loads", "()V"⟩, 48), (⟨"PedlarPackModel", "loadNow", "(II)J"⟩, 48), (⟨"PedlarPackModel", "boundNow", "(I)J"⟩, 48), (⟨"PedlarPackModel", "gathers", "()Z"⟩, 48), (⟨"PedlarPackModel", "goesRound", "()V"⟩, 48)]
theorem lw_r3 : ∀ q ∈ lw_privs_3, lw_okq q := List.forall_mem_cons.mpr ⟨lw_p32, List.forall_mem_cons.mpr ⟨lw_p33, List.forall_mem_cons.mpr ⟨lw_p34, List.forall_mem_cons.mpr ⟨lw_p35, List.forall_mem_cons.mpr ⟨lw_p36, List.forall_mem_cons.mpr ⟨lw_p37, List.forall_mem_cons.mpr ⟨lw_p38, List.forall_mem_cons.mpr ⟨lw_p39, List.forall_mem_cons.mpr ⟨lw_p40, List.forall_mem_cons.mpr ⟨lw_p41, List.forall_mem_cons.mpr ⟨lw_p42, List.forall_mem_cons.mpr ⟨lw_p43, List.forall_mem_cons.mpr ⟨lw_p44, List.forall_mem_cons.mpr ⟨lw_p45, List.forall_mem_cons.mpr ⟨lw_p46, List.forall_mem_cons.mpr ⟨lw_p47, fun _ h => absurd h List.not_mem_nil⟩⟩⟩⟩⟩⟩⟩⟩⟩⟩⟩⟩⟩⟩⟩⟩
theorem lw_p48 : lw_okq (⟨"PedlarPackModel", "looksAt", "(II)I"⟩, 48) := ⟨⟨by decide +kernel, by decide +kernel⟩, List.mem_of_getElem? (i := 773) (by decide +kernel), List.mem_of_getElem? (i := 1156) (by decide +kernel), List.mem_of_getElem? (i := 1157) (by decide +kernel)⟩
theorem lw_p49 : lw_okq (⟨"PedlarPackModel", "mostGain", "()J"⟩, 48) := ⟨⟨by decide +kernel, by decide +kernel⟩, List.mem_of_getElem? (i := 773) (by decide +kernel), List.mem_of_getElem? (i := 1160) (by decide +kernel), List.mem_of_getElem? (i := 1161) (by decide +kernel)⟩
theorem lw_p50 : lw_okq (⟨"PedlarPackModel", "parted", "()V"⟩, 48) := ⟨⟨by decide +kernel, by decide +kernel⟩, List.mem_of_getElem? (i := 773) (by decide +kernel), List.mem_of_getElem? (i := 1180) (by decide +kernel), List.mem_of_getElem? (i := 1181) (by decide +kernel)⟩
theorem lw_p51 : lw_okq (⟨"PedlarPackModel", "bringsNow", "(I)J"⟩, 48) := ⟨⟨by decide +kernel, by decide +kernel⟩, List.mem_of_getElem? (i := 773) (by decide +kernel), List.mem_of_getElem? (i := 1192) (by decide +kernel), List.mem_of_getElem? (i := 1193) (by decide +kernel)⟩
theorem lw_p52 : lw_okq (⟨"PedlarPackModel", "strapsNow", "()I"⟩, 48) := ⟨⟨by decide +kernel, by decide +kernel⟩, List.mem_of_getElem? (i := 773) (by decide +kernel), List.mem_of_getElem? (i := 1200) (by decide +kernel), List.mem_of_getElem? (i := 1201) (by decide +kernel)⟩
theorem lw_p53 : lw_okq (⟨"PedlarPackModel", "lacks", "(III)I"⟩, 48) := ⟨⟨by decide +kernel, by decide +kernel⟩, List.mem_of_getElem? (i := 773) (by decide +kernel), List.mem_of_getElem? (i := 1216) (by decide +kernel), List.mem_of_getElem? (i := 1217) (by decide +kernel)⟩
theorem lw_p54 : lw_okq (⟨"PedlarPackModel", "keep", "(III)V"⟩, 48) := ⟨⟨by decide +kernel, by decide +kernel⟩, List.mem_of_getElem? (i := 773) (by decide +kernel), List.mem_of_getElem? (i := 1220) (by decide +kernel), List.mem_of_getElem? (i := 1221) (by decide +kernel)⟩
theorem lw_p55 : lw_okq (⟨"PedlarPackModel", "countNow", "(I)I"⟩, 48) := ⟨⟨by decide +kernel, by decide +kernel⟩, List.mem_of_getElem? (i := 773) (by decide +kernel), List.mem_of_getElem? (i := 1241) (by decide +kernel), List.mem_of_getElem? (i := 1242) (by decide +kernel)⟩
def lw_privs_4 : List (MethodName × Nat) := [(⟨"PedlarPackModel", "looksAt", "(II)I"⟩, 48), (⟨"PedlarPackModel", "mostGain", "()J"⟩, 48), (⟨"PedlarPackModel", "parted", "()V"⟩, 48), (⟨"PedlarPackModel", "bringsNow", "(I)J"⟩, 48), (⟨"PedlarPackModel", "strapsNow", "()I"⟩, 48), (⟨"PedlarPackModel", "lacks", "(III)I"⟩, 48), (⟨"PedlarPackModel", "keep", "(III)V"⟩, 48), (⟨"PedlarPackModel", "countNow", "(I)I"⟩, 48)]
theorem lw_r4 : ∀ q ∈ lw_privs_4, lw_okq q := List.forall_mem_cons.mpr ⟨lw_p48, List.forall_mem_cons.mpr ⟨lw_p49, List.forall_mem_cons.mpr ⟨lw_p50, List.forall_mem_cons.mpr ⟨lw_p51, List.forall_mem_cons.mpr ⟨lw_p52, List.forall_mem_cons.mpr ⟨lw_p53, List.forall_mem_cons.mpr ⟨lw_p54, List.forall_mem_cons.mpr ⟨lw_p55, fun _ h => absurd h List.not_mem_nil⟩⟩⟩⟩⟩⟩⟩⟩
def lw_privs : List (MethodName × Nat) := lw_privs_1 ++ (lw_privs_2 ++ (lw_privs_3 ++ (lw_privs_4)))
def lw_tbl : List Cond := k2_sels lw_privs ++ tables_1
theorem lw_privs_ok : ∀ q ∈ lw_privs, lw_okq q := by
  show ∀ q ∈ lw_privs_1 ++ (lw_privs_2 ++ (lw_privs_3 ++ (lw_privs_4))), lw_okq q
  exact List.forall_mem_append.mpr ⟨lw_r1, List.forall_mem_append.mpr ⟨lw_r2, List.forall_mem_append.mpr ⟨lw_r3, lw_r4⟩⟩⟩
-- ===== end of PART A; then your names; then what follows =====
/-! THE CLAIM OUT OF ONE WALK OF THE LAW'S BODY. Your part is whole_start (and what it stands on); all else here is the same for every law, but numbers. -/
end
section
/-! names of the classes and methods, as the claim has them (printed by program of the classes) -/
def RX0 : String := "PedlarPack$Doors"
def TX0 : u_T := fun k => match k with
  | 0 => ("PedlarPack$Doors", "goods", "LPedlarPack$Goods;", true)
  | 1 => ("PedlarPack$Doors", "market", "LPedlarPack$Market;", true)
  | 2 => ("PedlarPack$Doors", "worth", "[[J", true)
  | _ => ("PedlarPack$Doors", "justSold", "[J", true)
def tyX0 : Nat → FieldType := fun k => match k with
  | 0 => .object "PedlarPack$Goods"
  | 1 => .object "PedlarPack$Market"
  | 2 => .array (.array .long)
  | _ => .array .long
theorem nmX0 : ∀ a, a < 4 → ∀ b, b < 4 → a ≠ b → (TX0 a).2.1 ≠ (TX0 b).2.1 := by decide +kernel
theorem tyX0_ok : ∀ k, k < 4 → parseFieldDescriptor (TX0 k).2.2.1 = some (tyX0 k) := by decide +kernel
abbrev cX0_init : ByteArray := prog_2_method_1_code
def yX0_init : MethodName := ⟨RX0, "<init>", "(LPedlarPack$Goods;LPedlarPack$Market;)V"⟩
abbrev cX0_goAlong : ByteArray := prog_2_method_2_code
def yX0_goAlong : MethodName := ⟨RX0, "goAlong", "([II)V"⟩
abbrev cX0_comeHome : ByteArray := prog_2_method_3_code
def yX0_comeHome : MethodName := ⟨RX0, "comeHome", "()V"⟩
abbrev cX0_callAt : ByteArray := prog_2_method_4_code
def yX0_callAt : MethodName := ⟨RX0, "callAt", "(II)V"⟩
abbrev cX0_bestLevel : ByteArray := prog_2_method_5_code
def yX0_bestLevel : MethodName := ⟨RX0, "bestLevel", "(IIII)I"⟩
abbrev cX0_meanAsked : ByteArray := prog_2_method_6_code
def yX0_meanAsked : MethodName := ⟨RX0, "meanAsked", "(IIIII)J"⟩
abbrev cX0_sell : ByteArray := prog_2_method_7_code
def yX0_sell : MethodName := ⟨RX0, "sell", "(III[II)V"⟩
abbrev cX0_meanSold : ByteArray := prog_2_method_8_code
def yX0_meanSold : MethodName := ⟨RX0, "meanSold", "()J"⟩
def RX1 : String := "PedlarPack$Goods"
def TX1 : u_T := fun k => match k with
  | _ => ("PedlarPack$Goods", "told", "[[I", true)
def tyX1 : Nat → FieldType := fun k => match k with
  | _ => .array (.array .int)
theorem nmX1 : ∀ a, a < 1 → ∀ b, b < 1 → a ≠ b → (TX1 a).2.1 ≠ (TX1 b).2.1 := by decide +kernel
theorem tyX1_ok : ∀ k, k < 1 → parseFieldDescriptor (TX1 k).2.2.1 = some (tyX1 k) := by decide +kernel
abbrev cX1_init : ByteArray := prog_3_method_1_code
def yX1_init : MethodName := ⟨RX1, "<init>", "()V"⟩
abbrev cX1_mayBe : ByteArray := prog_3_method_2_code
def yX1_mayBe : MethodName := ⟨RX1, "mayBe", "(III)Z"⟩
abbrev cX1_weightOf : ByteArray := prog_3_method_3_code
def yX1_weightOf : MethodName := ⟨RX1, "weightOf", "([I)I"⟩
def RX2 : String := "PedlarPack$Land"
def TX2 : u_T := fun k => match k with
  | 0 => ("PedlarPack$Land", "roads", "[[I", true)
  | _ => ("PedlarPack$Land", "ways", "[[I", true)
def tyX2 : Nat → FieldType := fun k => match k with
  | 0 => .array (.array .int)
  | _ => .array (.array .int)
theorem nmX2 : ∀ a, a < 2 → ∀ b, b < 2 → a ≠ b → (TX2 a).2.1 ≠ (TX2 b).2.1 := by decide +kernel
theorem tyX2_ok : ∀ k, k < 2 → parseFieldDescriptor (TX2 k).2.2.1 = some (tyX2 k) := by decide +kernel
abbrev cX2_init : ByteArray := prog_4_method_1_code
def yX2_init : MethodName := ⟨RX2, "<init>", "()V"⟩
abbrev cX2_build : ByteArray := prog_4_method_2_code
def yX2_build : MethodName := ⟨RX2, "build", "(III)V"⟩
abbrev cX2_findWays : ByteArray := prog_4_method_3_code
def yX2_findWays : MethodName := ⟨RX2, "findWays", "()V"⟩
abbrev cX2_hoursOf : ByteArray := prog_4_method_4_code
def yX2_hoursOf : MethodName := ⟨RX2, "hoursOf", "([II)I"⟩
abbrev cX2_countRoads : ByteArray := prog_4_method_5_code
def yX2_countRoads : MethodName := ⟨RX2, "countRoads", "()I"⟩
def RX3 : String := "PedlarPack$Line"
def TX3 : u_T := fun k => match k with
  | 0 => ("PedlarPack$Line", "bytes", "[I", true)
  | 1 => ("PedlarPack$Line", "partChances", "[I", true)
  | 2 => ("PedlarPack$Line", "partFarm", "I", false)
  | 3 => ("PedlarPack$Line", "partThing", "I", false)
  | 4 => ("PedlarPack$Line", "partEnd", "I", false)
  | _ => ("PedlarPack$Line", "length", "I", false)
def tyX3 : Nat → FieldType := fun k => match k with
  | 0 => .array .int
  | 1 => .array .int
  | 2 => .int
  | 3 => .int
  | 4 => .int
  | _ => .int
theorem nmX3 : ∀ a, a < 6 → ∀ b, b < 6 → a ≠ b → (TX3 a).2.1 ≠ (TX3 b).2.1 := by decide +kernel
theorem tyX3_ok : ∀ k, k < 6 → parseFieldDescriptor (TX3 k).2.2.1 = some (tyX3 k) := by decide +kernel
abbrev cX3_init : ByteArray := prog_5_method_1_code
def yX3_init : MethodName := ⟨RX3, "<init>", "()V"⟩
abbrev cX3_append : ByteArray := prog_5_method_2_code
def yX3_append : MethodName := ⟨RX3, "append", "(I)Z"⟩
abbrev cX3_findFault : ByteArray := prog_5_method_3_code
def yX3_findFault : MethodName := ⟨RX3, "findFault", "()I"⟩
abbrev cX3_tellTo : ByteArray := prog_5_method_4_code
def yX3_tellTo : MethodName := ⟨RX3, "tellTo", "(LPedlarPack$Market;)I"⟩
abbrev cX3_readPart : ByteArray := prog_5_method_5_code
def yX3_readPart : MethodName := ⟨RX3, "readPart", "(I)I"⟩
abbrev cX3_readChances : ByteArray := prog_5_method_6_code
def yX3_readChances : MethodName := ⟨RX3, "readChances", "(I)I"⟩
abbrev cX3_isAt : ByteArray := prog_5_method_7_code
def yX3_isAt : MethodName := ⟨RX3, "isAt", "(IC)Z"⟩
abbrev cX3_figureAt : ByteArray := prog_5_method_8_code
def yX3_figureAt : MethodName := ⟨RX3, "figureAt", "(I)I"⟩
def RX4 : String := "PedlarPack$Market"
def TX4 : u_T := fun k => match k with
  | 0 => ("PedlarPack$Market", "chances", "[[I", true)
  | _ => ("PedlarPack$Market", "shops", "[I", true)
def tyX4 : Nat → FieldType := fun k => match k with
  | 0 => .array (.array .int)
  | _ => .array .int
theorem nmX4 : ∀ a, a < 2 → ∀ b, b < 2 → a ≠ b → (TX4 a).2.1 ≠ (TX4 b).2.1 := by decide +kernel
theorem tyX4_ok : ∀ k, k < 2 → parseFieldDescriptor (TX4 k).2.2.1 = some (tyX4 k) := by decide +kernel
abbrev cX4_init : ByteArray := prog_6_method_1_code
def yX4_init : MethodName := ⟨RX4, "<init>", "()V"⟩
abbrev cX4_chanceOf : ByteArray := prog_6_method_2_code
def yX4_chanceOf : MethodName := ⟨RX4, "chanceOf", "(III)I"⟩
abbrev cX4_take : ByteArray := prog_6_method_3_code
def yX4_take : MethodName := ⟨RX4, "take", "(II[II)Z"⟩
abbrev cX4_countChances : ByteArray := prog_6_method_4_code
def yX4_countChances : MethodName := ⟨RX4, "countChances", "()I"⟩
def RX5 : String := "PedlarPack$Packer"
def TX5 : u_T := fun k => match k with
  | 0 => ("PedlarPack$Packer", "goods", "LPedlarPack$Goods;", true)
  | 1 => ("PedlarPack$Packer", "gains", "[[J", true)
  | 2 => ("PedlarPack$Packer", "peaks", "[I", true)
  | 3 => ("PedlarPack$Packer", "mostFrom", "[[J", true)
  | 4 => ("PedlarPack$Packer", "stepTaken", "[Z", true)
  | 5 => ("PedlarPack$Packer", "best", "[I", true)
  | 6 => ("PedlarPack$Packer", "loaded", "[I", true)
  | 7 => ("PedlarPack$Packer", "boundAbove", "J", false)
  | _ => ("PedlarPack$Packer", "boundBelow", "J", false)
def tyX5 : Nat → FieldType := fun k => match k with
  | 0 => .object "PedlarPack$Goods"
  | 1 => .array (.array .long)
  | 2 => .array .int
  | 3 => .array (.array .long)
  | 4 => .array .boolean
  | 5 => .array .int
  | 6 => .array .int
  | 7 => .long
  | _ => .long
theorem nmX5 : ∀ a, a < 9 → ∀ b, b < 9 → a ≠ b → (TX5 a).2.1 ≠ (TX5 b).2.1 := by decide +kernel
theorem tyX5_ok : ∀ k, k < 9 → parseFieldDescriptor (TX5 k).2.2.1 = some (tyX5 k) := by decide +kernel
abbrev cX5_init : ByteArray := prog_7_method_1_code
def yX5_init : MethodName := ⟨RX5, "<init>", "(LPedlarPack$Goods;)V"⟩
abbrev cX5_weighGains : ByteArray := prog_7_method_2_code
def yX5_weighGains : MethodName := ⟨RX5, "weighGains", "([J)V"⟩
abbrev cX5_gainOf : ByteArray := prog_7_method_3_code
def yX5_gainOf : MethodName := ⟨RX5, "gainOf", "([I)J"⟩
abbrev cX5_peakGain : ByteArray := prog_7_method_4_code
def yX5_peakGain : MethodName := ⟨RX5, "peakGain", "()J"⟩
abbrev cX5_peaksFit : ByteArray := prog_7_method_5_code
def yX5_peaksFit : MethodName := ⟨RX5, "peaksFit", "(I)Z"⟩
abbrev cX5_mostGain : ByteArray := prog_7_method_6_code
def yX5_mostGain : MethodName := ⟨RX5, "mostGain", "(II)J"⟩
abbrev cX5_fillMost : ByteArray := prog_7_method_7_code
def yX5_fillMost : MethodName := ⟨RX5, "fillMost", "(III)V"⟩
abbrev cX5_chooseBest : ByteArray := prog_7_method_8_code
def yX5_chooseBest : MethodName := ⟨RX5, "chooseBest", "(I)V"⟩
abbrev cX5_leastNumber : ByteArray := prog_7_method_9_code
def yX5_leastNumber : MethodName := ⟨RX5, "leastNumber", "(II)I"⟩
abbrev cX5_stepGain : ByteArray := prog_7_method_10_code
def yX5_stepGain : MethodName := ⟨RX5, "stepGain", "(II)J"⟩
abbrev cX5_chooseLoaded : ByteArray := prog_7_method_11_code
def yX5_chooseLoaded : MethodName := ⟨RX5, "chooseLoaded", "(I)V"⟩
abbrev cX5_nextLoaded : ByteArray := prog_7_method_12_code
def yX5_nextLoaded : MethodName := ⟨RX5, "nextLoaded", "(I)I"⟩
abbrev cX5_findBound : ByteArray := prog_7_method_13_code
def yX5_findBound : MethodName := ⟨RX5, "findBound", "(I)V"⟩
abbrev cX5_nextStep : ByteArray := prog_7_method_14_code
def yX5_nextStep : MethodName := ⟨RX5, "nextStep", "()I"⟩
abbrev cX5_leastBringing : ByteArray := prog_7_method_15_code
def yX5_leastBringing : MethodName := ⟨RX5, "leastBringing", "(I)I"⟩
def RX6 : String := "PedlarPack$Rounds"
def TX6 : u_T := fun k => match k with
  | 0 => ("PedlarPack$Rounds", "land", "LPedlarPack$Land;", true)
  | 1 => ("PedlarPack$Rounds", "doors", "LPedlarPack$Doors;", true)
  | 2 => ("PedlarPack$Rounds", "packer", "LPedlarPack$Packer;", true)
  | 3 => ("PedlarPack$Rounds", "inPack", "[I", true)
  | 4 => ("PedlarPack$Rounds", "most", "[J", true)
  | 5 => ("PedlarPack$Rounds", "codes", "[I", true)
  | 6 => ("PedlarPack$Rounds", "roundsKnown", "Z", false)
  | 7 => ("PedlarPack$Rounds", "withPack", "Z", false)
  | 8 => ("PedlarPack$Rounds", "allowed", "I", false)
  | 9 => ("PedlarPack$Rounds", "start", "I", false)
  | 10 => ("PedlarPack$Rounds", "hoursLeft", "I", false)
  | 11 => ("PedlarPack$Rounds", "limit", "I", false)
  | 12 => ("PedlarPack$Rounds", "firstSet", "I", false)
  | 13 => ("PedlarPack$Rounds", "secondSet", "I", false)
  | _ => ("PedlarPack$Rounds", "bothGain", "J", false)
def tyX6 : Nat → FieldType := fun k => match k with
  | 0 => .object "PedlarPack$Land"
  | 1 => .object "PedlarPack$Doors"
  | 2 => .object "PedlarPack$Packer"
  | 3 => .array .int
  | 4 => .array .long
  | 5 => .array .int
  | 6 => .boolean
  | 7 => .boolean
  | 8 => .int
  | 9 => .int
  | 10 => .int
  | 11 => .int
  | 12 => .int
  | 13 => .int
  | _ => .long
theorem nmX6 : ∀ a, a < 15 → ∀ b, b < 15 → a ≠ b → (TX6 a).2.1 ≠ (TX6 b).2.1 := by decide +kernel
theorem tyX6_ok : ∀ k, k < 15 → parseFieldDescriptor (TX6 k).2.2.1 = some (tyX6 k) := by decide +kernel
abbrev cX6_init : ByteArray := prog_8_method_1_code
def yX6_init : MethodName := ⟨RX6, "<init>", "(LPedlarPack$Land;LPedlarPack$Doors;LPedlarPack$Packer;[I)V"⟩
abbrev cX6_forget : ByteArray := prog_8_method_2_code
def yX6_forget : MethodName := ⟨RX6, "forget", "()V"⟩
abbrev cX6_findRounds : ByteArray := prog_8_method_3_code
def yX6_findRounds : MethodName := ⟨RX6, "findRounds", "(III)V"⟩
abbrev cX6_findOnward : ByteArray := prog_8_method_4_code
def yX6_findOnward : MethodName := ⟨RX6, "findOnward", "(IIII)V"⟩
abbrev cX6_clear : ByteArray := prog_8_method_5_code
def yX6_clear : MethodName := ⟨RX6, "clear", "()V"⟩
abbrev cX6_lengthen : ByteArray := prog_8_method_6_code
def yX6_lengthen : MethodName := ⟨RX6, "lengthen", "(IIIII)V"⟩
abbrev cX6_judge : ByteArray := prog_8_method_7_code
def yX6_judge : MethodName := ⟨RX6, "judge", "(III)V"⟩
abbrev cX6_valueOfPack : ByteArray := prog_8_method_8_code
def yX6_valueOfPack : MethodName := ⟨RX6, "valueOfPack", "([J)J"⟩
abbrev cX6_isBetter : ByteArray := prog_8_method_9_code
def yX6_isBetter : MethodName := ⟨RX6, "isBetter", "(IIJ)Z"⟩
abbrev cX6_keep : ByteArray := prog_8_method_10_code
def yX6_keep : MethodName := ⟨RX6, "keep", "(IIJ)V"⟩
abbrev cX6_bestSet : ByteArray := prog_8_method_11_code
def yX6_bestSet : MethodName := ⟨RX6, "bestSet", "()I"⟩
abbrev cX6_part : ByteArray := prog_8_method_12_code
def yX6_part : MethodName := ⟨RX6, "part", "(I)V"⟩
abbrev cX6_partWith : ByteArray := prog_8_method_13_code
def yX6_partWith : MethodName := ⟨RX6, "partWith", "(II)V"⟩
abbrev cX6_bitOf : ByteArray := prog_8_method_14_code
def yX6_bitOf : MethodName := ⟨RX6, "bitOf", "(I)I"⟩
def RX7 : String := "PedlarPack$Sheets"
def TX7 : u_T := fun k => match k with
  | 0 => ("PedlarPack$Sheets", "items", "[[I", true)
  | 1 => ("PedlarPack$Sheets", "forms", "[I", true)
  | 2 => ("PedlarPack$Sheets", "sizes", "[I", true)
  | _ => ("PedlarPack$Sheets", "latestFinding", "I", false)
def tyX7 : Nat → FieldType := fun k => match k with
  | 0 => .array (.array .int)
  | 1 => .array .int
  | 2 => .array .int
  | _ => .int
theorem nmX7 : ∀ a, a < 4 → ∀ b, b < 4 → a ≠ b → (TX7 a).2.1 ≠ (TX7 b).2.1 := by decide +kernel
theorem tyX7_ok : ∀ k, k < 4 → parseFieldDescriptor (TX7 k).2.2.1 = some (tyX7 k) := by decide +kernel
abbrev cX7_init : ByteArray := prog_9_method_1_code
def yX7_init : MethodName := ⟨RX7, "<init>", "()V"⟩
abbrev cX7_isLost : ByteArray := prog_9_method_2_code
def yX7_isLost : MethodName := ⟨RX7, "isLost", "(I)Z"⟩
abbrev cX7_found : ByteArray := prog_9_method_3_code
def yX7_found : MethodName := ⟨RX7, "found", "(I)I"⟩
abbrev cX7_renew : ByteArray := prog_9_method_4_code
def yX7_renew : MethodName := ⟨RX7, "renew", "(III)V"⟩
abbrev cX7_findingAt : ByteArray := prog_9_method_5_code
def yX7_findingAt : MethodName := ⟨RX7, "findingAt", "(III)I"⟩
abbrev cX7_hasItems : ByteArray := prog_9_method_6_code
def yX7_hasItems : MethodName := ⟨RX7, "hasItems", "(III)Z"⟩
abbrev cX7_lay : ByteArray := prog_9_method_7_code
def yX7_lay : MethodName := ⟨RX7, "lay", "(III)V"⟩
def RX8 : String := "PedlarPack"
def TX8 : u_T := fun k => match k with
  | 0 => ("PedlarPack", "goods", "LPedlarPack$Goods;", true)
  | 1 => ("PedlarPack", "land", "LPedlarPack$Land;", true)
  | 2 => ("PedlarPack", "market", "LPedlarPack$Market;", true)
  | 3 => ("PedlarPack", "line", "LPedlarPack$Line;", true)
  | 4 => ("PedlarPack", "sheets", "LPedlarPack$Sheets;", true)
  | 5 => ("PedlarPack", "doors", "LPedlarPack$Doors;", true)
  | 6 => ("PedlarPack", "packer", "LPedlarPack$Packer;", true)
  | 7 => ("PedlarPack", "farmsInRow", "[I", true)
  | 8 => ("PedlarPack", "inPack", "[I", true)
  | 9 => ("PedlarPack", "search", "LPedlarPack$Rounds;", true)
  | 10 => ("PedlarPack", "rowLength", "I", false)
  | 11 => ("PedlarPack", "dayHours", "I", false)
  | 12 => ("PedlarPack", "packLimit", "I", false)
  | _ => ("PedlarPack", "openFarms", "I", false)
def tyX8 : Nat → FieldType := fun k => match k with
  | 0 => .object "PedlarPack$Goods"
  | 1 => .object "PedlarPack$Land"
  | 2 => .object "PedlarPack$Market"
  | 3 => .object "PedlarPack$Line"
  | 4 => .object "PedlarPack$Sheets"
  | 5 => .object "PedlarPack$Doors"
  | 6 => .object "PedlarPack$Packer"
  | 7 => .array .int
  | 8 => .array .int
  | 9 => .object "PedlarPack$Rounds"
  | 10 => .int
  | 11 => .int
  | 12 => .int
  | _ => .int
theorem nmX8 : ∀ a, a < 14 → ∀ b, b < 14 → a ≠ b → (TX8 a).2.1 ≠ (TX8 b).2.1 := by decide +kernel
theorem tyX8_ok : ∀ k, k < 14 → parseFieldDescriptor (TX8 k).2.2.1 = some (tyX8 k) := by decide +kernel
abbrev cX8_init : ByteArray := prog_1_method_1_code
def yX8_init : MethodName := ⟨RX8, "<init>", "()V"⟩
abbrev cX8_thing : ByteArray := prog_1_method_2_code
def yX8_thing : MethodName := ⟨RX8, "thing", "(III)I"⟩
abbrev cX8_road : ByteArray := prog_1_method_3_code
def yX8_road : MethodName := ⟨RX8, "road", "(III)I"⟩
abbrev cX8_way : ByteArray := prog_1_method_4_code
def yX8_way : MethodName := ⟨RX8, "way", "(II)I"⟩
abbrev cX8_set : ByteArray := prog_1_method_5_code
def yX8_set : MethodName := ⟨RX8, "set", "(II)I"⟩
abbrev cX8_type : ByteArray := prog_1_method_6_code
def yX8_type : MethodName := ⟨RX8, "type", "(I)I"⟩
abbrev cX8_wipe : ByteArray := prog_1_method_7_code
def yX8_wipe : MethodName := ⟨RX8, "wipe", "()I"⟩
abbrev cX8_fault : ByteArray := prog_1_method_8_code
def yX8_fault : MethodName := ⟨RX8, "fault", "()I"⟩
abbrev cX8_wants : ByteArray := prog_1_method_9_code
def yX8_wants : MethodName := ⟨RX8, "wants", "()I"⟩
abbrev cX8_read : ByteArray := prog_1_method_10_code
def yX8_read : MethodName := ⟨RX8, "read", "(II)I"⟩
abbrev cX8_chance : ByteArray := prog_1_method_11_code
def yX8_chance : MethodName := ⟨RX8, "chance", "(III)I"⟩
abbrev cX8_shop : ByteArray := prog_1_method_12_code
def yX8_shop : MethodName := ⟨RX8, "shop", "(II)I"⟩
abbrev cX8_row : ByteArray := prog_1_method_13_code
def yX8_row : MethodName := ⟨RX8, "row", "(I)I"⟩
abbrev cX8_pack : ByteArray := prog_1_method_14_code
def yX8_pack : MethodName := ⟨RX8, "pack", "(I)I"⟩
abbrev cX8_judged : ByteArray := prog_1_method_15_code
def yX8_judged : MethodName := ⟨RX8, "judged", "()I"⟩
abbrev cX8_hours : ByteArray := prog_1_method_16_code
def yX8_hours : MethodName := ⟨RX8, "hours", "()I"⟩
abbrev cX8_sold : ByteArray := prog_1_method_17_code
def yX8_sold : MethodName := ⟨RX8, "sold", "(IIIII)J"⟩
abbrev cX8_ask : ByteArray := prog_1_method_18_code
def yX8_ask : MethodName := ⟨RX8, "ask", "(III)I"⟩
abbrev cX8_value : ByteArray := prog_1_method_19_code
def yX8_value : MethodName := ⟨RX8, "value", "(IIII)J"⟩
abbrev cX8_gain : ByteArray := prog_1_method_20_code
def yX8_gain : MethodName := ⟨RX8, "gain", "(I)J"⟩
abbrev cX8_best : ByteArray := prog_1_method_21_code
def yX8_best : MethodName := ⟨RX8, "best", "(I)I"⟩
abbrev cX8_load : ByteArray := prog_1_method_22_code
def yX8_load : MethodName := ⟨RX8, "load", "(II)J"⟩
abbrev cX8_loaded : ByteArray := prog_1_method_23_code
def yX8_loaded : MethodName := ⟨RX8, "loaded", "(I)I"⟩
abbrev cX8_round : ByteArray := prog_1_method_24_code
def yX8_round : MethodName := ⟨RX8, "round", "(I)I"⟩
abbrev cX8_rounds : ByteArray := prog_1_method_25_code
def yX8_rounds : MethodName := ⟨RX8, "rounds", "(I)J"⟩
abbrev cX8_onward : ByteArray := prog_1_method_26_code
def yX8_onward : MethodName := ⟨RX8, "onward", "(II)I"⟩
abbrev cX8_trust : ByteArray := prog_1_method_27_code
def yX8_trust : MethodName := ⟨RX8, "trust", "(IIIII)I"⟩
abbrev cX8_two : ByteArray := prog_1_method_28_code
def yX8_two : MethodName := ⟨RX8, "two", "(I)I"⟩
abbrev cX8_both : ByteArray := prog_1_method_29_code
def yX8_both : MethodName := ⟨RX8, "both", "(I)J"⟩
abbrev cX8_brings : ByteArray := prog_1_method_30_code
def yX8_brings : MethodName := ⟨RX8, "brings", "(II)J"⟩
abbrev cX8_straps : ByteArray := prog_1_method_31_code
def yX8_straps : MethodName := ⟨RX8, "straps", "()I"⟩
abbrev cX8_sheet : ByteArray := prog_1_method_32_code
def yX8_sheet : MethodName := ⟨RX8, "sheet", "(III)I"⟩
abbrev cX8_lose : ByteArray := prog_1_method_33_code
def yX8_lose : MethodName := ⟨RX8, "lose", "(I)I"⟩
abbrev cX8_put : ByteArray := prog_1_method_34_code
def yX8_put : MethodName := ⟨RX8, "put", "(IIII)I"⟩
abbrev cX8_get : ByteArray := prog_1_method_35_code
def yX8_get : MethodName := ⟨RX8, "get", "(III)I"⟩
abbrev cX8_copy : ByteArray := prog_1_method_36_code
def yX8_copy : MethodName := ⟨RX8, "copy", "(IIIII)I"⟩
abbrev cX8_write : ByteArray := prog_1_method_37_code
def yX8_write : MethodName := ⟨RX8, "write", "(I)I"⟩
abbrev cX8_count : ByteArray := prog_1_method_38_code
def yX8_count : MethodName := ⟨RX8, "count", "(I)I"⟩
abbrev cX8_digest : ByteArray := prog_1_method_39_code
def yX8_digest : MethodName := ⟨RX8, "digest", "()J"⟩
abbrev cX8_within : ByteArray := prog_1_method_40_code
def yX8_within : MethodName := ⟨RX8, "within", "(III)Z"⟩
abbrev cX8_isThing : ByteArray := prog_1_method_41_code
def yX8_isThing : MethodName := ⟨RX8, "isThing", "(I)Z"⟩
abbrev cX8_isLevel : ByteArray := prog_1_method_42_code
def yX8_isLevel : MethodName := ⟨RX8, "isLevel", "(I)Z"⟩
abbrev cX8_isNumber : ByteArray := prog_1_method_43_code
def yX8_isNumber : MethodName := ⟨RX8, "isNumber", "(I)Z"⟩
abbrev cX8_isPlace : ByteArray := prog_1_method_44_code
def yX8_isPlace : MethodName := ⟨RX8, "isPlace", "(I)Z"⟩
abbrev cX8_isFarm : ByteArray := prog_1_method_45_code
def yX8_isFarm : MethodName := ⟨RX8, "isFarm", "(I)Z"⟩
abbrev cX8_isSheet : ByteArray := prog_1_method_46_code
def yX8_isSheet : MethodName := ⟨RX8, "isSheet", "(I)Z"⟩
abbrev cX8_isForm : ByteArray := prog_1_method_47_code
def yX8_isForm : MethodName := ⟨RX8, "isForm", "(I)Z"⟩
abbrev cX8_isTerm : ByteArray := prog_1_method_48_code
def yX8_isTerm : MethodName := ⟨RX8, "isTerm", "(I)Z"⟩
abbrev cX8_refusal : ByteArray := prog_1_method_49_code
def yX8_refusal : MethodName := ⟨RX8, "refusal", "(I)J"⟩
abbrev cX8_term : ByteArray := prog_1_method_50_code
def yX8_term : MethodName := ⟨RX8, "term", "(JJI)J"⟩
abbrev cX8_sharedDivisor : ByteArray := prog_1_method_51_code
def yX8_sharedDivisor : MethodName := ⟨RX8, "sharedDivisor", "(JJ)J"⟩
abbrev cX8_areFarms : ByteArray := prog_1_method_52_code
def yX8_areFarms : MethodName := ⟨RX8, "areFarms", "([II)Z"⟩
abbrev cX8_farmsOf : ByteArray := prog_1_method_53_code
def yX8_farmsOf : MethodName := ⟨RX8, "farmsOf", "(I)I"⟩
abbrev cX8_farmOf : ByteArray := prog_1_method_54_code
def yX8_farmOf : MethodName := ⟨RX8, "farmOf", "(II)I"⟩
abbrev cX8_tooManyOpen : ByteArray := prog_1_method_55_code
def yX8_tooManyOpen : MethodName := ⟨RX8, "tooManyOpen", "()Z"⟩
abbrev cX8_weighUp : ByteArray := prog_1_method_56_code
def yX8_weighUp : MethodName := ⟨RX8, "weighUp", "()V"⟩
abbrev cX8_numberOrWeight : ByteArray := prog_1_method_57_code
def yX8_numberOrWeight : MethodName := ⟨RX8, "numberOrWeight", "([II)I"⟩
abbrev cX8_loadTerm : ByteArray := prog_1_method_58_code
def yX8_loadTerm : MethodName := ⟨RX8, "loadTerm", "(II)J"⟩
def RX9 : String := "PedlarPackModel"
def TX9 : u_T := fun k => match k with
  | 0 => ("PedlarPackModel", "cost", "[I", true)
  | 1 => ("PedlarPackModel", "weight", "[I", true)
  | 2 => ("PedlarPackModel", "loss", "[I", true)
  | 3 => ("PedlarPackModel", "price", "[I", true)
  | 4 => ("PedlarPackModel", "roads", "[I", true)
  | 5 => ("PedlarPackModel", "ways", "[I", true)
  | 6 => ("PedlarPackModel", "day", "I", false)
  | 7 => ("PedlarPackModel", "limit", "I", false)
  | 8 => ("PedlarPackModel", "open", "I", false)
  | 9 => ("PedlarPackModel", "wanted", "[I", true)
  | 10 => ("PedlarPackModel", "shops", "[I", true)
  | 11 => ("PedlarPackModel", "typed", "I", false)
  | 12 => ("PedlarPackModel", "text", "[I", true)
  | 13 => ("PedlarPackModel", "at", "I", false)
  | 14 => ("PedlarPackModel", "fault", "I", false)
  | 15 => ("PedlarPackModel", "parts", "I", false)
  | 16 => ("PedlarPackModel", "partFarm", "[I", true)
  | 17 => ("PedlarPackModel", "partThing", "[I", true)
  | 18 => ("PedlarPackModel", "partChance", "[I", true)
  | 19 => ("PedlarPackModel", "rowMany", "I", false)
  | 20 => ("PedlarPackModel", "rowOf", "[I", true)
  | 21 => ("PedlarPackModel", "pack", "[I", true)
  | 22 => ("PedlarPackModel", "lookMany", "I", false)
  | 23 => ("PedlarPackModel", "look", "[I", true)
  | 24 => ("PedlarPackModel", "worth", "[J", true)
  | 25 => ("PedlarPackModel", "asked", "[I", true)
  | 26 => ("PedlarPackModel", "just", "[J", true)
  | 27 => ("PedlarPackModel", "bestPack", "[I", true)
  | 28 => ("PedlarPackModel", "bestGain", "J", false)
  | 29 => ("PedlarPackModel", "load", "[I", true)
  | 30 => ("PedlarPackModel", "loadWeight", "I", false)
  | 31 => ("PedlarPackModel", "openFarm", "[I", true)
  | 32 => ("PedlarPackModel", "openMany", "I", false)
  | 33 => ("PedlarPackModel", "knap", "[J", true)
  | 34 => ("PedlarPackModel", "roundMany", "I", false)
  | 35 => ("PedlarPackModel", "roundRow", "[I", true)
  | 36 => ("PedlarPackModel", "roundGain", "J", false)
  | 37 => ("PedlarPackModel", "setGain", "[J", true)
  | 38 => ("PedlarPackModel", "bestOne", "I", false)
  | 39 => ("PedlarPackModel", "bestTwo", "I", false)
  | 40 => ("PedlarPackModel", "bestBoth", "J", false)
  | 41 => ("PedlarPackModel", "packed", "[I", true)
  | 42 => ("PedlarPackModel", "isThere", "[Z", true)
  | 43 => ("PedlarPackModel", "forms", "[I", true)
  | 44 => ("PedlarPackModel", "sizes", "[I", true)
  | 45 => ("PedlarPackModel", "items", "[I", true)
  | 46 => ("PedlarPackModel", "moved", "[I", true)
  | _ => ("PedlarPackModel", "finding", "I", false)
def tyX9 : Nat → FieldType := fun k => match k with
  | 0 => .array .int
  | 1 => .array .int
  | 2 => .array .int
  | 3 => .array .int
  | 4 => .array .int
  | 5 => .array .int
  | 6 => .int
  | 7 => .int
  | 8 => .int
  | 9 => .array .int
  | 10 => .array .int
  | 11 => .int
  | 12 => .array .int
  | 13 => .int
  | 14 => .int
  | 15 => .int
  | 16 => .array .int
  | 17 => .array .int
  | 18 => .array .int
  | 19 => .int
  | 20 => .array .int
  | 21 => .array .int
  | 22 => .int
  | 23 => .array .int
  | 24 => .array .long
  | 25 => .array .int
  | 26 => .array .long
  | 27 => .array .int
  | 28 => .long
  | 29 => .array .int
  | 30 => .int
  | 31 => .array .int
  | 32 => .int
  | 33 => .array .long
  | 34 => .int
  | 35 => .array .int
  | 36 => .long
  | 37 => .array .long
  | 38 => .int
  | 39 => .int
  | 40 => .long
  | 41 => .array .int
  | 42 => .array .boolean
  | 43 => .array .int
  | 44 => .array .int
  | 45 => .array .int
  | 46 => .array .int
  | _ => .int
theorem nmX9 : ∀ a, a < 48 → ∀ b, b < 48 → a ≠ b → (TX9 a).2.1 ≠ (TX9 b).2.1 := by decide +kernel
theorem tyX9_ok : ∀ k, k < 48 → parseFieldDescriptor (TX9 k).2.2.1 = some (tyX9 k) := by decide +kernel
abbrev cX9_init : ByteArray := prog_11_method_1_code
def yX9_init : MethodName := ⟨RX9, "<init>", "()V"⟩
abbrev cX9_in : ByteArray := prog_11_method_3_code
def yX9_in : MethodName := ⟨RX9, "in", "(III)Z"⟩
abbrev cX9_no : ByteArray := prog_11_method_4_code
def yX9_no : MethodName := ⟨RX9, "no", "(I)J"⟩
abbrev cX9_lowest : ByteArray := prog_11_method_5_code
def yX9_lowest : MethodName := ⟨RX9, "lowest", "(JJI)J"⟩
abbrev cX9_sixteen : ByteArray := prog_11_method_6_code
def yX9_sixteen : MethodName := ⟨RX9, "sixteen", "(I)J"⟩
abbrev cX9_isThing : ByteArray := prog_11_method_8_code
def yX9_isThing : MethodName := ⟨RX9, "isThing", "(I)Z"⟩
abbrev cX9_isPlace : ByteArray := prog_11_method_9_code
def yX9_isPlace : MethodName := ⟨RX9, "isPlace", "(I)Z"⟩
abbrev cX9_isFarm : ByteArray := prog_11_method_10_code
def yX9_isFarm : MethodName := ⟨RX9, "isFarm", "(I)Z"⟩
abbrev cX9_thingNow : ByteArray := prog_11_method_11_code
def yX9_thingNow : MethodName := ⟨RX9, "thingNow", "(II)I"⟩
abbrev cX9_thing : ByteArray := prog_11_method_12_code
def yX9_thing : MethodName := ⟨RX9, "thing", "(III)I"⟩
abbrev cX9_road : ByteArray := prog_11_method_13_code
def yX9_road : MethodName := ⟨RX9, "road", "(III)I"⟩
abbrev cX9_laysWays : ByteArray := prog_11_method_14_code
def yX9_laysWays : MethodName := ⟨RX9, "laysWays", "()V"⟩
abbrev cX9_way : ByteArray := prog_11_method_15_code
def yX9_way : MethodName := ⟨RX9, "way", "(II)I"⟩
abbrev cX9_set : ByteArray := prog_11_method_16_code
def yX9_set : MethodName := ⟨RX9, "set", "(II)I"⟩
abbrev cX9_type : ByteArray := prog_11_method_17_code
def yX9_type : MethodName := ⟨RX9, "type", "(I)I"⟩
abbrev cX9_wipe : ByteArray := prog_11_method_18_code
def yX9_wipe : MethodName := ⟨RX9, "wipe", "()I"⟩
abbrev cX9_byteNow : ByteArray := prog_11_method_19_code
def yX9_byteNow : MethodName := ⟨RX9, "byteNow", "()I"⟩
abbrev cX9_expects : ByteArray := prog_11_method_20_code
def yX9_expects : MethodName := ⟨RX9, "expects", "(I)V"⟩
abbrev cX9_number : ByteArray := prog_11_method_21_code
def yX9_number : MethodName := ⟨RX9, "number", "(III)I"⟩
abbrev cX9_part : ByteArray := prog_11_method_22_code
def yX9_part : MethodName := ⟨RX9, "part", "()V"⟩
abbrev cX9_faultNow : ByteArray := prog_11_method_23_code
def yX9_faultNow : MethodName := ⟨RX9, "faultNow", "()I"⟩
abbrev cX9_fault : ByteArray := prog_11_method_24_code
def yX9_fault : MethodName := ⟨RX9, "fault", "()I"⟩
abbrev cX9_place : ByteArray := prog_11_method_25_code
def yX9_place : MethodName := ⟨RX9, "place", "(II)I"⟩
abbrev cX9_wants : ByteArray := prog_11_method_26_code
def yX9_wants : MethodName := ⟨RX9, "wants", "()I"⟩
abbrev cX9_read : ByteArray := prog_11_method_27_code
def yX9_read : MethodName := ⟨RX9, "read", "(II)I"⟩
abbrev cX9_chanceNow : ByteArray := prog_11_method_28_code
def yX9_chanceNow : MethodName := ⟨RX9, "chanceNow", "(III)I"⟩
abbrev cX9_chance : ByteArray := prog_11_method_29_code
def yX9_chance : MethodName := ⟨RX9, "chance", "(III)I"⟩
abbrev cX9_shop : ByteArray := prog_11_method_30_code
def yX9_shop : MethodName := ⟨RX9, "shop", "(II)I"⟩
abbrev cX9_row : ByteArray := prog_11_method_31_code
def yX9_row : MethodName := ⟨RX9, "row", "(I)I"⟩
abbrev cX9_packWeight : ByteArray := prog_11_method_32_code
def yX9_packWeight : MethodName := ⟨RX9, "packWeight", "()I"⟩
abbrev cX9_pack : ByteArray := prog_11_method_33_code
def yX9_pack : MethodName := ⟨RX9, "pack", "(I)I"⟩
abbrev cX9_spot : ByteArray := prog_11_method_34_code
def yX9_spot : MethodName := ⟨RX9, "spot", "(III)I"⟩
abbrev cX9_looksAtRow : ByteArray := prog_11_method_35_code
def yX9_looksAtRow : MethodName := ⟨RX9, "looksAtRow", "()V"⟩
abbrev cX9_laysWorth : ByteArray := prog_11_method_36_code
def yX9_laysWorth : MethodName := ⟨RX9, "laysWorth", "()V"⟩
abbrev cX9_hoursFrom : ByteArray := prog_11_method_37_code
def yX9_hoursFrom : MethodName := ⟨RX9, "hoursFrom", "(I)I"⟩
abbrev cX9_hoursNow : ByteArray := prog_11_method_38_code
def yX9_hoursNow : MethodName := ⟨RX9, "hoursNow", "()I"⟩
abbrev cX9_hours : ByteArray := prog_11_method_39_code
def yX9_hours : MethodName := ⟨RX9, "hours", "()I"⟩
abbrev cX9_judgedNow : ByteArray := prog_11_method_40_code
def yX9_judgedNow : MethodName := ⟨RX9, "judgedNow", "()I"⟩
abbrev cX9_judged : ByteArray := prog_11_method_41_code
def yX9_judged : MethodName := ⟨RX9, "judged", "()I"⟩
abbrev cX9_sold : ByteArray := prog_11_method_42_code
def yX9_sold : MethodName := ⟨RX9, "sold", "(IIIII)J"⟩
abbrev cX9_ask : ByteArray := prog_11_method_43_code
def yX9_ask : MethodName := ⟨RX9, "ask", "(III)I"⟩
abbrev cX9_value : ByteArray := prog_11_method_44_code
def yX9_value : MethodName := ⟨RX9, "value", "(IIII)J"⟩
abbrev cX9_gainOf : ByteArray := prog_11_method_45_code
def yX9_gainOf : MethodName := ⟨RX9, "gainOf", "(II)J"⟩
abbrev cX9_gainNow : ByteArray := prog_11_method_46_code
def yX9_gainNow : MethodName := ⟨RX9, "gainNow", "()J"⟩
abbrev cX9_gain : ByteArray := prog_11_method_47_code
def yX9_gain : MethodName := ⟨RX9, "gain", "(I)J"⟩
abbrev cX9_packs : ByteArray := prog_11_method_48_code
def yX9_packs : MethodName := ⟨RX9, "packs", "(I)V"⟩
abbrev cX9_weightOf : ByteArray := prog_11_method_49_code
def yX9_weightOf : MethodName := ⟨RX9, "weightOf", "(II)I"⟩
abbrev cX9_bestNow : ByteArray := prog_11_method_50_code
def yX9_bestNow : MethodName := ⟨RX9, "bestNow", "(I)I"⟩
abbrev cX9_best : ByteArray := prog_11_method_51_code
def yX9_best : MethodName := ⟨RX9, "best", "(I)I"⟩
abbrev cX9_loads : ByteArray := prog_11_method_52_code
def yX9_loads : MethodName := ⟨RX9, "loads", "()V"⟩
abbrev cX9_loadedNow : ByteArray := prog_11_method_53_code
def yX9_loadedNow : MethodName := ⟨RX9, "loadedNow", "(I)I"⟩
abbrev cX9_loaded : ByteArray := prog_11_method_54_code
def yX9_loaded : MethodName := ⟨RX9, "loaded", "(I)I"⟩
abbrev cX9_boundNow : ByteArray := prog_11_method_55_code
def yX9_boundNow : MethodName := ⟨RX9, "boundNow", "(I)J"⟩
abbrev cX9_loadNow : ByteArray := prog_11_method_56_code
def yX9_loadNow : MethodName := ⟨RX9, "loadNow", "(II)J"⟩
abbrev cX9_load : ByteArray := prog_11_method_57_code
def yX9_load : MethodName := ⟨RX9, "load", "(II)J"⟩
abbrev cX9_gathers : ByteArray := prog_11_method_58_code
def yX9_gathers : MethodName := ⟨RX9, "gathers", "()Z"⟩
abbrev cX9_looksAt : ByteArray := prog_11_method_59_code
def yX9_looksAt : MethodName := ⟨RX9, "looksAt", "(II)I"⟩
abbrev cX9_mostGain : ByteArray := prog_11_method_60_code
def yX9_mostGain : MethodName := ⟨RX9, "mostGain", "()J"⟩
abbrev cX9_fives : ByteArray := prog_11_method_61_code
def yX9_fives : MethodName := ⟨RX9, "fives", "(I)I"⟩
abbrev cX9_goesRound : ByteArray := prog_11_method_62_code
def yX9_goesRound : MethodName := ⟨RX9, "goesRound", "()V"⟩
abbrev cX9_round : ByteArray := prog_11_method_63_code
def yX9_round : MethodName := ⟨RX9, "round", "(I)I"⟩
abbrev cX9_rounds : ByteArray := prog_11_method_64_code
def yX9_rounds : MethodName := ⟨RX9, "rounds", "(I)J"⟩
abbrev cX9_onward : ByteArray := prog_11_method_65_code
def yX9_onward : MethodName := ⟨RX9, "onward", "(II)I"⟩
abbrev cX9_trust : ByteArray := prog_11_method_66_code
def yX9_trust : MethodName := ⟨RX9, "trust", "(IIIII)I"⟩
abbrev cX9_parted : ByteArray := prog_11_method_67_code
def yX9_parted : MethodName := ⟨RX9, "parted", "()V"⟩
abbrev cX9_two : ByteArray := prog_11_method_68_code
def yX9_two : MethodName := ⟨RX9, "two", "(I)I"⟩
abbrev cX9_both : ByteArray := prog_11_method_69_code
def yX9_both : MethodName := ⟨RX9, "both", "(I)J"⟩
abbrev cX9_bringsNow : ByteArray := prog_11_method_70_code
def yX9_bringsNow : MethodName := ⟨RX9, "bringsNow", "(I)J"⟩
abbrev cX9_brings : ByteArray := prog_11_method_71_code
def yX9_brings : MethodName := ⟨RX9, "brings", "(II)J"⟩
abbrev cX9_strapsNow : ByteArray := prog_11_method_72_code
def yX9_strapsNow : MethodName := ⟨RX9, "strapsNow", "()I"⟩
abbrev cX9_straps : ByteArray := prog_11_method_73_code
def yX9_straps : MethodName := ⟨RX9, "straps", "()I"⟩
abbrev cX9_meets : ByteArray := prog_11_method_74_code
def yX9_meets : MethodName := ⟨RX9, "meets", "(I)I"⟩
abbrev cX9_isSheet : ByteArray := prog_11_method_75_code
def yX9_isSheet : MethodName := ⟨RX9, "isSheet", "(I)Z"⟩
abbrev cX9_sheet : ByteArray := prog_11_method_76_code
def yX9_sheet : MethodName := ⟨RX9, "sheet", "(III)I"⟩
abbrev cX9_lose : ByteArray := prog_11_method_77_code
def yX9_lose : MethodName := ⟨RX9, "lose", "(I)I"⟩
abbrev cX9_lacks : ByteArray := prog_11_method_78_code
def yX9_lacks : MethodName := ⟨RX9, "lacks", "(III)I"⟩
abbrev cX9_keep : ByteArray := prog_11_method_79_code
def yX9_keep : MethodName := ⟨RX9, "keep", "(III)V"⟩
abbrev cX9_put : ByteArray := prog_11_method_80_code
def yX9_put : MethodName := ⟨RX9, "put", "(IIII)I"⟩
abbrev cX9_get : ByteArray := prog_11_method_81_code
def yX9_get : MethodName := ⟨RX9, "get", "(III)I"⟩
abbrev cX9_copy : ByteArray := prog_11_method_82_code
def yX9_copy : MethodName := ⟨RX9, "copy", "(IIIII)I"⟩
abbrev cX9_write : ByteArray := prog_11_method_83_code
def yX9_write : MethodName := ⟨RX9, "write", "(I)I"⟩
abbrev cX9_countNow : ByteArray := prog_11_method_84_code
def yX9_countNow : MethodName := ⟨RX9, "countNow", "(I)I"⟩
abbrev cX9_count : ByteArray := prog_11_method_85_code
def yX9_count : MethodName := ⟨RX9, "count", "(I)I"⟩
abbrev cX9_digest : ByteArray := prog_11_method_86_code
def yX9_digest : MethodName := ⟨RX9, "digest", "()J"⟩
def RJ6 : String := "java/lang/Integer"
def TJ6 : u_T := fun k => match k with
  | _ => ("", "", "", false)
def tyJ6 : Nat → FieldType := fun k => match k with
  | _ => .int
abbrev cJ6_bitCount_0f7a4 : ByteArray := prog_12_method_49_code
def yJ6_bitCount_0f7a4 : MethodName := ⟨RJ6, "bitCount", "(I)I"⟩
def RJ9 : String := "java/lang/Math"
def TJ9 : u_T := fun k => match k with
  | _ => ("", "", "", false)
def tyJ9 : Nat → FieldType := fun k => match k with
  | _ => .int
abbrev cJ9_abs_067f4 : ByteArray := prog_13_method_61_code
def yJ9_abs_067f4 : MethodName := ⟨RJ9, "abs", "(J)J"⟩
abbrev cJ9_max_f86c9 : ByteArray := prog_13_method_66_code
def yJ9_max_f86c9 : MethodName := ⟨RJ9, "max", "(JJ)J"⟩
abbrev cJ9_min_7cf53 : ByteArray := prog_13_method_69_code
def yJ9_min_7cf53 : MethodName := ⟨RJ9, "min", "(II)I"⟩
def RJ10 : String := "java/lang/System"
def TJ10 : u_T := fun k => match k with
  | _ => ("", "", "", false)
def tyJ10 : Nat → FieldType := fun k => match k with
  | _ => .int
def RL : String := "PedlarPackLaw"
abbrev cL_law : ByteArray := code
/-- the classes whose objects the worlds hold -/
abbrev pp_cl : List vw_C := [(RX0, TX0, 4), (RX1, TX1, 1), (RX2, TX2, 2), (RX3, TX3, 6), (RX4, TX4, 2), (RX5, TX5, 9), (RX6, TX6, 15), (RX7, TX7, 4), (RX8, TX8, 14), (RX9, TX9, 48)]
/-- the words of the tables that a call carries over -/
def pp_tb : List Cond := lw_tbl.filter goodWord
end
section
/-! values (an int, a long, a reference: token, offset, length), memory, worlds -/
abbrev pp_V : Type := Int32 ⊕ Int64 ⊕ (Nat × Nat × Nat)
def ppI (x : Int32) : pp_V := .inl x
def ppL (x : Int64) : pp_V := .inr (.inl x)
def ppR (t o n : Nat) : pp_V := .inr (.inr (t, o, n))
abbrev pp_M : Type := (Nat → Nat → Int32) × (Nat → Nat → Int64)
def ppS (σ : pp_M) (t i : Nat) (x : Int32) : pp_M := (fun a b => if a = t ∧ b = i then x else σ.1 a b, σ.2)
def ppT (σ : pp_M) (t i : Nat) (x : Int64) : pp_M := (σ.1, fun a b => if a = t ∧ b = i then x else σ.2 a b)
/-- n ints of row (t, o) from i on come to row (u, q) from j on -/
def ppC (σ : pp_M) (t o u q i j n : Nat) : pp_M := (fun a b => if a = u ∧ q + j ≤ b ∧ b < q + j + n then σ.1 t (o + i + (b - (q + j))) else σ.1 a b, σ.2)
def ppv (ad : Nat → Nat → Nat) : pp_V → Value
  | .inl x => .int x
  | .inr (.inl x) => .long x
  | .inr (.inr (t, o, _)) => .ref (ad t o)
/-- the static shape of the worlds: kind (0 an object, 1 ints, 2 longs, 3 booleans, 4 and 5 rows of rows), class or rows, width, fields -/
def pp_sh : List (Nat × Nat × Nat × List (Nat × Nat × Nat × Nat)) := [
  (0, 8, 14, [(2, 1, 0, 0), (2, 4, 0, 0), (2, 9, 0, 0), (2, 13, 0, 0), (2, 16, 0, 0), (2, 21, 0, 0), (2, 25, 0, 0), (2, 34, 0, 7), (2, 35, 0, 6), (2, 36, 0, 0), (0, 0, 0, 0), (0, 0, 0, 0), (0, 0, 0, 0), (0, 0, 0, 0)]),
  (0, 1, 1, [(2, 2, 0, 6)]),
  (4, 6, 6, [(2, 3, 0, 0)]),
  (1, 6, 6, []),
  (0, 2, 2, [(2, 5, 0, 8), (2, 7, 0, 8)]),
  (4, 8, 8, [(2, 6, 0, 0)]),
  (1, 8, 8, []),
  (4, 8, 8, [(2, 8, 0, 0)]),
  (1, 8, 8, []),
  (0, 4, 2, [(2, 10, 0, 48), (2, 12, 0, 6)]),
  (4, 48, 3, [(2, 11, 0, 0)]),
  (1, 48, 3, []),
  (1, 1, 6, []),
  (0, 3, 6, [(2, 14, 0, 40), (2, 15, 0, 3), (0, 0, 0, 0), (0, 0, 0, 0), (0, 0, 0, 0), (0, 0, 0, 0)]),
  (1, 1, 40, []),
  (1, 1, 3, []),
  (0, 7, 4, [(2, 17, 0, 4), (2, 19, 0, 4), (2, 20, 0, 4), (0, 0, 0, 0)]),
  (4, 4, 40, [(2, 18, 0, 0)]),
  (1, 4, 40, []),
  (1, 1, 4, []),
  (1, 1, 4, []),
  (0, 0, 4, [(2, 1, 0, 0), (2, 9, 0, 0), (2, 22, 0, 8), (2, 24, 0, 5)]),
  (5, 8, 30, [(2, 23, 0, 0)]),
  (2, 8, 30, []),
  (2, 1, 5, []),
  (0, 5, 9, [(2, 1, 0, 0), (2, 26, 0, 6), (2, 28, 0, 6), (2, 29, 0, 7), (2, 31, 0, 24), (2, 32, 0, 6), (2, 33, 0, 6), (1, 0, 0, 0), (1, 0, 0, 0)]),
  (5, 6, 5, [(2, 27, 0, 0)]),
  (2, 6, 5, []),
  (1, 1, 6, []),
  (5, 7, 101, [(2, 30, 0, 0)]),
  (2, 7, 101, []),
  (3, 1, 24, []),
  (1, 1, 6, []),
  (1, 1, 6, []),
  (1, 1, 7, []),
  (1, 1, 6, []),
  (0, 6, 15, [(2, 4, 0, 0), (2, 21, 0, 0), (2, 25, 0, 0), (2, 35, 0, 6), (2, 37, 0, 128), (2, 38, 0, 128), (0, 0, 0, 0), (0, 0, 0, 0), (0, 0, 0, 0), (0, 0, 0, 0), (0, 0, 0, 0), (0, 0, 0, 0), (0, 0, 0, 0), (0, 0, 0, 0), (1, 0, 0, 0)]),
  (2, 1, 128, []),
  (1, 1, 128, []),
  (9, 0, 0, []),
  (0, 9, 48, [(2, 41, 0, 6), (2, 42, 0, 6), (2, 43, 0, 6), (2, 44, 0, 18), (2, 45, 0, 64), (2, 46, 0, 64), (0, 0, 0, 0), (0, 0, 0, 0), (0, 0, 0, 0), (2, 47, 0, 144), (2, 48, 0, 6), (0, 0, 0, 0), (2, 49, 0, 40), (0, 0, 0, 0), (0, 0, 0, 0), (0, 0, 0, 0), (2, 50, 0, 10), (2, 51, 0, 10), (2, 52, 0, 30), (0, 0, 0, 0), (2, 53, 0, 7), (2, 54, 0, 6), (0, 0, 0, 0), (2, 55, 0, 7), (2, 56, 0, 240), (2, 57, 0, 240), (2, 58, 0, 5), (2, 59, 0, 6), (1, 0, 0, 0), (2, 60, 0, 6), (0, 0, 0, 0), (2, 61, 0, 7), (0, 0, 0, 0), (2, 62, 0, 101), (0, 0, 0, 0), (2, 63, 0, 5), (1, 0, 0, 0), (2, 64, 0, 32), (0, 0, 0, 0), (0, 0, 0, 0), (1, 0, 0, 0), (2, 65, 0, 6), (2, 66, 0, 4), (2, 67, 0, 4), (2, 68, 0, 4), (2, 69, 0, 160), (2, 70, 0, 40), (0, 0, 0, 0)]),
  (1, 1, 6, []),
  (1, 1, 6, []),
  (1, 1, 6, []),
  (1, 1, 18, []),
  (1, 1, 64, []),
  (1, 1, 64, []),
  (1, 1, 144, []),
  (1, 1, 6, []),
  (1, 1, 40, []),
  (1, 1, 10, []),
  (1, 1, 10, []),
  (1, 1, 30, []),
  (1, 1, 7, []),
  (1, 1, 6, []),
  (1, 1, 7, []),
  (2, 1, 240, []),
  (1, 1, 240, []),
  (2, 1, 5, []),
  (1, 1, 6, []),
  (1, 1, 6, []),
  (1, 1, 7, []),
  (2, 1, 101, []),
  (1, 1, 5, []),
  (2, 1, 32, []),
  (1, 1, 6, []),
  (3, 1, 4, []),
  (1, 1, 4, []),
  (1, 1, 4, []),
  (1, 1, 160, []),
  (1, 1, 40, [])]
def dsK : List (Nat × Nat) := [(2, 0), (3, 0), (3, 6), (3, 12), (3, 18), (3, 24), (3, 30), (1, 0), (5, 0), (6, 0), (6, 8), (6, 16), (6, 24), (6, 32), (6, 40), (6, 48), (6, 56), (7, 0), (8, 0), (8, 8), (8, 16), (8, 24), (8, 32), (8, 40), (8, 48), (8, 56), (4, 0), (10, 0), (11, 0), (11, 3), (11, 6), (11, 9), (11, 12), (11, 15), (11, 18), (11, 21), (11, 24), (11, 27), (11, 30), (11, 33), (11, 36), (11, 39), (11, 42), (11, 45), (11, 48), (11, 51), (11, 54), (11, 57), (11, 60), (11, 63), (11, 66), (11, 69), (11, 72), (11, 75), (11, 78), (11, 81), (11, 84), (11, 87), (11, 90), (11, 93), (11, 96), (11, 99), (11, 102), (11, 105), (11, 108), (11, 111), (11, 114), (11, 117), (11, 120), (11, 123), (11, 126), (11, 129), (11, 132), (11, 135), (11, 138), (11, 141), (12, 0), (9, 0), (14, 0), (15, 0), (13, 0), (17, 0), (18, 0), (18, 40), (18, 80), (18, 120), (19, 0), (20, 0), (16, 0), (22, 0), (23, 0), (23, 30), (23, 60), (23, 90), (23, 120), (23, 150), (23, 180), (23, 210), (24, 0), (21, 0), (26, 0), (27, 0), (27, 5), (27, 10), (27, 15), (27, 20), (27, 25), (28, 0), (29, 0), (30, 0), (30, 101), (30, 202), (30, 303), (30, 404), (30, 505), (30, 606), (31, 0), (32, 0), (33, 0), (25, 0), (34, 0), (35, 0), (37, 0), (38, 0), (36, 0), (0, 0)]
def dsM : List (Nat × Nat) := [(41, 0), (42, 0), (43, 0), (44, 0), (45, 0), (46, 0), (47, 0), (48, 0), (49, 0), (50, 0), (51, 0), (52, 0), (53, 0), (54, 0), (55, 0), (56, 0), (57, 0), (58, 0), (59, 0), (60, 0), (61, 0), (62, 0), (63, 0), (64, 0), (65, 0), (66, 0), (67, 0), (68, 0), (69, 0), (70, 0), (40, 0)]
def dsG : List (Nat × Nat) := [(2, 0), (3, 0), (3, 6), (3, 12), (3, 18), (3, 24), (3, 30), (1, 0)]
def dsN : List (Nat × Nat) := [(5, 0), (6, 0), (6, 8), (6, 16), (6, 24), (6, 32), (6, 40), (6, 48), (6, 56), (7, 0), (8, 0), (8, 8), (8, 16), (8, 24), (8, 32), (8, 40), (8, 48), (8, 56), (4, 0)]
def dsQ : List (Nat × Nat) := [(10, 0), (11, 0), (11, 3), (11, 6), (11, 9), (11, 12), (11, 15), (11, 18), (11, 21), (11, 24), (11, 27), (11, 30), (11, 33), (11, 36), (11, 39), (11, 42), (11, 45), (11, 48), (11, 51), (11, 54), (11, 57), (11, 60), (11, 63), (11, 66), (11, 69), (11, 72), (11, 75), (11, 78), (11, 81), (11, 84), (11, 87), (11, 90), (11, 93), (11, 96), (11, 99), (11, 102), (11, 105), (11, 108), (11, 111), (11, 114), (11, 117), (11, 120), (11, 123), (11, 126), (11, 129), (11, 132), (11, 135), (11, 138), (11, 141), (12, 0), (9, 0)]
def dsI : List (Nat × Nat) := [(14, 0), (15, 0), (13, 0)]
def dsH : List (Nat × Nat) := [(17, 0), (18, 0), (18, 40), (18, 80), (18, 120), (19, 0), (20, 0), (16, 0)]
def dsD : List (Nat × Nat) := [(22, 0), (23, 0), (23, 30), (23, 60), (23, 90), (23, 120), (23, 150), (23, 180), (23, 210), (24, 0), (21, 0)]
def dsP : List (Nat × Nat) := [(26, 0), (27, 0), (27, 5), (27, 10), (27, 15), (27, 20), (27, 25), (28, 0), (29, 0), (30, 0), (30, 101), (30, 202), (30, 303), (30, 404), (30, 505), (30, 606), (31, 0), (32, 0), (33, 0), (25, 0)]
def dsR : List (Nat × Nat) := [(37, 0), (38, 0), (36, 0)]

def pp_e (t : Nat) : Nat × Nat × Nat × List (Nat × Nat × Nat × Nat) := pp_sh.getD t (9, 0, 0, [])
/-- class numbers, slots, addresses; the classes of int[], long[], boolean[], int[][], long[][] -/
abbrev pp_X : Type := (Nat → ClassId) × (Nat → Nat → Nat) × (Nat → Nat → Nat) × ClassId × ClassId × ClassId × ClassId × ClassId
def pp_ty (X : pp_X) : List (ClassId × FieldType) := [(X.2.2.2.1, .int), (X.2.2.2.2.1, .long), (X.2.2.2.2.2.1, .boolean), (X.2.2.2.2.2.2.1, .array .int), (X.2.2.2.2.2.2.2, .array .long)]
def pp_fv (ad : Nat → Nat → Nat) (σ : pp_M) (t j : Nat) (f : Nat × Nat × Nat × Nat) : Value := match f.1 with
  | 0 => .int (σ.1 t j)
  | 1 => .long (σ.2 t j)
  | _ => .ref (ad f.2.1 f.2.2.1)
def pp_fl (ad : Nat → Nat → Nat) (σ : pp_M) (t : Nat) : Nat → List (Nat × Nat × Nat × Nat) → List Value
  | _, [] => []
  | j, f :: l => pp_fv ad σ t j f :: pp_fl ad σ t (j + 1) l
def pp_cellOf (X : pp_X) (σ : pp_M) (t o : Nat) (q : Nat × Nat × Nat × List (Nat × Nat × Nat × Nat)) : va_E := match q.1 with
  | 0 => .inr (q.2.1, pp_fl X.2.2.1 σ t 0 q.2.2.2)
  | 1 => .inl (X.2.2.2.1, q.2.2.1, .inl (fun j => if j < q.2.2.1 then σ.1 t (o + j) else 0))
  | 2 => .inl (X.2.2.2.2.1, q.2.2.1, .inr (.inl (fun j => if j < q.2.2.1 then σ.2 t (o + j) else 0)))
  | 3 => .inl (X.2.2.2.2.2.1, q.2.2.1, .inl (fun j => if j < q.2.2.1 then σ.1 t (o + j) else 0))
  | 4 => .inl (X.2.2.2.2.2.2.1, q.2.1, .inr (.inr (.inr (.inr (fun i => if i < q.2.1 then some (X.2.2.1 (q.2.2.2.getD 0 (0, 0, 0, 0)).2.1 (i * q.2.2.1)) else none)))))
  | _ => .inl (X.2.2.2.2.2.2.2, q.2.1, .inr (.inr (.inr (.inr (fun i => if i < q.2.1 then some (X.2.2.1 (q.2.2.2.getD 0 (0, 0, 0, 0)).2.1 (i * q.2.2.1)) else none)))))
def pp_cell (X : pp_X) (σ : pp_M) (t o : Nat) : va_E := pp_cellOf X σ t o (pp_e t)
def pp_wd (X : pp_X) (ds : List (Nat × Nat)) (σ : pp_M) : va_W := ds.map (fun d => (X.2.2.1 d.1 d.2, pp_cell X σ d.1 d.2))
def pp_A (X : pp_X) (ds : List (Nat × Nat)) : Nat → Prop := fun q => ∃ d ∈ ds, q = X.2.2.1 d.1 d.2
/-- different cells have different addresses; no cell stands twice in the list -/
def pp_inj (X : pp_X) (ds : List (Nat × Nat)) : Prop := ∀ (i j : Nat) (d d' : Nat × Nat), ds[i]? = some d → ds[j]? = some d' → X.2.2.1 d.1 d.2 = X.2.2.1 d'.1 d'.2 → i = j
/-- rows of a token lie at its multiples of the width -/
def pp_row (d : Nat × Nat) : Prop := d.2 % (pp_e d.1).2.2.1 = 0
theorem pp_wd_at {X : pp_X} {ds : List (Nat × Nat)} {σ : pp_M} {t o : Nat} (h : (t, o) ∈ ds) : ∃ k : Nat, ds[k]? = some (t, o) ∧ (pp_wd X ds σ)[k]? = some (X.2.2.1 t o, pp_cell X σ t o) := by
  obtain ⟨k, hk⟩ := List.getElem?_of_mem h
  exact ⟨k, hk, by unfold pp_wd; rw [List.getElem?_map, hk]; rfl⟩
theorem pp_wd_D {X : pp_X} {ds : List (Nat × Nat)} {σ : pp_M} {A : Nat → Prop} (hi : pp_inj X ds) (hA : ∀ q, pp_A X ds q → A q) : va_D A (pp_wd X ds σ) := by
  have key : ∀ (k : Nat) (q : Nat × va_E), (pp_wd X ds σ)[k]? = some q → ∃ d, ds[k]? = some d ∧ q.1 = X.2.2.1 d.1 d.2 := by
    intro k q hk
    unfold pp_wd at hk
    rw [List.getElem?_map] at hk
    cases hd : ds[k]? with
    | none => rw [hd] at hk; cases hk
    | some d => rw [hd] at hk; cases hk; exact ⟨d, rfl, rfl⟩
  refine ⟨fun i j p q h1 h2 h3 => ?_, fun k q hk => ?_⟩
  · obtain ⟨d, e1, e2⟩ := key i p h1
    obtain ⟨d', e3, e4⟩ := key j q h2
    exact hi i j d d' e1 e3 (e2.symm.trans (h3.trans e4))
  · obtain ⟨d, e1, e2⟩ := key k q hk
    exact hA q.1 ⟨d, List.mem_of_getElem? e1, e2⟩
/-- one cell changes: the world with the memory that tells so -/
theorem pp_wd_set {X : pp_X} {ds : List (Nat × Nat)} {σ σ' : pp_M} {t o k : Nat} {a : Nat} {e : va_E} (hk : ds[k]? = some (t, o)) (hi : pp_inj X ds) (ha : a = X.2.2.1 t o) (he : e = pp_cell X σ' t o) (ho : ∀ d ∈ ds, d ≠ (t, o) → pp_cell X σ' d.1 d.2 = pp_cell X σ d.1 d.2) : (pp_wd X ds σ).set k (a, e) = pp_wd X ds σ' := by
  have hl := (List.getElem?_eq_some_iff.mp hk).1
  apply List.ext_getElem?
  intro j
  by_cases hj : j = k
  · subst hj
    rw [List.getElem?_set_self (by unfold pp_wd; rw [List.length_map]; exact hl)]
    unfold pp_wd
    rw [List.getElem?_map, hk, ha, he]
    rfl
  · rw [List.getElem?_set_ne (Ne.symm hj)]
    unfold pp_wd
    rw [List.getElem?_map, List.getElem?_map]
    cases hd : ds[j]? with
    | none => rfl
    | some d =>
      have hne : d ≠ (t, o) := fun h => hj (hi j k d (t, o) hd hk (by rw [h]))
      simp only [Option.map_some]
      rw [ho d (List.mem_of_getElem? hd) hne]
theorem pp_fl_at (ad : Nat → Nat → Nat) (σ : pp_M) (t : Nat) : ∀ (l : List (Nat × Nat × Nat × Nat)) (j k : Nat), (pp_fl ad σ t j l)[k]? = (l[k]?).map (pp_fv ad σ t (j + k))
  | [], j, k => by simp [pp_fl]
  | f :: l, j, 0 => by simp [pp_fl]
  | f :: l, j, k + 1 => by
    simp only [pp_fl, List.getElem?_cons_succ]
    rw [pp_fl_at ad σ t l (j + 1) k]
    rw [show j + 1 + k = j + (k + 1) by omega]
theorem pp_fl_len (ad : Nat → Nat → Nat) (σ : pp_M) (t : Nat) : ∀ (l : List (Nat × Nat × Nat × Nat)) (j : Nat), (pp_fl ad σ t j l).length = l.length
  | [], j => rfl
  | f :: l, j => by simp only [pp_fl, List.length_cons]; rw [pp_fl_len ad σ t l (j + 1)]
end
section
/-! the judgement pp_E: a method's body at a place, with locals, stack and memory in my own words; a rule an instruction -/
/-- the machine: program .. code, the end, cells and slots made so far, what may change -/
abbrev pp_Y : Type := Program × Launch × Env × Room × State × MethodId × Array Value × List Frame × Method × Code × (State → Prop) × Nat × Nat × (Nat → Prop)
abbrev pp_G : Type := pp_Y × pp_X
def pp_ok (ds : List (Nat × Nat)) : Prop := ∀ d ∈ ds, ((pp_e d.1).1 = 0 → d.2 = 0) ∧ d.2 % (pp_e d.1).2.2.1 = 0
def pp_nb : List (String × Nat × MethodName) := [("PedlarPack", 27, ⟨"PedlarPack$Market", "<init>", "()V"⟩), ("PedlarPack", 34, ⟨"PedlarPack$Line", "<init>", "()V"⟩), ("PedlarPack$Goods", 16, ⟨"PedlarPack", "within", "(III)Z"⟩), ("PedlarPack$Line", 58, ⟨"PedlarPack", "within", "(III)Z"⟩), ("PedlarPack$Line", 44, ⟨"PedlarPack", "isFarm", "(I)Z"⟩), ("PedlarPack$Line", 52, ⟨"PedlarPack", "isThing", "(I)Z"⟩), ("PedlarPack$Market", 20, ⟨"PedlarPack", "within", "(III)Z"⟩), ("PedlarPack$Sheets", 31, ⟨"PedlarPack", "within", "(III)Z"⟩)]
/-- links to private members of nest mates -/
def pp_Nw (U : State) : Prop := ∀ q ∈ pp_nb, va_Nw (.methodLinkNest q.1 q.2.1 q.2.2 "PedlarPack") U
theorem pp_Nw.warm {s U : State} (hW : s.WarmedH U.vm) (h : pp_Nw s) : pp_Nw U := fun q hq => va_Nw.warmM hW (h q hq)
theorem pp_Nw.same {u U : State} (e : u.vm = U.vm) (h : pp_Nw u) : pp_Nw U := fun q hq => va_Nw.same rfl e (h q hq)
def pp_lv (X : pp_X) (lv : List (Nat × pp_V)) : List (Nat × Value) := lv.map (fun q => (q.1, ppv X.2.2.1 q.2))
def pp_Fx (Γ : pp_G) (ds : List (Nat × Nat)) (cc : ByteArray) (nL : Nat) (own : String) (F L : Nat) : Prop := match Γ with
  | ((p, l, e, R, s, m, args, below, meth, c, Q, cl, sl, A), X) => p.tables.exec = Jvm.exec ∧ c.code = cc ∧ c.maxLocals = nL ∧ s.vm.findClass own = some m.cls ∧ (∀ w ∈ pp_tb, w.before args s = true) ∧ va_K (X.1, X.2.1) pp_cl (pp_ty X) s ∧ (pp_inj X ds ∧ pp_ok ds ∧ ∀ q, pp_A X ds q → A q) ∧ (F ≤ R.frames ∧ L ≤ R.locals) ∧ (cl ≤ R.cells ∧ sl ≤ R.slots) ∧ meth.locks = false ∧ pp_Nw s
def pp_E (Γ : pp_G) (ds : List (Nat × Nat)) (cc : ByteArray) (nL : Nat) (pc : Nat) (lv : List (Nat × pp_V)) (st : List pp_V) (σ : pp_M) : Prop := match Γ with
  | ((p, l, e, R, s, m, args, below, meth, c, Q, cl, sl, A), X) => ∀ (H : Heap) (locs : List Loc) (ls : Array Slot), va_P (X.1, X.2.1) pp_cl (pp_wd X ds σ) H → va_S A s.heap H locs → lv_has ls nL (pp_lv X lv) → W p l e R s m args below meth c H locs cl sl Q (F0 m pc ls (st.map (ppv X.2.2.1)))
def pp_Qc (X : pp_X) (ds : List (Nat × Nat)) (A : Nat → Prop) (r : Option pp_V) (σ : pp_M) : Array Value → State → Outcome → State → Prop := fun _ st oc t => oc = .returned (r.map (ppv X.2.2.1)) ∧ va_P (X.1, X.2.1) pp_cl (pp_wd X ds σ) t.heap ∧ va_K (X.1, X.2.1) pp_cl (pp_ty X) t ∧ va_F A st t
/-- the end that is due: the answer r, the memory σ -/
def pp_Rt (Γ : pp_G) (ds : List (Nat × Nat)) (ret : Option FieldType) (r : Option pp_V) (σ : pp_M) : Prop := match Γ with
  | ((p, l, e, R, s, m, args, below, meth, c, Q, cl, sl, A), X) => meth.sig.returnType = ret ∧ Q = MQ below (pp_Qc X ds A r σ) args s cl sl A
-- locals
def pp_at : List (Nat × pp_V) → Nat → Option pp_V
  | [], _ => none
  | q :: l, i => cond (Nat.beq q.1 i) (some q.2) (pp_at l i)
def pp_isL : pp_V → Bool
  | .inr (.inl _) => true
  | _ => false
def pp_kp (i : Nat) (b : Bool) (q : Nat × pp_V) : Bool := !(Nat.beq q.1 i) && (!(b && Nat.beq q.1 (i + 1)) && !(Nat.beq (q.1 + 1) i && pp_isL q.2))
def pp_ins (i : Nat) (v : pp_V) : List (Nat × pp_V) → List (Nat × pp_V)
  | [] => [(i, v)]
  | q :: l => cond (Nat.blt q.1 i) (q :: pp_ins i v l) ((i, v) :: q :: l)
def pp_put (i : Nat) (v : pp_V) (lv : List (Nat × pp_V)) : List (Nat × pp_V) := pp_ins i v (lv.filter (pp_kp i (pp_isL v)))
theorem pp_bq (a b : Nat) : (a == b) = Nat.beq a b := by
  by_cases e : a = b
  · subst e; rw [beq_self_eq_true]; exact (Nat.beq_refl a).symm
  · rw [beq_eq_false_iff_ne.mpr e]
    cases h : Nat.beq a b with
    | false => rfl
    | true => exact absurd (Nat.eq_of_beq_eq_true h) e
theorem pp_at_mem : ∀ {lv : List (Nat × pp_V)} {i : Nat} {v : pp_V}, pp_at lv i = some v → (i, v) ∈ lv
  | [], i, v, h => by simp [pp_at] at h
  | q :: l, i, v, h => by
    unfold pp_at at h
    cases hb : Nat.beq q.1 i with
    | true =>
      rw [hb] at h
      have e : q.1 = i := Nat.eq_of_beq_eq_true hb
      have e2 : q.2 = v := Option.some.inj h
      rw [← e, ← e2]
      exact List.mem_cons_self
    | false =>
      rw [hb] at h
      exact List.mem_cons_of_mem _ (pp_at_mem h)
theorem pp_ins_mem {i : Nat} {v : pp_V} : ∀ {l : List (Nat × pp_V)} {q : Nat × pp_V}, q ∈ pp_ins i v l → q = (i, v) ∨ q ∈ l
  | [], q, h => Or.inl (List.mem_singleton.mp h)
  | x :: l, q, h => by
    unfold pp_ins at h
    cases hb : Nat.blt x.1 i with
    | true =>
      rw [hb] at h
      rcases List.mem_cons.mp h with h | h
      · exact Or.inr (by rw [h]; exact List.mem_cons_self)
      · rcases pp_ins_mem h with h | h
        · exact Or.inl h
        · exact Or.inr (List.mem_cons_of_mem _ h)
    | false =>
      rw [hb] at h
      rcases List.mem_cons.mp h with h | h
      · exact Or.inl h
      · exact Or.inr h
theorem pp_has_sub {ls : Array Slot} {n : Nat} {l l' : List (Nat × Value)} (h : lv_has ls n l) (hs : ∀ q ∈ l', q ∈ l) : lv_has ls n l' := ⟨h.1, h.2.1, fun q hq => h.2.2 q (hs q hq)⟩
theorem pp_has_at {ls : Array Slot} {n : Nat} {X : pp_X} {lv : List (Nat × pp_V)} {i : Nat} {v : pp_V} (h : lv_has ls n (pp_lv X lv)) (hv : pp_at lv i = some v) : ls[i]? = some (.val (ppv X.2.2.1 v)) := h.2.2 (i, ppv X.2.2.1 v) (List.mem_map.mpr ⟨(i, v), pp_at_mem hv, rfl⟩)
theorem pp_cat (ad : Nat → Nat → Nat) (v : pp_V) : ((ppv ad v).category == 2) = pp_isL v := by
  rcases v with x | x | ⟨t, o, n⟩ <;> rfl
theorem pp_put1 {ls : Array Slot} {n : Nat} {X : pp_X} {lv lv' : List (Nat × pp_V)} {i : Nat} {v : pp_V} (hv : pp_isL v = false) (hl : pp_put i v lv = lv') (h : lv_has ls n ((i, ppv X.2.2.1 v) :: (pp_lv X lv).filter (fun q => !(q.1 == i) && !(q.1 + 1 == i && q.2.category == 2)))) : lv_has ls n (pp_lv X lv') := by
  refine pp_has_sub h (fun q hq => ?_)
  subst hl
  obtain ⟨q0, h0, rfl⟩ := List.mem_map.mp hq
  rcases pp_ins_mem h0 with h1 | h1
  · subst h1; exact List.mem_cons_self
  · obtain ⟨h2, h3⟩ := List.mem_filter.mp h1
    refine List.mem_cons_of_mem _ (List.mem_filter.mpr ⟨List.mem_map.mpr ⟨q0, h2, rfl⟩, ?_⟩)
    unfold pp_kp at h3
    rw [hv] at h3
    simp only [Bool.false_and, Bool.not_false, Bool.true_and] at h3
    show (!(q0.1 == i) && !(q0.1 + 1 == i && ((ppv X.2.2.1 q0.2).category == 2))) = true
    rw [pp_cat, pp_bq, pp_bq]
    exact h3
theorem pp_put2 {ls : Array Slot} {n : Nat} {X : pp_X} {lv lv' : List (Nat × pp_V)} {i : Nat} {v : pp_V} (hv : pp_isL v = true) (hl : pp_put i v lv = lv') (h : lv_has ls n ((i, ppv X.2.2.1 v) :: (pp_lv X lv).filter (fun q => !(q.1 == i) && (!(q.1 == i + 1) && !(q.1 + 1 == i && q.2.category == 2))))) : lv_has ls n (pp_lv X lv') := by
  refine pp_has_sub h (fun q hq => ?_)
  subst hl
  obtain ⟨q0, h0, rfl⟩ := List.mem_map.mp hq
  rcases pp_ins_mem h0 with h1 | h1
  · subst h1; exact List.mem_cons_self
  · obtain ⟨h2, h3⟩ := List.mem_filter.mp h1
    refine List.mem_cons_of_mem _ (List.mem_filter.mpr ⟨List.mem_map.mpr ⟨q0, h2, rfl⟩, ?_⟩)
    unfold pp_kp at h3
    rw [hv] at h3
    simp only [Bool.true_and] at h3
    show (!(q0.1 == i) && (!(q0.1 == i + 1) && !(q0.1 + 1 == i && ((ppv X.2.2.1 q0.2).category == 2)))) = true
    rw [pp_cat, pp_bq, pp_bq, pp_bq]
    exact h3
section PPE
variable {Γ : pp_G} {ds : List (Nat × Nat)} {cc : ByteArray} {nL : Nat} {own : String} {F L pc : Nat} {lv lv' : List (Nat × pp_V)} {st : List pp_V} {σ : pp_M}
theorem pp_iconst {n : Int} {v : Int32} (hF : pp_Fx Γ ds cc nL own F L) (d : decode cc pc = .ok (.iconst n, 1)) (hv : Int32.ofInt n = v) (k : pp_E Γ ds cc nL (pc + 1) lv (ppI v :: st) σ) : pp_E Γ ds cc nL pc lv st σ := by
  obtain ⟨⟨p, l, e, R, s, m, args, below, meth, c, Q, cl, sl, A⟩, X⟩ := Γ
  intro H locs ls hP hS hl
  exact lv_iconst hF.1 hF.2.1 d hv (k H locs ls hP hS hl)
theorem pp_bipush {n : Int} {v : Int32} (hF : pp_Fx Γ ds cc nL own F L) (d : decode cc pc = .ok (.bipush n, 2)) (hv : (Int8.ofInt n).toInt32 = v) (k : pp_E Γ ds cc nL (pc + 2) lv (ppI v :: st) σ) : pp_E Γ ds cc nL pc lv st σ := by
  obtain ⟨⟨p, l, e, R, s, m, args, below, meth, c, Q, cl, sl, A⟩, X⟩ := Γ
  intro H locs ls hP hS hl
  exact lv_bipush hF.1 hF.2.1 d hv (k H locs ls hP hS hl)
theorem pp_sipush {n : Int} {v : Int32} (hF : pp_Fx Γ ds cc nL own F L) (d : decode cc pc = .ok (.sipush n, 3)) (hv : (Int16.ofInt n).toInt32 = v) (k : pp_E Γ ds cc nL (pc + 3) lv (ppI v :: st) σ) : pp_E Γ ds cc nL pc lv st σ := by
  obtain ⟨⟨p, l, e, R, s, m, args, below, meth, c, Q, cl, sl, A⟩, X⟩ := Γ
  intro H locs ls hP hS hl
  exact lv_sipush hF.1 hF.2.1 d hv (k H locs ls hP hS hl)
theorem pp_lconst {n : Fin 2} {v : Int64} (hF : pp_Fx Γ ds cc nL own F L) (d : decode cc pc = .ok (.lconst n, 1)) (hv : Int64.ofNat (n : Nat) = v) (k : pp_E Γ ds cc nL (pc + 1) lv (ppL v :: st) σ) : pp_E Γ ds cc nL pc lv st σ := by
  obtain ⟨⟨p, l, e, R, s, m, args, below, meth, c, Q, cl, sl, A⟩, X⟩ := Γ
  intro H locs ls hP hS hl
  exact lv_lconst hF.1 hF.2.1 d hv (k H locs ls hP hS hl)
theorem pp_ldcw {i : Nat} {v : Int32} (hF : pp_Fx Γ ds cc nL own F L) (hw : Cond.constant own i v ∈ pp_tb) (d : decode cc pc = .ok (.ldc_w i, 3)) (k : pp_E Γ ds cc nL (pc + 3) lv (ppI v :: st) σ) : pp_E Γ ds cc nL pc lv st σ := by
  obtain ⟨⟨p, l, e, R, s, m, args, below, meth, c, Q, cl, sl, A⟩, X⟩ := Γ
  intro H locs ls hP hS hl
  exact lv_ldcw hF.1 hF.2.1 hF.2.2.2.1 (hF.2.2.2.2.1 _ hw) d (k H locs ls hP hS hl)
theorem pp_ldc2 {i : Nat} {v : Int64} (hF : pp_Fx Γ ds cc nL own F L) (hw : Cond.constantLong own i v ∈ pp_tb) (d : decode cc pc = .ok (.ldc2_w i, 3)) (k : pp_E Γ ds cc nL (pc + 3) lv (ppL v :: st) σ) : pp_E Γ ds cc nL pc lv st σ := by
  obtain ⟨⟨p, l, e, R, s, m, args, below, meth, c, Q, cl, sl, A⟩, X⟩ := Γ
  intro H locs ls hP hS hl
  exact lv_ldc2 hF.1 hF.2.1 hF.2.2.2.1 (hF.2.2.2.2.1 _ hw) d (k H locs ls hP hS hl)
theorem pp_iload_n {j : Fin 4} {i : Nat} {x : Int32} (hF : pp_Fx Γ ds cc nL own F L) (d : decode cc pc = .ok (.iload_n j, 1)) (hi : (j : Nat) = i) (ha : pp_at lv i = some (ppI x)) (k : pp_E Γ ds cc nL (pc + 1) lv (ppI x :: st) σ) : pp_E Γ ds cc nL pc lv st σ := by
  obtain ⟨⟨p, l, e, R, s, m, args, below, meth, c, Q, cl, sl, A⟩, X⟩ := Γ
  intro H locs ls hP hS hl
  exact lv_iload_n hF.1 hF.2.1 d hi (pp_has_at hl ha) (k H locs ls hP hS hl)
theorem pp_iload {i : Nat} {x : Int32} (hF : pp_Fx Γ ds cc nL own F L) (d : decode cc pc = .ok (.iload i, 2)) (ha : pp_at lv i = some (ppI x)) (k : pp_E Γ ds cc nL (pc + 2) lv (ppI x :: st) σ) : pp_E Γ ds cc nL pc lv st σ := by
  obtain ⟨⟨p, l, e, R, s, m, args, below, meth, c, Q, cl, sl, A⟩, X⟩ := Γ
  intro H locs ls hP hS hl
  exact lv_iload hF.1 hF.2.1 d (pp_has_at hl ha) (k H locs ls hP hS hl)
theorem pp_lload_n {j : Fin 4} {i : Nat} {x : Int64} (hF : pp_Fx Γ ds cc nL own F L) (d : decode cc pc = .ok (.lload_n j, 1)) (hi : (j : Nat) = i) (ha : pp_at lv i = some (ppL x)) (k : pp_E Γ ds cc nL (pc + 1) lv (ppL x :: st) σ) : pp_E Γ ds cc nL pc lv st σ := by
  obtain ⟨⟨p, l, e, R, s, m, args, below, meth, c, Q, cl, sl, A⟩, X⟩ := Γ
  intro H locs ls hP hS hl
  exact lv_lload_n hF.1 hF.2.1 d hi (pp_has_at hl ha) (k H locs ls hP hS hl)
theorem pp_lload {i : Nat} {x : Int64} (hF : pp_Fx Γ ds cc nL own F L) (d : decode cc pc = .ok (.lload i, 2)) (ha : pp_at lv i = some (ppL x)) (k : pp_E Γ ds cc nL (pc + 2) lv (ppL x :: st) σ) : pp_E Γ ds cc nL pc lv st σ := by
  obtain ⟨⟨p, l, e, R, s, m, args, below, meth, c, Q, cl, sl, A⟩, X⟩ := Γ
  intro H locs ls hP hS hl
  exact lv_lload hF.1 hF.2.1 d (pp_has_at hl ha) (k H locs ls hP hS hl)
theorem pp_aload_n {j : Fin 4} {i t o n : Nat} (hF : pp_Fx Γ ds cc nL own F L) (d : decode cc pc = .ok (.aload_n j, 1)) (hi : (j : Nat) = i) (ha : pp_at lv i = some (ppR t o n)) (k : pp_E Γ ds cc nL (pc + 1) lv (ppR t o n :: st) σ) : pp_E Γ ds cc nL pc lv st σ := by
  obtain ⟨⟨p, l, e, R, s, m, args, below, meth, c, Q, cl, sl, A⟩, X⟩ := Γ
  intro H locs ls hP hS hl
  exact lv_aload_n hF.1 hF.2.1 d hi (pp_has_at hl ha) (k H locs ls hP hS hl)
theorem pp_aload {i t o n : Nat} (hF : pp_Fx Γ ds cc nL own F L) (d : decode cc pc = .ok (.aload i, 2)) (ha : pp_at lv i = some (ppR t o n)) (k : pp_E Γ ds cc nL (pc + 2) lv (ppR t o n :: st) σ) : pp_E Γ ds cc nL pc lv st σ := by
  obtain ⟨⟨p, l, e, R, s, m, args, below, meth, c, Q, cl, sl, A⟩, X⟩ := Γ
  intro H locs ls hP hS hl
  exact lv_aload hF.1 hF.2.1 d (pp_has_at hl ha) (k H locs ls hP hS hl)
theorem pp_istore_n {j : Fin 4} {i : Nat} {x : Int32} (hF : pp_Fx Γ ds cc nL own F L) (d : decode cc pc = .ok (.istore_n j, 1)) (hi : (j : Nat) = i) (hn : i < nL) (hp : pp_put i (ppI x) lv = lv') (k : pp_E Γ ds cc nL (pc + 1) lv' st σ) : pp_E Γ ds cc nL pc lv (ppI x :: st) σ := by
  obtain ⟨⟨p, l, e, R, s, m, args, below, meth, c, Q, cl, sl, A⟩, X⟩ := Γ
  intro H locs ls hP hS hl
  exact lv_istore_n hF.1 hF.2.1 d hi hl hn rfl (fun ls' hl' => k H locs ls' hP hS (pp_put1 rfl hp hl'))
theorem pp_istore {i : Nat} {x : Int32} (hF : pp_Fx Γ ds cc nL own F L) (d : decode cc pc = .ok (.istore i, 2)) (hn : i < nL) (hp : pp_put i (ppI x) lv = lv') (k : pp_E Γ ds cc nL (pc + 2) lv' st σ) : pp_E Γ ds cc nL pc lv (ppI x :: st) σ := by
  obtain ⟨⟨p, l, e, R, s, m, args, below, meth, c, Q, cl, sl, A⟩, X⟩ := Γ
  intro H locs ls hP hS hl
  exact lv_istore hF.1 hF.2.1 d hl hn rfl (fun ls' hl' => k H locs ls' hP hS (pp_put1 rfl hp hl'))
theorem pp_lstore_n {j : Fin 4} {i : Nat} {x : Int64} (hF : pp_Fx Γ ds cc nL own F L) (d : decode cc pc = .ok (.lstore_n j, 1)) (hi : (j : Nat) = i) (hn : i + 1 < nL) (hp : pp_put i (ppL x) lv = lv') (k : pp_E Γ ds cc nL (pc + 1) lv' st σ) : pp_E Γ ds cc nL pc lv (ppL x :: st) σ := by
  obtain ⟨⟨p, l, e, R, s, m, args, below, meth, c, Q, cl, sl, A⟩, X⟩ := Γ
  intro H locs ls hP hS hl
  exact lv_lstore_n hF.1 hF.2.1 d hi hl hn rfl (fun ls' hl' => k H locs ls' hP hS (pp_put2 rfl hp hl'))
theorem pp_lstore {i : Nat} {x : Int64} (hF : pp_Fx Γ ds cc nL own F L) (d : decode cc pc = .ok (.lstore i, 2)) (hn : i + 1 < nL) (hp : pp_put i (ppL x) lv = lv') (k : pp_E Γ ds cc nL (pc + 2) lv' st σ) : pp_E Γ ds cc nL pc lv (ppL x :: st) σ := by
  obtain ⟨⟨p, l, e, R, s, m, args, below, meth, c, Q, cl, sl, A⟩, X⟩ := Γ
  intro H locs ls hP hS hl
  exact lv_lstore hF.1 hF.2.1 d hl hn rfl (fun ls' hl' => k H locs ls' hP hS (pp_put2 rfl hp hl'))
theorem pp_astore_n {j : Fin 4} {i : Nat} {t o n : Nat} (hF : pp_Fx Γ ds cc nL own F L) (d : decode cc pc = .ok (.astore_n j, 1)) (hi : (j : Nat) = i) (hn : i < nL) (hp : pp_put i (ppR t o n) lv = lv') (k : pp_E Γ ds cc nL (pc + 1) lv' st σ) : pp_E Γ ds cc nL pc lv (ppR t o n :: st) σ := by
  obtain ⟨⟨p, l, e, R, s, m, args, below, meth, c, Q, cl, sl, A⟩, X⟩ := Γ
  intro H locs ls hP hS hl
  exact lv_astore_n hF.1 hF.2.1 d hi hl hn rfl (fun ls' hl' => k H locs ls' hP hS (pp_put1 rfl hp hl'))
theorem pp_astore {i : Nat} {t o n : Nat} (hF : pp_Fx Γ ds cc nL own F L) (d : decode cc pc = .ok (.astore i, 2)) (hn : i < nL) (hp : pp_put i (ppR t o n) lv = lv') (k : pp_E Γ ds cc nL (pc + 2) lv' st σ) : pp_E Γ ds cc nL pc lv (ppR t o n :: st) σ := by
  obtain ⟨⟨p, l, e, R, s, m, args, below, meth, c, Q, cl, sl, A⟩, X⟩ := Γ
  intro H locs ls hP hS hl
  exact lv_astore hF.1 hF.2.1 d hl hn rfl (fun ls' hl' => k H locs ls' hP hS (pp_put1 rfl hp hl'))
theorem pp_iinc {i : Nat} {n : Int} {x v : Int32} (hF : pp_Fx Γ ds cc nL own F L) (d : decode cc pc = .ok (.iinc i n, 3)) (ha : pp_at lv i = some (ppI x)) (hv : x + Int32.ofInt n = v) (hn : i < nL) (hp : pp_put i (ppI v) lv = lv') (k : pp_E Γ ds cc nL (pc + 3) lv' st σ) : pp_E Γ ds cc nL pc lv st σ := by
  obtain ⟨⟨p, l, e, R, s, m, args, below, meth, c, Q, cl, sl, A⟩, X⟩ := Γ
  intro H locs ls hP hS hl
  have hm : ((i, Value.int x) : Nat × Value) ∈ pp_lv X lv := List.mem_map.mpr ⟨(i, ppI x), pp_at_mem ha, rfl⟩
  obtain ⟨q, hq⟩ := List.getElem?_of_mem hm
  exact lv_iinc (k := q) hF.1 hF.2.1 d hl hq hv hn rfl (fun ls' hl' => k H locs ls' hP hS (pp_put1 rfl hp hl'))
theorem pp_iadd {x y : Int32} (hF : pp_Fx Γ ds cc nL own F L) (d : decode cc pc = .ok (.iadd, 1)) (k : pp_E Γ ds cc nL (pc + 1) lv (ppI (x + y) :: st) σ) : pp_E Γ ds cc nL pc lv (ppI y :: ppI x :: st) σ := by
  obtain ⟨⟨p, l, e, R, s, m, args, below, meth, c, Q, cl, sl, A⟩, X⟩ := Γ
  intro H locs ls hP hS hl
  exact lv_iadd hF.1 hF.2.1 d (k H locs ls hP hS hl)
theorem pp_isub {x y : Int32} (hF : pp_Fx Γ ds cc nL own F L) (d : decode cc pc = .ok (.isub, 1)) (k : pp_E Γ ds cc nL (pc + 1) lv (ppI (x - y) :: st) σ) : pp_E Γ ds cc nL pc lv (ppI y :: ppI x :: st) σ := by
  obtain ⟨⟨p, l, e, R, s, m, args, below, meth, c, Q, cl, sl, A⟩, X⟩ := Γ
  intro H locs ls hP hS hl
  exact lv_isub hF.1 hF.2.1 d (k H locs ls hP hS hl)
theorem pp_imul {x y : Int32} (hF : pp_Fx Γ ds cc nL own F L) (d : decode cc pc = .ok (.imul, 1)) (k : pp_E Γ ds cc nL (pc + 1) lv (ppI (x * y) :: st) σ) : pp_E Γ ds cc nL pc lv (ppI y :: ppI x :: st) σ := by
  obtain ⟨⟨p, l, e, R, s, m, args, below, meth, c, Q, cl, sl, A⟩, X⟩ := Γ
  intro H locs ls hP hS hl
  exact lv_imul hF.1 hF.2.1 d (k H locs ls hP hS hl)
theorem pp_iand {x y : Int32} (hF : pp_Fx Γ ds cc nL own F L) (d : decode cc pc = .ok (.iand, 1)) (k : pp_E Γ ds cc nL (pc + 1) lv (ppI (x &&& y) :: st) σ) : pp_E Γ ds cc nL pc lv (ppI y :: ppI x :: st) σ := by
  obtain ⟨⟨p, l, e, R, s, m, args, below, meth, c, Q, cl, sl, A⟩, X⟩ := Γ
  intro H locs ls hP hS hl
  exact lv_iand hF.1 hF.2.1 d (k H locs ls hP hS hl)
theorem pp_ior {x y : Int32} (hF : pp_Fx Γ ds cc nL own F L) (d : decode cc pc = .ok (.ior, 1)) (k : pp_E Γ ds cc nL (pc + 1) lv (ppI (x ||| y) :: st) σ) : pp_E Γ ds cc nL pc lv (ppI y :: ppI x :: st) σ := by
  obtain ⟨⟨p, l, e, R, s, m, args, below, meth, c, Q, cl, sl, A⟩, X⟩ := Γ
  intro H locs ls hP hS hl
  exact lv_ior hF.1 hF.2.1 d (k H locs ls hP hS hl)
theorem pp_ixor {x y : Int32} (hF : pp_Fx Γ ds cc nL own F L) (d : decode cc pc = .ok (.ixor, 1)) (k : pp_E Γ ds cc nL (pc + 1) lv (ppI (x ^^^ y) :: st) σ) : pp_E Γ ds cc nL pc lv (ppI y :: ppI x :: st) σ := by
  obtain ⟨⟨p, l, e, R, s, m, args, below, meth, c, Q, cl, sl, A⟩, X⟩ := Γ
  intro H locs ls hP hS hl
  exact lv_ixor hF.1 hF.2.1 d (k H locs ls hP hS hl)
theorem pp_ishl {x y : Int32} (hF : pp_Fx Γ ds cc nL own F L) (d : decode cc pc = .ok (.ishl, 1)) (k : pp_E Γ ds cc nL (pc + 1) lv (ppI (x <<< (y &&& 31)) :: st) σ) : pp_E Γ ds cc nL pc lv (ppI y :: ppI x :: st) σ := by
  obtain ⟨⟨p, l, e, R, s, m, args, below, meth, c, Q, cl, sl, A⟩, X⟩ := Γ
  intro H locs ls hP hS hl
  exact lv_ishl hF.1 hF.2.1 d (k H locs ls hP hS hl)
theorem pp_ishr {x y : Int32} (hF : pp_Fx Γ ds cc nL own F L) (d : decode cc pc = .ok (.ishr, 1)) (k : pp_E Γ ds cc nL (pc + 1) lv (ppI (x >>> (y &&& 31)) :: st) σ) : pp_E Γ ds cc nL pc lv (ppI y :: ppI x :: st) σ := by
  obtain ⟨⟨p, l, e, R, s, m, args, below, meth, c, Q, cl, sl, A⟩, X⟩ := Γ
  intro H locs ls hP hS hl
  exact lv_ishr hF.1 hF.2.1 d (k H locs ls hP hS hl)
theorem pp_iushr {x y : Int32} (hF : pp_Fx Γ ds cc nL own F L) (d : decode cc pc = .ok (.iushr, 1)) (k : pp_E Γ ds cc nL (pc + 1) lv (ppI ((x.toUInt32 >>> (y.toUInt32 &&& Int32.toUInt32 31)).toInt32) :: st) σ) : pp_E Γ ds cc nL pc lv (ppI y :: ppI x :: st) σ := by
  obtain ⟨⟨p, l, e, R, s, m, args, below, meth, c, Q, cl, sl, A⟩, X⟩ := Γ
  intro H locs ls hP hS hl
  exact lv_iushr hF.1 hF.2.1 d rfl (k H locs ls hP hS hl)
theorem pp_idiv {x y : Int32} (hF : pp_Fx Γ ds cc nL own F L) (d : decode cc pc = .ok (.idiv, 1)) (hne : ¬ y = 0) (k : pp_E Γ ds cc nL (pc + 1) lv (ppI (x / y) :: st) σ) : pp_E Γ ds cc nL pc lv (ppI y :: ppI x :: st) σ := by
  obtain ⟨⟨p, l, e, R, s, m, args, below, meth, c, Q, cl, sl, A⟩, X⟩ := Γ
  intro H locs ls hP hS hl
  exact lv_idiv hF.1 hF.2.1 d hne (k H locs ls hP hS hl)
theorem pp_irem {x y : Int32} (hF : pp_Fx Γ ds cc nL own F L) (d : decode cc pc = .ok (.irem, 1)) (hne : ¬ y = 0) (k : pp_E Γ ds cc nL (pc + 1) lv (ppI (x - x / y * y) :: st) σ) : pp_E Γ ds cc nL pc lv (ppI y :: ppI x :: st) σ := by
  obtain ⟨⟨p, l, e, R, s, m, args, below, meth, c, Q, cl, sl, A⟩, X⟩ := Γ
  intro H locs ls hP hS hl
  exact lv_irem hF.1 hF.2.1 d hne (k H locs ls hP hS hl)
theorem pp_ladd {x y : Int64} (hF : pp_Fx Γ ds cc nL own F L) (d : decode cc pc = .ok (.ladd, 1)) (k : pp_E Γ ds cc nL (pc + 1) lv (ppL (x + y) :: st) σ) : pp_E Γ ds cc nL pc lv (ppL y :: ppL x :: st) σ := by
  obtain ⟨⟨p, l, e, R, s, m, args, below, meth, c, Q, cl, sl, A⟩, X⟩ := Γ
  intro H locs ls hP hS hl
  exact lv_ladd hF.1 hF.2.1 d (k H locs ls hP hS hl)
theorem pp_lsub {x y : Int64} (hF : pp_Fx Γ ds cc nL own F L) (d : decode cc pc = .ok (.lsub, 1)) (k : pp_E Γ ds cc nL (pc + 1) lv (ppL (x - y) :: st) σ) : pp_E Γ ds cc nL pc lv (ppL y :: ppL x :: st) σ := by
  obtain ⟨⟨p, l, e, R, s, m, args, below, meth, c, Q, cl, sl, A⟩, X⟩ := Γ
  intro H locs ls hP hS hl
  exact lv_lsub hF.1 hF.2.1 d (k H locs ls hP hS hl)
theorem pp_lmul {x y : Int64} (hF : pp_Fx Γ ds cc nL own F L) (d : decode cc pc = .ok (.lmul, 1)) (k : pp_E Γ ds cc nL (pc + 1) lv (ppL (x * y) :: st) σ) : pp_E Γ ds cc nL pc lv (ppL y :: ppL x :: st) σ := by
  obtain ⟨⟨p, l, e, R, s, m, args, below, meth, c, Q, cl, sl, A⟩, X⟩ := Γ
  intro H locs ls hP hS hl
  exact lv_lmul hF.1 hF.2.1 d (k H locs ls hP hS hl)
theorem pp_ldiv {x y : Int64} (hF : pp_Fx Γ ds cc nL own F L) (d : decode cc pc = .ok (.ldiv, 1)) (hne : ¬ y = 0) (k : pp_E Γ ds cc nL (pc + 1) lv (ppL (x / y) :: st) σ) : pp_E Γ ds cc nL pc lv (ppL y :: ppL x :: st) σ := by
  obtain ⟨⟨p, l, e, R, s, m, args, below, meth, c, Q, cl, sl, A⟩, X⟩ := Γ
  intro H locs ls hP hS hl
  exact lv_ldiv hF.1 hF.2.1 d hne (k H locs ls hP hS hl)
theorem pp_lrem {x y : Int64} (hF : pp_Fx Γ ds cc nL own F L) (d : decode cc pc = .ok (.lrem, 1)) (hne : ¬ y = 0) (k : pp_E Γ ds cc nL (pc + 1) lv (ppL (x - x / y * y) :: st) σ) : pp_E Γ ds cc nL pc lv (ppL y :: ppL x :: st) σ := by
  obtain ⟨⟨p, l, e, R, s, m, args, below, meth, c, Q, cl, sl, A⟩, X⟩ := Γ
  intro H locs ls hP hS hl
  exact lv_lrem hF.1 hF.2.1 d hne (k H locs ls hP hS hl)
theorem pp_lneg {x : Int64} (hF : pp_Fx Γ ds cc nL own F L) (d : decode cc pc = .ok (.lneg, 1)) (k : pp_E Γ ds cc nL (pc + 1) lv (ppL (-x) :: st) σ) : pp_E Γ ds cc nL pc lv (ppL x :: st) σ := by
  obtain ⟨⟨p, l, e, R, s, m, args, below, meth, c, Q, cl, sl, A⟩, X⟩ := Γ
  intro H locs ls hP hS hl
  exact lv_lneg hF.1 hF.2.1 d (k H locs ls hP hS hl)
theorem pp_lshl {x : Int64} {y : Int32} (hF : pp_Fx Γ ds cc nL own F L) (d : decode cc pc = .ok (.lshl, 1)) (k : pp_E Γ ds cc nL (pc + 1) lv (ppL (x <<< (y.toInt64 &&& 63)) :: st) σ) : pp_E Γ ds cc nL pc lv (ppI y :: ppL x :: st) σ := by
  obtain ⟨⟨p, l, e, R, s, m, args, below, meth, c, Q, cl, sl, A⟩, X⟩ := Γ
  intro H locs ls hP hS hl
  exact lv_lshl hF.1 hF.2.1 d rfl (k H locs ls hP hS hl)
theorem pp_i2l {x : Int32} (hF : pp_Fx Γ ds cc nL own F L) (d : decode cc pc = .ok (.i2l, 1)) (k : pp_E Γ ds cc nL (pc + 1) lv (ppL x.toInt64 :: st) σ) : pp_E Γ ds cc nL pc lv (ppI x :: st) σ := by
  obtain ⟨⟨p, l, e, R, s, m, args, below, meth, c, Q, cl, sl, A⟩, X⟩ := Γ
  intro H locs ls hP hS hl
  exact lv_i2l hF.1 hF.2.1 d rfl (k H locs ls hP hS hl)
theorem pp_i2b {x : Int32} (hF : pp_Fx Γ ds cc nL own F L) (d : decode cc pc = .ok (.i2b, 1)) (k : pp_E Γ ds cc nL (pc + 1) lv (ppI x.toInt8.toInt32 :: st) σ) : pp_E Γ ds cc nL pc lv (ppI x :: st) σ := by
  obtain ⟨⟨p, l, e, R, s, m, args, below, meth, c, Q, cl, sl, A⟩, X⟩ := Γ
  intro H locs ls hP hS hl
  exact lv_i2b hF.1 hF.2.1 d rfl (k H locs ls hP hS hl)
theorem pp_i2s {x : Int32} (hF : pp_Fx Γ ds cc nL own F L) (d : decode cc pc = .ok (.i2s, 1)) (k : pp_E Γ ds cc nL (pc + 1) lv (ppI x.toInt16.toInt32 :: st) σ) : pp_E Γ ds cc nL pc lv (ppI x :: st) σ := by
  obtain ⟨⟨p, l, e, R, s, m, args, below, meth, c, Q, cl, sl, A⟩, X⟩ := Γ
  intro H locs ls hP hS hl
  exact lv_i2s hF.1 hF.2.1 d rfl (k H locs ls hP hS hl)
theorem pp_popI {x : Int32} (hF : pp_Fx Γ ds cc nL own F L) (d : decode cc pc = .ok (.pop, 1)) (k : pp_E Γ ds cc nL (pc + 1) lv st σ) : pp_E Γ ds cc nL pc lv (ppI x :: st) σ := by
  obtain ⟨⟨p, l, e, R, s, m, args, below, meth, c, Q, cl, sl, A⟩, X⟩ := Γ
  intro H locs ls hP hS hl
  exact lv_pop hF.1 hF.2.1 d rfl (k H locs ls hP hS hl)
theorem pp_dupR {t o n : Nat} (hF : pp_Fx Γ ds cc nL own F L) (d : decode cc pc = .ok (.dup, 1)) (k : pp_E Γ ds cc nL (pc + 1) lv (ppR t o n :: ppR t o n :: st) σ) : pp_E Γ ds cc nL pc lv (ppR t o n :: st) σ := by
  obtain ⟨⟨p, l, e, R, s, m, args, below, meth, c, Q, cl, sl, A⟩, X⟩ := Γ
  intro H locs ls hP hS hl
  exact lv_dup hF.1 hF.2.1 d rfl (k H locs ls hP hS hl)
theorem pp_dup2 {x : Int32} {t o n : Nat} (hF : pp_Fx Γ ds cc nL own F L) (d : decode cc pc = .ok (.dup2, 1)) (k : pp_E Γ ds cc nL (pc + 1) lv (ppI x :: ppR t o n :: ppI x :: ppR t o n :: st) σ) : pp_E Γ ds cc nL pc lv (ppI x :: ppR t o n :: st) σ := by
  obtain ⟨⟨p, l, e, R, s, m, args, below, meth, c, Q, cl, sl, A⟩, X⟩ := Γ
  intro H locs ls hP hS hl
  exact lv_dup2_11 hF.1 hF.2.1 d rfl rfl (k H locs ls hP hS hl)
theorem pp_goto {off : Int} {tgt : Nat} (hF : pp_Fx Γ ds cc nL own F L) (d : decode cc pc = .ok (.goto off, 3)) (ht : (pc : Int) + off = (tgt : Int)) (k : pp_E Γ ds cc nL tgt lv st σ) : pp_E Γ ds cc nL pc lv st σ := by
  obtain ⟨⟨p, l, e, R, s, m, args, below, meth, c, Q, cl, sl, A⟩, X⟩ := Γ
  intro H locs ls hP hS hl
  exact lv_goto hF.1 hF.2.1 d ht (k H locs ls hP hS hl)
theorem pp_nlt {x y : Int32} (h : y ≤ x) : ¬ x < y := fun q => by
  rw [Int32.le_iff_toInt_le] at h
  rw [Int32.lt_iff_toInt_lt] at q
  omega
theorem pp_nle {x y : Int32} (h : ¬ y ≤ x) : x < y := by
  rw [Int32.le_iff_toInt_le] at h
  rw [Int32.lt_iff_toInt_lt]
  omega
theorem pp_icmp_eq {x y : Int32} {off : Int} {tgt : Nat} (hF : pp_Fx Γ ds cc nL own F L) (d : decode cc pc = .ok (.if_icmp .eq off, 3)) (ht : (pc : Int) + off = (tgt : Int)) (kt : (x = y) → pp_E Γ ds cc nL tgt lv st σ) (kf : ¬ (x = y) → pp_E Γ ds cc nL (pc + 3) lv st σ) : pp_E Γ ds cc nL pc lv (ppI y :: ppI x :: st) σ := by
  obtain ⟨⟨p, l, e, R, s, m, args, below, meth, c, Q, cl, sl, A⟩, X⟩ := Γ
  intro H locs ls hP hS hl
  exact lv_icmp_eq hF.1 hF.2.1 d ht (fun h => kt h H locs ls hP hS hl) (fun h => kf h H locs ls hP hS hl)
theorem pp_if_eq {x : Int32} {off : Int} {tgt : Nat} (hF : pp_Fx Γ ds cc nL own F L) (d : decode cc pc = .ok (.ifCond .eq off, 3)) (ht : (pc : Int) + off = (tgt : Int)) (kt : (x = 0) → pp_E Γ ds cc nL tgt lv st σ) (kf : ¬ (x = 0) → pp_E Γ ds cc nL (pc + 3) lv st σ) : pp_E Γ ds cc nL pc lv (ppI x :: st) σ := by
  obtain ⟨⟨p, l, e, R, s, m, args, below, meth, c, Q, cl, sl, A⟩, X⟩ := Γ
  intro H locs ls hP hS hl
  exact lv_if_eq hF.1 hF.2.1 d ht (fun h => kt h H locs ls hP hS hl) (fun h => kf h H locs ls hP hS hl)
theorem pp_icmp_ne {x y : Int32} {off : Int} {tgt : Nat} (hF : pp_Fx Γ ds cc nL own F L) (d : decode cc pc = .ok (.if_icmp .ne off, 3)) (ht : (pc : Int) + off = (tgt : Int)) (kt : (x = y) → pp_E Γ ds cc nL (pc + 3) lv st σ) (kf : ¬ (x = y) → pp_E Γ ds cc nL tgt lv st σ) : pp_E Γ ds cc nL pc lv (ppI y :: ppI x :: st) σ := by
  obtain ⟨⟨p, l, e, R, s, m, args, below, meth, c, Q, cl, sl, A⟩, X⟩ := Γ
  intro H locs ls hP hS hl
  exact lv_icmp_ne hF.1 hF.2.1 d ht (fun h => kf h H locs ls hP hS hl) (fun h => kt h H locs ls hP hS hl)
theorem pp_if_ne {x : Int32} {off : Int} {tgt : Nat} (hF : pp_Fx Γ ds cc nL own F L) (d : decode cc pc = .ok (.ifCond .ne off, 3)) (ht : (pc : Int) + off = (tgt : Int)) (kt : (x = 0) → pp_E Γ ds cc nL (pc + 3) lv st σ) (kf : ¬ (x = 0) → pp_E Γ ds cc nL tgt lv st σ) : pp_E Γ ds cc nL pc lv (ppI x :: st) σ := by
  obtain ⟨⟨p, l, e, R, s, m, args, below, meth, c, Q, cl, sl, A⟩, X⟩ := Γ
  intro H locs ls hP hS hl
  exact lv_if_ne hF.1 hF.2.1 d ht (fun h => kf h H locs ls hP hS hl) (fun h => kt h H locs ls hP hS hl)
theorem pp_icmp_lt {x y : Int32} {off : Int} {tgt : Nat} (hF : pp_Fx Γ ds cc nL own F L) (d : decode cc pc = .ok (.if_icmp .lt off, 3)) (ht : (pc : Int) + off = (tgt : Int)) (kt : (x < y) → pp_E Γ ds cc nL tgt lv st σ) (kf : ¬ (x < y) → pp_E Γ ds cc nL (pc + 3) lv st σ) : pp_E Γ ds cc nL pc lv (ppI y :: ppI x :: st) σ := by
  obtain ⟨⟨p, l, e, R, s, m, args, below, meth, c, Q, cl, sl, A⟩, X⟩ := Γ
  intro H locs ls hP hS hl
  exact lv_icmp_lt hF.1 hF.2.1 d ht (fun h => kt h H locs ls hP hS hl) (fun h => kf h H locs ls hP hS hl)
theorem pp_if_lt {x : Int32} {off : Int} {tgt : Nat} (hF : pp_Fx Γ ds cc nL own F L) (d : decode cc pc = .ok (.ifCond .lt off, 3)) (ht : (pc : Int) + off = (tgt : Int)) (kt : (x < 0) → pp_E Γ ds cc nL tgt lv st σ) (kf : ¬ (x < 0) → pp_E Γ ds cc nL (pc + 3) lv st σ) : pp_E Γ ds cc nL pc lv (ppI x :: st) σ := by
  obtain ⟨⟨p, l, e, R, s, m, args, below, meth, c, Q, cl, sl, A⟩, X⟩ := Γ
  intro H locs ls hP hS hl
  exact lv_if_lt hF.1 hF.2.1 d ht (fun h => kt h H locs ls hP hS hl) (fun h => kf h H locs ls hP hS hl)
theorem pp_icmp_ge {x y : Int32} {off : Int} {tgt : Nat} (hF : pp_Fx Γ ds cc nL own F L) (d : decode cc pc = .ok (.if_icmp .ge off, 3)) (ht : (pc : Int) + off = (tgt : Int)) (kt : (x < y) → pp_E Γ ds cc nL (pc + 3) lv st σ) (kf : ¬ (x < y) → pp_E Γ ds cc nL tgt lv st σ) : pp_E Γ ds cc nL pc lv (ppI y :: ppI x :: st) σ := by
  obtain ⟨⟨p, l, e, R, s, m, args, below, meth, c, Q, cl, sl, A⟩, X⟩ := Γ
  intro H locs ls hP hS hl
  exact lv_icmp_ge hF.1 hF.2.1 d ht (fun h => kf (pp_nlt h) H locs ls hP hS hl) (fun h => kt (pp_nle h) H locs ls hP hS hl)
theorem pp_if_ge {x : Int32} {off : Int} {tgt : Nat} (hF : pp_Fx Γ ds cc nL own F L) (d : decode cc pc = .ok (.ifCond .ge off, 3)) (ht : (pc : Int) + off = (tgt : Int)) (kt : (x < 0) → pp_E Γ ds cc nL (pc + 3) lv st σ) (kf : ¬ (x < 0) → pp_E Γ ds cc nL tgt lv st σ) : pp_E Γ ds cc nL pc lv (ppI x :: st) σ := by
  obtain ⟨⟨p, l, e, R, s, m, args, below, meth, c, Q, cl, sl, A⟩, X⟩ := Γ
  intro H locs ls hP hS hl
  exact lv_if_ge hF.1 hF.2.1 d ht (fun h => kf (pp_nlt h) H locs ls hP hS hl) (fun h => kt (pp_nle h) H locs ls hP hS hl)
theorem pp_icmp_gt {x y : Int32} {off : Int} {tgt : Nat} (hF : pp_Fx Γ ds cc nL own F L) (d : decode cc pc = .ok (.if_icmp .gt off, 3)) (ht : (pc : Int) + off = (tgt : Int)) (kt : (y < x) → pp_E Γ ds cc nL tgt lv st σ) (kf : ¬ (y < x) → pp_E Γ ds cc nL (pc + 3) lv st σ) : pp_E Γ ds cc nL pc lv (ppI y :: ppI x :: st) σ := by
  obtain ⟨⟨p, l, e, R, s, m, args, below, meth, c, Q, cl, sl, A⟩, X⟩ := Γ
  intro H locs ls hP hS hl
  exact lv_icmp_gt hF.1 hF.2.1 d ht (fun h => kt h H locs ls hP hS hl) (fun h => kf h H locs ls hP hS hl)
theorem pp_if_gt {x : Int32} {off : Int} {tgt : Nat} (hF : pp_Fx Γ ds cc nL own F L) (d : decode cc pc = .ok (.ifCond .gt off, 3)) (ht : (pc : Int) + off = (tgt : Int)) (kt : (0 < x) → pp_E Γ ds cc nL tgt lv st σ) (kf : ¬ (0 < x) → pp_E Γ ds cc nL (pc + 3) lv st σ) : pp_E Γ ds cc nL pc lv (ppI x :: st) σ := by
  obtain ⟨⟨p, l, e, R, s, m, args, below, meth, c, Q, cl, sl, A⟩, X⟩ := Γ
  intro H locs ls hP hS hl
  exact lv_if_gt hF.1 hF.2.1 d ht (fun h => kt h H locs ls hP hS hl) (fun h => kf h H locs ls hP hS hl)
theorem pp_icmp_le {x y : Int32} {off : Int} {tgt : Nat} (hF : pp_Fx Γ ds cc nL own F L) (d : decode cc pc = .ok (.if_icmp .le off, 3)) (ht : (pc : Int) + off = (tgt : Int)) (kt : (y < x) → pp_E Γ ds cc nL (pc + 3) lv st σ) (kf : ¬ (y < x) → pp_E Γ ds cc nL tgt lv st σ) : pp_E Γ ds cc nL pc lv (ppI y :: ppI x :: st) σ := by
  obtain ⟨⟨p, l, e, R, s, m, args, below, meth, c, Q, cl, sl, A⟩, X⟩ := Γ
  intro H locs ls hP hS hl
  exact lv_icmp_le hF.1 hF.2.1 d ht (fun h => kf (pp_nlt h) H locs ls hP hS hl) (fun h => kt (pp_nle h) H locs ls hP hS hl)
theorem pp_if_le {x : Int32} {off : Int} {tgt : Nat} (hF : pp_Fx Γ ds cc nL own F L) (d : decode cc pc = .ok (.ifCond .le off, 3)) (ht : (pc : Int) + off = (tgt : Int)) (kt : (0 < x) → pp_E Γ ds cc nL (pc + 3) lv st σ) (kf : ¬ (0 < x) → pp_E Γ ds cc nL tgt lv st σ) : pp_E Γ ds cc nL pc lv (ppI x :: st) σ := by
  obtain ⟨⟨p, l, e, R, s, m, args, below, meth, c, Q, cl, sl, A⟩, X⟩ := Γ
  intro H locs ls hP hS hl
  exact lv_if_le hF.1 hF.2.1 d ht (fun h => kf (pp_nlt h) H locs ls hP hS hl) (fun h => kt (pp_nle h) H locs ls hP hS hl)
theorem pp_lg_eq {x y : Int64} : lg_cmp x y = 0 ↔ x = y := by
  unfold lg_cmp
  by_cases h1 : y < x
  · have : ¬ x = y := fun h => by subst h; exact absurd h1 (by rw [Int64.lt_iff_toInt_lt]; omega)
    simp [h1, this]
  · by_cases h2 : x = y
    · simp [h2]
    · simp [h1, h2]
theorem pp_lg_lt {x y : Int64} : lg_cmp x y < 0 ↔ x < y := by
  have e : x < y ↔ x.toInt < y.toInt := Int64.lt_iff_toInt_lt
  have e' : y < x ↔ y.toInt < x.toInt := Int64.lt_iff_toInt_lt
  have e2 : x = y ↔ x.toInt = y.toInt := Int64.toInt_inj.symm
  unfold lg_cmp
  by_cases h1 : y < x
  · have h3 : ¬ x < y := by rw [e]; rw [e'] at h1; omega
    simp only [h1, h3, if_true, iff_false]; decide
  · by_cases h2 : x = y
    · have h3 : ¬ x < y := by rw [e]; rw [e2] at h2; omega
      simp only [h1, h2, if_false, if_true]
      rw [h2] at h3
      simp only [h3, iff_false]; decide
    · have h3 : x < y := by rw [e]; rw [e'] at h1; rw [e2] at h2; omega
      simp only [h1, h2, h3, if_false, iff_true]; decide
theorem pp_lg_gt {x y : Int64} : 0 < lg_cmp x y ↔ y < x := by
  have e : x < y ↔ x.toInt < y.toInt := Int64.lt_iff_toInt_lt
  have e' : y < x ↔ y.toInt < x.toInt := Int64.lt_iff_toInt_lt
  unfold lg_cmp
  by_cases h1 : y < x
  · simp only [h1, if_true, iff_true]; decide
  · by_cases h2 : x = y
    · simp only [h1, h2, if_false, if_true]
      rw [h2] at h1
      simp only [h1, iff_false]; decide
    · simp only [h1, h2, if_false, iff_false]; decide
theorem pp_lcmp_eq {x y : Int64} {off : Int} {tgt : Nat} (hF : pp_Fx Γ ds cc nL own F L) (d1 : decode cc pc = .ok (.lcmp, 1)) (d : decode cc (pc + 1) = .ok (.ifCond .eq off, 3)) (ht : ((pc + 1 : Nat) : Int) + off = (tgt : Int)) (kt : (x = y) → pp_E Γ ds cc nL tgt lv st σ) (kf : ¬ (x = y) → pp_E Γ ds cc nL (pc + 1 + 3) lv st σ) : pp_E Γ ds cc nL pc lv (ppL y :: ppL x :: st) σ := by
  have h0 : pp_E Γ ds cc nL (pc + 1) lv (ppI (lg_cmp x y) :: st) σ := pp_if_eq hF d ht (fun h => kt (pp_lg_eq.mp h)) (fun h => kf (fun q => h (pp_lg_eq.mpr q)))
  obtain ⟨⟨p, l, e, R, s, m, args, below, meth, c, Q, cl, sl, A⟩, X⟩ := Γ
  intro H locs ls hP hS hl
  exact W.lcmp hF.1 hF.2.1 d1 (h0 H locs ls hP hS hl)
theorem pp_lcmp_ne {x y : Int64} {off : Int} {tgt : Nat} (hF : pp_Fx Γ ds cc nL own F L) (d1 : decode cc pc = .ok (.lcmp, 1)) (d : decode cc (pc + 1) = .ok (.ifCond .ne off, 3)) (ht : ((pc + 1 : Nat) : Int) + off = (tgt : Int)) (kt : (x = y) → pp_E Γ ds cc nL (pc + 1 + 3) lv st σ) (kf : ¬ (x = y) → pp_E Γ ds cc nL tgt lv st σ) : pp_E Γ ds cc nL pc lv (ppL y :: ppL x :: st) σ := by
  have h0 : pp_E Γ ds cc nL (pc + 1) lv (ppI (lg_cmp x y) :: st) σ := pp_if_ne hF d ht (fun h => kt (pp_lg_eq.mp h)) (fun h => kf (fun q => h (pp_lg_eq.mpr q)))
  obtain ⟨⟨p, l, e, R, s, m, args, below, meth, c, Q, cl, sl, A⟩, X⟩ := Γ
  intro H locs ls hP hS hl
  exact W.lcmp hF.1 hF.2.1 d1 (h0 H locs ls hP hS hl)
theorem pp_lcmp_lt {x y : Int64} {off : Int} {tgt : Nat} (hF : pp_Fx Γ ds cc nL own F L) (d1 : decode cc pc = .ok (.lcmp, 1)) (d : decode cc (pc + 1) = .ok (.ifCond .lt off, 3)) (ht : ((pc + 1 : Nat) : Int) + off = (tgt : Int)) (kt : (x < y) → pp_E Γ ds cc nL tgt lv st σ) (kf : ¬ (x < y) → pp_E Γ ds cc nL (pc + 1 + 3) lv st σ) : pp_E Γ ds cc nL pc lv (ppL y :: ppL x :: st) σ := by
  have h0 : pp_E Γ ds cc nL (pc + 1) lv (ppI (lg_cmp x y) :: st) σ := pp_if_lt hF d ht (fun h => kt (pp_lg_lt.mp h)) (fun h => kf (fun q => h (pp_lg_lt.mpr q)))
  obtain ⟨⟨p, l, e, R, s, m, args, below, meth, c, Q, cl, sl, A⟩, X⟩ := Γ
  intro H locs ls hP hS hl
  exact W.lcmp hF.1 hF.2.1 d1 (h0 H locs ls hP hS hl)
theorem pp_lcmp_ge {x y : Int64} {off : Int} {tgt : Nat} (hF : pp_Fx Γ ds cc nL own F L) (d1 : decode cc pc = .ok (.lcmp, 1)) (d : decode cc (pc + 1) = .ok (.ifCond .ge off, 3)) (ht : ((pc + 1 : Nat) : Int) + off = (tgt : Int)) (kt : (x < y) → pp_E Γ ds cc nL (pc + 1 + 3) lv st σ) (kf : ¬ (x < y) → pp_E Γ ds cc nL tgt lv st σ) : pp_E Γ ds cc nL pc lv (ppL y :: ppL x :: st) σ := by
  have h0 : pp_E Γ ds cc nL (pc + 1) lv (ppI (lg_cmp x y) :: st) σ := pp_if_ge hF d ht (fun h => kt (pp_lg_lt.mp h)) (fun h => kf (fun q => h (pp_lg_lt.mpr q)))
  obtain ⟨⟨p, l, e, R, s, m, args, below, meth, c, Q, cl, sl, A⟩, X⟩ := Γ
  intro H locs ls hP hS hl
  exact W.lcmp hF.1 hF.2.1 d1 (h0 H locs ls hP hS hl)
theorem pp_lcmp_gt {x y : Int64} {off : Int} {tgt : Nat} (hF : pp_Fx Γ ds cc nL own F L) (d1 : decode cc pc = .ok (.lcmp, 1)) (d : decode cc (pc + 1) = .ok (.ifCond .gt off, 3)) (ht : ((pc + 1 : Nat) : Int) + off = (tgt : Int)) (kt : (y < x) → pp_E Γ ds cc nL tgt lv st σ) (kf : ¬ (y < x) → pp_E Γ ds cc nL (pc + 1 + 3) lv st σ) : pp_E Γ ds cc nL pc lv (ppL y :: ppL x :: st) σ := by
  have h0 : pp_E Γ ds cc nL (pc + 1) lv (ppI (lg_cmp x y) :: st) σ := pp_if_gt hF d ht (fun h => kt (pp_lg_gt.mp h)) (fun h => kf (fun q => h (pp_lg_gt.mpr q)))
  obtain ⟨⟨p, l, e, R, s, m, args, below, meth, c, Q, cl, sl, A⟩, X⟩ := Γ
  intro H locs ls hP hS hl
  exact W.lcmp hF.1 hF.2.1 d1 (h0 H locs ls hP hS hl)
theorem pp_lcmp_le {x y : Int64} {off : Int} {tgt : Nat} (hF : pp_Fx Γ ds cc nL own F L) (d1 : decode cc pc = .ok (.lcmp, 1)) (d : decode cc (pc + 1) = .ok (.ifCond .le off, 3)) (ht : ((pc + 1 : Nat) : Int) + off = (tgt : Int)) (kt : (y < x) → pp_E Γ ds cc nL (pc + 1 + 3) lv st σ) (kf : ¬ (y < x) → pp_E Γ ds cc nL tgt lv st σ) : pp_E Γ ds cc nL pc lv (ppL y :: ppL x :: st) σ := by
  have h0 : pp_E Γ ds cc nL (pc + 1) lv (ppI (lg_cmp x y) :: st) σ := pp_if_le hF d ht (fun h => kt (pp_lg_gt.mp h)) (fun h => kf (fun q => h (pp_lg_gt.mpr q)))
  obtain ⟨⟨p, l, e, R, s, m, args, below, meth, c, Q, cl, sl, A⟩, X⟩ := Γ
  intro H locs ls hP hS hl
  exact W.lcmp hF.1 hF.2.1 d1 (h0 H locs ls hP hS hl)
end PPE
end
section
/-! rules for the heap: arrays, fields; ends; calls -/
def pp_k (t : Nat) : Nat × Nat := ((pp_e t).1, (pp_e t).2.2.1)
/-- a row of ints, of longs, of booleans -/
def pp_ai (ds : List (Nat × Nat)) (t o n : Nat) : Prop := (t, o) ∈ ds ∧ pp_k t = (1, n)
def pp_al (ds : List (Nat × Nat)) (t o n : Nat) : Prop := (t, o) ∈ ds ∧ pp_k t = (2, n)
def pp_az (ds : List (Nat × Nat)) (t o n : Nat) : Prop := (t, o) ∈ ds ∧ pp_k t = (3, n)
def pp_oi (ds : List (Nat × Nat)) (t n w g : Nat) : Prop := (t, 0) ∈ ds ∧ pp_e t = (4, n, w, [(2, g, 0, 0)])
def pp_ol (ds : List (Nat × Nat)) (t n w g : Nat) : Prop := (t, 0) ∈ ds ∧ pp_e t = (5, n, w, [(2, g, 0, 0)])
theorem vp_lt {i : Int32} {n : Nat} (h : vp_in i n) : i.toNatClampNeg < n := Nat.not_le.mp fun q => h (Or.inr q)
theorem pp_cell_i {X : pp_X} {σ : pp_M} {t o n : Nat} (h : pp_k t = (1, n)) : pp_cell X σ t o = .inl (X.2.2.2.1, n, .inl (fun j => if j < n then σ.1 t (o + j) else 0)) := by
  unfold pp_k at h
  have h1 : (pp_e t).1 = 1 := congrArg Prod.fst h
  have h2 : (pp_e t).2.2.1 = n := congrArg Prod.snd h
  subst h2
  unfold pp_cell pp_cellOf
  rw [h1]
  rfl
theorem pp_cell_l {X : pp_X} {σ : pp_M} {t o n : Nat} (h : pp_k t = (2, n)) : pp_cell X σ t o = .inl (X.2.2.2.2.1, n, .inr (.inl (fun j => if j < n then σ.2 t (o + j) else 0))) := by
  unfold pp_k at h
  have h1 : (pp_e t).1 = 2 := congrArg Prod.fst h
  have h2 : (pp_e t).2.2.1 = n := congrArg Prod.snd h
  subst h2
  unfold pp_cell pp_cellOf
  rw [h1]
  rfl
theorem pp_cell_z {X : pp_X} {σ : pp_M} {t o n : Nat} (h : pp_k t = (3, n)) : pp_cell X σ t o = .inl (X.2.2.2.2.2.1, n, .inl (fun j => if j < n then σ.1 t (o + j) else 0)) := by
  unfold pp_k at h
  have h1 : (pp_e t).1 = 3 := congrArg Prod.fst h
  have h2 : (pp_e t).2.2.1 = n := congrArg Prod.snd h
  subst h2
  unfold pp_cell pp_cellOf
  rw [h1]
  rfl
theorem pp_cell_oi {X : pp_X} {σ : pp_M} {t o n w g : Nat} (h : pp_e t = (4, n, w, [(2, g, 0, 0)])) : pp_cell X σ t o = .inl (X.2.2.2.2.2.2.1, n, .inr (.inr (.inr (.inr (fun i => if i < n then some (X.2.2.1 g (i * w)) else none))))) := by
  unfold pp_cell pp_cellOf
  rw [h]
  rfl
theorem pp_cell_ol {X : pp_X} {σ : pp_M} {t o n w g : Nat} (h : pp_e t = (5, n, w, [(2, g, 0, 0)])) : pp_cell X σ t o = .inl (X.2.2.2.2.2.2.2, n, .inr (.inr (.inr (.inr (fun i => if i < n then some (X.2.2.1 g (i * w)) else none))))) := by
  unfold pp_cell pp_cellOf
  rw [h]
  rfl
theorem pp_cell_o {X : pp_X} {σ : pp_M} {t ci N : Nat} {fs : List (Nat × Nat × Nat × Nat)} (h : pp_e t = (0, ci, N, fs)) : pp_cell X σ t 0 = .inr (ci, pp_fl X.2.2.1 σ t 0 fs) := by
  unfold pp_cell pp_cellOf
  rw [h]
  rfl
theorem pp_fl_cong (ad : Nat → Nat → Nat) {σ σ' : pp_M} {t : Nat} (h1 : ∀ j, σ'.1 t j = σ.1 t j) (h2 : ∀ j, σ'.2 t j = σ.2 t j) : ∀ (l : List (Nat × Nat × Nat × Nat)) (j : Nat), pp_fl ad σ' t j l = pp_fl ad σ t j l
  | [], j => rfl
  | f :: l, j => by
    simp only [pp_fl]
    rw [pp_fl_cong ad h1 h2 l (j + 1)]
    unfold pp_fv
    rw [h1, h2]
theorem pp_cell_cong {X : pp_X} {σ σ' : pp_M} {t o : Nat} (h1 : ∀ j, σ'.1 t j = σ.1 t j) (h2 : ∀ j, σ'.2 t j = σ.2 t j) : pp_cell X σ' t o = pp_cell X σ t o := by
  unfold pp_cell pp_cellOf
  simp only [h1, h2, pp_fl_cong X.2.2.1 h1 h2]
theorem pp_row_ne {w o o' i j : Nat} (h1 : o % w = 0) (h2 : o' % w = 0) (hi : i < w) (hj : j < w) (hn : o' ≠ o) : o' + j ≠ o + i := by
  intro h
  have e1 : (o + i) / w = o / w := by
    have := Nat.div_add_mod o w
    rw [h1, Nat.add_zero] at this
    rw [← this, Nat.mul_add_div (by omega), Nat.mul_div_cancel_left _ (by omega), Nat.div_eq_of_lt hi, Nat.add_zero]
  have e2 : (o' + j) / w = o' / w := by
    have := Nat.div_add_mod o' w
    rw [h2, Nat.add_zero] at this
    rw [← this, Nat.mul_add_div (by omega), Nat.mul_div_cancel_left _ (by omega), Nat.div_eq_of_lt hj, Nat.add_zero]
  rw [h, e1] at e2
  have a1 := Nat.div_add_mod o w
  have a2 := Nat.div_add_mod o' w
  rw [h1] at a1
  rw [h2] at a2
  apply hn
  rw [← a1, ← a2, e2]
/-- a row of ints (or booleans) changes within: the other cells stay -/
theorem pp_other {X : pp_X} {ds : List (Nat × Nat)} {σ σ' : pp_M} {t o n kd : Nat} (hok : pp_ok ds) (hm : (t, o) ∈ ds) (hk : pp_k t = (kd, n)) (hkd : kd = 1 ∨ kd = 3) (h2 : σ'.2 = σ.2) (ho : ∀ a b, ¬ (a = t ∧ o ≤ b ∧ b < o + n) → σ'.1 a b = σ.1 a b) : ∀ d ∈ ds, d ≠ (t, o) → pp_cell X σ' d.1 d.2 = pp_cell X σ d.1 d.2 := by
  intro d hd hne
  obtain ⟨t', o'⟩ := d
  by_cases ht : t' = t
  · subst ht
    have hno : o' ≠ o := fun h => hne (by rw [h])
    have e1 := (hok _ hd).2
    have e2 := (hok _ hm).2
    have hw : (pp_e t').2.2.1 = n := congrArg Prod.snd hk
    simp only [hw] at e1 e2
    have key : (fun j => if j < n then σ'.1 t' (o' + j) else 0) = (fun j => if j < n then σ.1 t' (o' + j) else 0) := by
      funext j
      by_cases hj : j < n
      · rw [if_pos hj, if_pos hj]
        refine ho t' (o' + j) (fun h => ?_)
        exact pp_row_ne (i := o' + j - o) e2 e1 (by omega) hj hno (by omega)
      · rw [if_neg hj, if_neg hj]
    rcases hkd with rfl | rfl
    · rw [pp_cell_i hk, pp_cell_i hk, key]
    · rw [pp_cell_z hk, pp_cell_z hk, key]
  · exact pp_cell_cong (fun j => ho t' j (fun h => ht h.1)) (fun j => by rw [h2])
theorem pp_otherL {X : pp_X} {ds : List (Nat × Nat)} {σ σ' : pp_M} {t o n : Nat} (hok : pp_ok ds) (hm : (t, o) ∈ ds) (hk : pp_k t = (2, n)) (h1 : σ'.1 = σ.1) (ho : ∀ a b, ¬ (a = t ∧ o ≤ b ∧ b < o + n) → σ'.2 a b = σ.2 a b) : ∀ d ∈ ds, d ≠ (t, o) → pp_cell X σ' d.1 d.2 = pp_cell X σ d.1 d.2 := by
  intro d hd hne
  obtain ⟨t', o'⟩ := d
  by_cases ht : t' = t
  · subst ht
    have hno : o' ≠ o := fun h => hne (by rw [h])
    have e1 := (hok _ hd).2
    have e2 := (hok _ hm).2
    have hw : (pp_e t').2.2.1 = n := congrArg Prod.snd hk
    simp only [hw] at e1 e2
    have key : (fun j => if j < n then σ'.2 t' (o' + j) else 0) = (fun j => if j < n then σ.2 t' (o' + j) else 0) := by
      funext j
      by_cases hj : j < n
      · rw [if_pos hj, if_pos hj]
        refine ho t' (o' + j) (fun h => ?_)
        exact pp_row_ne (i := o' + j - o) e2 e1 (by omega) hj hno (by omega)
      · rw [if_neg hj, if_neg hj]
    rw [pp_cell_l hk, pp_cell_l hk, key]
  · exact pp_cell_cong (fun j => by rw [h1]) (fun j => ho t' j (fun h => ht h.1))
section PPH
variable {Γ : pp_G} {ds : List (Nat × Nat)} {cc : ByteArray} {nL : Nat} {own : String} {F L pc : Nat} {lv lv' : List (Nat × pp_V)} {st : List pp_V} {σ : pp_M}
theorem pp_iaload {i : Int32} {t o n : Nat} (hF : pp_Fx Γ ds cc nL own F L) (ha : pp_ai ds t o n) (hin : vp_in i n) (d : decode cc pc = .ok (.iaload, 1)) (k : pp_E Γ ds cc nL (pc + 1) lv (ppI (σ.1 t (o + i.toNatClampNeg)) :: st) σ) : pp_E Γ ds cc nL pc lv (ppI i :: ppR t o n :: st) σ := by
  obtain ⟨⟨p, l, e, R, s, m, args, below, meth, c, Q, cl, sl, A⟩, X⟩ := Γ
  intro H locs ls hP hS hl
  obtain ⟨q, hq, hw⟩ := pp_wd_at (X := X) (σ := σ) ha.1
  rw [pp_cell_i ha.2] at hw
  have k1 := k H locs ls hP hS hl
  have e9 : (if i.toNatClampNeg < n then σ.1 t (o + i.toNatClampNeg) else 0) = σ.1 t (o + i.toNatClampNeg) := if_pos (vp_lt hin)
  refine va_iald hF.1 hF.2.1 hF.2.2.2.2.2.1 hP q 0 hw rfl hin d ?_
  show W _ _ _ _ _ _ _ _ _ _ _ _ _ _ _ (F0 m (pc + 1) ls (.int (if i.toNatClampNeg < n then σ.1 t (o + i.toNatClampNeg) else 0) :: _))
  rw [e9]
  exact k1
theorem pp_laload {i : Int32} {t o n : Nat} (hF : pp_Fx Γ ds cc nL own F L) (ha : pp_al ds t o n) (hin : vp_in i n) (d : decode cc pc = .ok (.laload, 1)) (k : pp_E Γ ds cc nL (pc + 1) lv (ppL (σ.2 t (o + i.toNatClampNeg)) :: st) σ) : pp_E Γ ds cc nL pc lv (ppI i :: ppR t o n :: st) σ := by
  obtain ⟨⟨p, l, e, R, s, m, args, below, meth, c, Q, cl, sl, A⟩, X⟩ := Γ
  intro H locs ls hP hS hl
  obtain ⟨q, hq, hw⟩ := pp_wd_at (X := X) (σ := σ) ha.1
  rw [pp_cell_l ha.2] at hw
  have k1 := k H locs ls hP hS hl
  have e9 : (if i.toNatClampNeg < n then σ.2 t (o + i.toNatClampNeg) else 0) = σ.2 t (o + i.toNatClampNeg) := if_pos (vp_lt hin)
  refine va_lald hF.1 hF.2.1 hF.2.2.2.2.2.1 hP q 1 hw rfl hin d ?_
  show W _ _ _ _ _ _ _ _ _ _ _ _ _ _ _ (F0 m (pc + 1) ls (.long (if i.toNatClampNeg < n then σ.2 t (o + i.toNatClampNeg) else 0) :: _))
  rw [e9]
  exact k1
theorem pp_baload {i : Int32} {t o n : Nat} (hF : pp_Fx Γ ds cc nL own F L) (ha : pp_az ds t o n) (hin : vp_in i n) (d : decode cc pc = .ok (.baload, 1)) (k : pp_E Γ ds cc nL (pc + 1) lv (ppI (σ.1 t (o + i.toNatClampNeg)) :: st) σ) : pp_E Γ ds cc nL pc lv (ppI i :: ppR t o n :: st) σ := by
  obtain ⟨⟨p, l, e, R, s, m, args, below, meth, c, Q, cl, sl, A⟩, X⟩ := Γ
  intro H locs ls hP hS hl
  obtain ⟨q, hq, hw⟩ := pp_wd_at (X := X) (σ := σ) ha.1
  rw [pp_cell_z ha.2] at hw
  have k1 := k H locs ls hP hS hl
  have e9 : (if i.toNatClampNeg < n then σ.1 t (o + i.toNatClampNeg) else 0) = σ.1 t (o + i.toNatClampNeg) := if_pos (vp_lt hin)
  refine va_zald hF.1 hF.2.1 hF.2.2.2.2.2.1 hP q 2 hw rfl hin d ?_
  show W _ _ _ _ _ _ _ _ _ _ _ _ _ _ _ (F0 m (pc + 1) ls (.int (if i.toNatClampNeg < n then σ.1 t (o + i.toNatClampNeg) else 0) :: _))
  rw [e9]
  exact k1
theorem pp_aaloadI {i : Int32} {t n w g : Nat} (hF : pp_Fx Γ ds cc nL own F L) (ha : pp_oi ds t n w g) (hin : vp_in i n) (d : decode cc pc = .ok (.aaload, 1)) (k : pp_E Γ ds cc nL (pc + 1) lv (ppR g (i.toNatClampNeg * w) w :: st) σ) : pp_E Γ ds cc nL pc lv (ppI i :: ppR t 0 n :: st) σ := by
  obtain ⟨⟨p, l, e, R, s, m, args, below, meth, c, Q, cl, sl, A⟩, X⟩ := Γ
  intro H locs ls hP hS hl
  obtain ⟨q, hq, hw⟩ := pp_wd_at (X := X) (σ := σ) ha.1
  rw [pp_cell_oi ha.2] at hw
  have hlt := vp_lt hin
  refine W.aald (v := .ref (X.2.2.1 g (i.toNatClampNeg * w))) (ty := .array .int) hF.1 hF.2.1 (hP q _ hw) ((hF.2.2.2.2.2.1.2 3 _ rfl).1 n (fun j => va_rf (if j < n then some (X.2.2.1 g (j * w)) else none))) rfl (fun q => by cases q) (by show ¬ (i < 0 ∨ (arrV _ _ _).slots.size ≤ _); rw [arrV_size]; exact hin) (by show (arrV _ _ _).slots[_]? = _; rw [arrV_read _ _ hlt]; show some (va_rf (if i.toNatClampNeg < n then some (X.2.2.1 g (i.toNatClampNeg * w)) else none)) = _; rw [if_pos hlt]; rfl) rfl rfl d (k H locs ls hP hS hl)
theorem pp_aaloadL {i : Int32} {t n w g : Nat} (hF : pp_Fx Γ ds cc nL own F L) (ha : pp_ol ds t n w g) (hin : vp_in i n) (d : decode cc pc = .ok (.aaload, 1)) (k : pp_E Γ ds cc nL (pc + 1) lv (ppR g (i.toNatClampNeg * w) w :: st) σ) : pp_E Γ ds cc nL pc lv (ppI i :: ppR t 0 n :: st) σ := by
  obtain ⟨⟨p, l, e, R, s, m, args, below, meth, c, Q, cl, sl, A⟩, X⟩ := Γ
  intro H locs ls hP hS hl
  obtain ⟨q, hq, hw⟩ := pp_wd_at (X := X) (σ := σ) ha.1
  rw [pp_cell_ol ha.2] at hw
  have hlt := vp_lt hin
  refine W.aald (v := .ref (X.2.2.1 g (i.toNatClampNeg * w))) (ty := .array .long) hF.1 hF.2.1 (hP q _ hw) ((hF.2.2.2.2.2.1.2 4 _ rfl).1 n (fun j => va_rf (if j < n then some (X.2.2.1 g (j * w)) else none))) rfl (fun q => by cases q) (by show ¬ (i < 0 ∨ (arrV _ _ _).slots.size ≤ _); rw [arrV_size]; exact hin) (by show (arrV _ _ _).slots[_]? = _; rw [arrV_read _ _ hlt]; show some (va_rf (if i.toNatClampNeg < n then some (X.2.2.1 g (i.toNatClampNeg * w)) else none)) = _; rw [if_pos hlt]; rfl) rfl rfl d (k H locs ls hP hS hl)
theorem pp_iastore {i x : Int32} {t o n : Nat} (hF : pp_Fx Γ ds cc nL own F L) (ha : pp_ai ds t o n) (hin : vp_in i n) (d : decode cc pc = .ok (.iastore, 1)) (k : pp_E Γ ds cc nL (pc + 1) lv st (ppS σ t (o + i.toNatClampNeg) x)) : pp_E Γ ds cc nL pc lv (ppI x :: ppI i :: ppR t o n :: st) σ := by
  obtain ⟨⟨p, l, e, R, s, m, args, below, meth, c, Q, cl, sl, A⟩, X⟩ := Γ
  intro H locs ls hP hS hl
  obtain ⟨q, hq, hw⟩ := pp_wd_at (X := X) (σ := σ) ha.1
  rw [pp_cell_i ha.2] at hw
  have hlt := vp_lt hin
  obtain ⟨hI, hok, hA⟩ := hF.2.2.2.2.2.2.1
  refine va_iast hF.1 hF.2.1 hF.2.2.2.2.2.1 hP (pp_wd_D hI hA) hS q 0 hw rfl hin d (fun H1 locs1 hP1 _ hS1 => k H1 locs1 ls ?_ hS1 hl)
  rw [pp_wd_set (σ := σ) (σ' := ppS σ t (o + i.toNatClampNeg) x) hq hI rfl ?_ (pp_other hok ha.1 ha.2 (Or.inl rfl) rfl ?_)] at hP1
  · exact hP1
  · rw [pp_cell_i ha.2]
    congr 4
    funext j
    unfold upd ppS
    by_cases hj : j = i.toNatClampNeg
    · subst hj
      simp [hlt]
    · by_cases hjn : j < n
      · simp [hj, hjn]
      · simp [hj, hjn]
  · intro a b hab
    unfold ppS
    refine if_neg (fun h => hab ⟨h.1, ?_⟩)
    omega
theorem pp_bastore {i x : Int32} {t o n : Nat} (hF : pp_Fx Γ ds cc nL own F L) (ha : pp_az ds t o n) (hin : vp_in i n) (hx : vp_nar .boolean x = x) (d : decode cc pc = .ok (.bastore, 1)) (k : pp_E Γ ds cc nL (pc + 1) lv st (ppS σ t (o + i.toNatClampNeg) x)) : pp_E Γ ds cc nL pc lv (ppI x :: ppI i :: ppR t o n :: st) σ := by
  obtain ⟨⟨p, l, e, R, s, m, args, below, meth, c, Q, cl, sl, A⟩, X⟩ := Γ
  intro H locs ls hP hS hl
  obtain ⟨q, hq, hw⟩ := pp_wd_at (X := X) (σ := σ) ha.1
  rw [pp_cell_z ha.2] at hw
  have hlt := vp_lt hin
  obtain ⟨hI, hok, hA⟩ := hF.2.2.2.2.2.2.1
  refine va_zast hF.1 hF.2.1 hF.2.2.2.2.2.1 hP (pp_wd_D hI hA) hS q 2 hw rfl hin d (fun H1 locs1 hP1 _ hS1 => k H1 locs1 ls ?_ hS1 hl)
  rw [hx] at hP1
  rw [pp_wd_set (σ := σ) (σ' := ppS σ t (o + i.toNatClampNeg) x) hq hI rfl ?_ (pp_other hok ha.1 ha.2 (Or.inr rfl) rfl ?_)] at hP1
  · exact hP1
  · rw [pp_cell_z ha.2]
    congr 4
    funext j
    unfold upd ppS
    by_cases hj : j = i.toNatClampNeg
    · subst hj
      simp [hlt]
    · by_cases hjn : j < n
      · simp [hj, hjn]
      · simp [hj, hjn]
  · intro a b hab
    unfold ppS
    refine if_neg (fun h => hab ⟨h.1, ?_⟩)
    omega
theorem pp_lastore {i : Int32} {x : Int64} {t o n : Nat} (hF : pp_Fx Γ ds cc nL own F L) (ha : pp_al ds t o n) (hin : vp_in i n) (d : decode cc pc = .ok (.lastore, 1)) (k : pp_E Γ ds cc nL (pc + 1) lv st (ppT σ t (o + i.toNatClampNeg) x)) : pp_E Γ ds cc nL pc lv (ppL x :: ppI i :: ppR t o n :: st) σ := by
  obtain ⟨⟨p, l, e, R, s, m, args, below, meth, c, Q, cl, sl, A⟩, X⟩ := Γ
  intro H locs ls hP hS hl
  obtain ⟨q, hq, hw⟩ := pp_wd_at (X := X) (σ := σ) ha.1
  rw [pp_cell_l ha.2] at hw
  have hlt := vp_lt hin
  obtain ⟨hI, hok, hA⟩ := hF.2.2.2.2.2.2.1
  refine va_last hF.1 hF.2.1 hF.2.2.2.2.2.1 hP (pp_wd_D hI hA) hS q 1 hw rfl hin d (fun H1 locs1 hP1 _ hS1 => k H1 locs1 ls ?_ hS1 hl)
  rw [pp_wd_set (σ := σ) (σ' := ppT σ t (o + i.toNatClampNeg) x) hq hI rfl ?_ (pp_otherL hok ha.1 ha.2 rfl ?_)] at hP1
  · exact hP1
  · rw [pp_cell_l ha.2]
    congr 5
    funext j
    unfold vp_updL ppT
    by_cases hj : j = i.toNatClampNeg
    · subst hj
      simp [hlt]
    · by_cases hjn : j < n
      · simp [hj, hjn]
      · simp [hj, hjn]
  · intro a b hab
    unfold ppT
    refine if_neg (fun h => hab ⟨h.1, ?_⟩)
    omega
/-- field k of the object t, as the class own names it by idx -/
def pp_Fd (ds : List (Nat × Nat)) (own : String) (idx t k : Nat) (f : Nat × Nat × Nat × Nat) : Prop := ∃ (C : String) (T : u_T) (N ci : Nat) (fs : List (Nat × Nat × Nat × Nat)), (t, 0) ∈ ds ∧ pp_cl[ci]? = some (C, T, N) ∧ (∀ w ∈ u_ws C T N, w ∈ pp_tb) ∧ pp_e t = (0, ci, N, fs) ∧ k < N ∧ fs[k]? = some f ∧ (T k).1 = C ∧ Cond.fieldLink own idx C (T k).2.1 (T k).2.2.1 ∈ pp_tb
/-- .. and may be written, with values of its type -/
def pp_Fw (ds : List (Nat × Nat)) (own : String) (idx t k : Nat) (f : Nat × Nat × Nat × Nat) (ty : FieldType) : Prop := ∃ (C : String) (T : u_T) (N ci : Nat) (fs : List (Nat × Nat × Nat × Nat)) (ty0 : Nat → FieldType), (t, 0) ∈ ds ∧ pp_cl[ci]? = some (C, T, N) ∧ (∀ w ∈ u_ws C T N, w ∈ pp_tb) ∧ pp_e t = (0, ci, N, fs) ∧ k < N ∧ fs[k]? = some f ∧ (T k).1 = C ∧ Cond.fieldLink own idx C (T k).2.1 (T k).2.2.1 ∈ pp_tb ∧ (∀ j, j < N → parseFieldDescriptor (T j).2.2.1 = some (ty0 j)) ∧ (∀ a, a < N → ∀ b, b < N → a ≠ b → (T a).2.1 ≠ (T b).2.1) ∧ (T k).2.2.2 = false ∧ parseFieldDescriptor (T k).2.2.1 = some ty
theorem pp_getI {idx t k a1 a2 a3 : Nat} (hF : pp_Fx Γ ds cc nL own F L) (hf : pp_Fd ds own idx t k (0, a1, a2, a3)) (d : decode cc pc = .ok (.getfield idx, 3)) (kk : pp_E Γ ds cc nL (pc + 3) lv (ppI (σ.1 t k) :: st) σ) : pp_E Γ ds cc nL pc lv (ppR t 0 0 :: st) σ := by
  obtain ⟨⟨p, l, e, R, s, m, args, below, meth, c, Q, cl, sl, A⟩, X⟩ := Γ
  intro H locs ls hP hS hl
  obtain ⟨C, T, N, ci, fs, hm, hc, hin, he, hk, hfs, hC, hlk⟩ := hf
  obtain ⟨q, hq, hw⟩ := pp_wd_at (X := X) (σ := σ) hm
  rw [pp_cell_o he] at hw
  refine va_get hF.1 hF.2.1 hF.2.2.2.2.1 hin hF.2.2.2.1 hF.2.2.2.2.2.1 hP q hw hc k hk (hF.2.2.2.2.1 _ hlk) (fun x hx => by rw [hC] at hx; exact hx) ?_ d (kk H locs ls hP hS hl)
  rw [pp_fl_at, hfs, Nat.zero_add]
  rfl
theorem pp_getL {idx t k a1 a2 a3 : Nat} (hF : pp_Fx Γ ds cc nL own F L) (hf : pp_Fd ds own idx t k (1, a1, a2, a3)) (d : decode cc pc = .ok (.getfield idx, 3)) (kk : pp_E Γ ds cc nL (pc + 3) lv (ppL (σ.2 t k) :: st) σ) : pp_E Γ ds cc nL pc lv (ppR t 0 0 :: st) σ := by
  obtain ⟨⟨p, l, e, R, s, m, args, below, meth, c, Q, cl, sl, A⟩, X⟩ := Γ
  intro H locs ls hP hS hl
  obtain ⟨C, T, N, ci, fs, hm, hc, hin, he, hk, hfs, hC, hlk⟩ := hf
  obtain ⟨q, hq, hw⟩ := pp_wd_at (X := X) (σ := σ) hm
  rw [pp_cell_o he] at hw
  refine va_get hF.1 hF.2.1 hF.2.2.2.2.1 hin hF.2.2.2.1 hF.2.2.2.2.2.1 hP q hw hc k hk (hF.2.2.2.2.1 _ hlk) (fun x hx => by rw [hC] at hx; exact hx) ?_ d (kk H locs ls hP hS hl)
  rw [pp_fl_at, hfs, Nat.zero_add]
  rfl
theorem pp_getR {idx t k a1 a2 a3 : Nat} (hF : pp_Fx Γ ds cc nL own F L) (hf : pp_Fd ds own idx t k (2, a1, a2, a3)) (d : decode cc pc = .ok (.getfield idx, 3)) (kk : pp_E Γ ds cc nL (pc + 3) lv (ppR a1 a2 a3 :: st) σ) : pp_E Γ ds cc nL pc lv (ppR t 0 0 :: st) σ := by
  obtain ⟨⟨p, l, e, R, s, m, args, below, meth, c, Q, cl, sl, A⟩, X⟩ := Γ
  intro H locs ls hP hS hl
  obtain ⟨C, T, N, ci, fs, hm, hc, hin, he, hk, hfs, hC, hlk⟩ := hf
  obtain ⟨q, hq, hw⟩ := pp_wd_at (X := X) (σ := σ) hm
  rw [pp_cell_o he] at hw
  refine va_get hF.1 hF.2.1 hF.2.2.2.2.1 hin hF.2.2.2.1 hF.2.2.2.2.2.1 hP q hw hc k hk (hF.2.2.2.2.1 _ hlk) (fun x hx => by rw [hC] at hx; exact hx) ?_ d (kk H locs ls hP hS hl)
  rw [pp_fl_at, hfs, Nat.zero_add]
  rfl
theorem pp_fl_set {ad : Nat → Nat → Nat} {σ σ' : pp_M} {t k : Nat} {v : Value} {f : Nat × Nat × Nat × Nat} {l : List (Nat × Nat × Nat × Nat)} (hf : l[k]? = some f) (hv : pp_fv ad σ' t k f = v) (ho : ∀ j, j ≠ k → σ'.1 t j = σ.1 t j ∧ σ'.2 t j = σ.2 t j) : (pp_fl ad σ t 0 l).set k v = pp_fl ad σ' t 0 l := by
  apply List.ext_getElem?
  intro j
  have hl := (List.getElem?_eq_some_iff.mp hf).1
  by_cases hj : j = k
  · subst hj
    rw [List.getElem?_set_self (by rw [pp_fl_len]; exact hl), pp_fl_at, hf, Nat.zero_add]
    exact congrArg some hv.symm
  · rw [List.getElem?_set_ne (Ne.symm hj), pp_fl_at, pp_fl_at, Nat.zero_add]
    cases hx : l[j]? with
    | none => rfl
    | some g =>
      simp only [Option.map_some]
      congr 1
      unfold pp_fv
      rw [(ho j hj).1, (ho j hj).2]
theorem pp_putI {idx t k a1 a2 a3 : Nat} {x : Int32} (hF : pp_Fx Γ ds cc nL own F L) (hf : pp_Fw ds own idx t k (0, a1, a2, a3) .int) (d : decode cc pc = .ok (.putfield idx, 3)) (kk : pp_E Γ ds cc nL (pc + 3) lv st (ppS σ t k x)) : pp_E Γ ds cc nL pc lv (ppI x :: ppR t 0 0 :: st) σ := by
  obtain ⟨⟨p, l, e, R, s, m, args, below, meth, c, Q, cl, sl, A⟩, X⟩ := Γ
  intro H locs ls hP hS hl
  obtain ⟨C, T, N, ci, fs, ty0, hm, hc, hin, he, hk, hfs, hC, hlk, hty, hnm, hfin, hpd⟩ := hf
  obtain ⟨q, hq, hw⟩ := pp_wd_at (X := X) (σ := σ) hm
  rw [pp_cell_o he] at hw
  obtain ⟨hI, hok, hA⟩ := hF.2.2.2.2.2.2.1
  refine va_put hF.1 hF.2.1 hF.2.2.2.2.1 hin ty0 hty hnm hF.2.2.2.1 hF.2.2.2.2.2.1 hP (pp_wd_D hI hA) hS q hw hc k hk (hF.2.2.2.2.1 _ hlk) (fun z hz => by rw [hC] at hz; exact hz) hfin hpd rfl rfl (by rw [pp_fl_len]; exact (List.getElem?_eq_some_iff.mp hfs).1) d (fun H1 locs1 hP1 _ hS1 => kk H1 locs1 ls ?_ hS1 hl)
  rw [pp_wd_set (σ := σ) (σ' := ppS σ t k x) hq hI rfl ?_ ?_] at hP1
  · exact hP1
  · rw [pp_cell_o he, pp_fl_set (σ' := ppS σ t k x) hfs ?_ ?_]
    · simp [pp_fv, ppS, ppT, ppv, ppI, ppL]
    · intro j hj
      simp [ppS, ppT, hj]
  · intro d2 hd2 hne
    obtain ⟨t2, o2⟩ := d2
    refine pp_cell_cong (fun j => ?_) (fun j => ?_) <;>
    · simp only [ppS, ppT]
      try refine if_neg (fun h => hne ?_)
      try rw [h.1] at hd2
      try have h9 := (hok _ hd2).1 (by rw [he])
      try (rw [h.1]; exact congrArg (Prod.mk t) h9)
theorem pp_putZ {idx t k a1 a2 a3 : Nat} {x : Int32} (hF : pp_Fx Γ ds cc nL own F L) (hf : pp_Fw ds own idx t k (0, a1, a2, a3) .boolean) (hn : narrow .boolean (.int x) = .int x) (hfit : fits .boolean (.int x) = true) (d : decode cc pc = .ok (.putfield idx, 3)) (kk : pp_E Γ ds cc nL (pc + 3) lv st (ppS σ t k x)) : pp_E Γ ds cc nL pc lv (ppI x :: ppR t 0 0 :: st) σ := by
  obtain ⟨⟨p, l, e, R, s, m, args, below, meth, c, Q, cl, sl, A⟩, X⟩ := Γ
  intro H locs ls hP hS hl
  obtain ⟨C, T, N, ci, fs, ty0, hm, hc, hin, he, hk, hfs, hC, hlk, hty, hnm, hfin, hpd⟩ := hf
  obtain ⟨q, hq, hw⟩ := pp_wd_at (X := X) (σ := σ) hm
  rw [pp_cell_o he] at hw
  obtain ⟨hI, hok, hA⟩ := hF.2.2.2.2.2.2.1
  refine va_put hF.1 hF.2.1 hF.2.2.2.2.1 hin ty0 hty hnm hF.2.2.2.1 hF.2.2.2.2.2.1 hP (pp_wd_D hI hA) hS q hw hc k hk (hF.2.2.2.2.1 _ hlk) (fun z hz => by rw [hC] at hz; exact hz) hfin hpd hn hfit (by rw [pp_fl_len]; exact (List.getElem?_eq_some_iff.mp hfs).1) d (fun H1 locs1 hP1 _ hS1 => kk H1 locs1 ls ?_ hS1 hl)
  rw [pp_wd_set (σ := σ) (σ' := ppS σ t k x) hq hI rfl ?_ ?_] at hP1
  · exact hP1
  · rw [pp_cell_o he, pp_fl_set (σ' := ppS σ t k x) hfs ?_ ?_]
    · simp [pp_fv, ppS, ppT, ppv, ppI, ppL]
    · intro j hj
      simp [ppS, ppT, hj]
  · intro d2 hd2 hne
    obtain ⟨t2, o2⟩ := d2
    refine pp_cell_cong (fun j => ?_) (fun j => ?_) <;>
    · simp only [ppS, ppT]
      try refine if_neg (fun h => hne ?_)
      try rw [h.1] at hd2
      try have h9 := (hok _ hd2).1 (by rw [he])
      try (rw [h.1]; exact congrArg (Prod.mk t) h9)
theorem pp_putL {idx t k a1 a2 a3 : Nat} {x : Int64} (hF : pp_Fx Γ ds cc nL own F L) (hf : pp_Fw ds own idx t k (1, a1, a2, a3) .long) (d : decode cc pc = .ok (.putfield idx, 3)) (kk : pp_E Γ ds cc nL (pc + 3) lv st (ppT σ t k x)) : pp_E Γ ds cc nL pc lv (ppL x :: ppR t 0 0 :: st) σ := by
  obtain ⟨⟨p, l, e, R, s, m, args, below, meth, c, Q, cl, sl, A⟩, X⟩ := Γ
  intro H locs ls hP hS hl
  obtain ⟨C, T, N, ci, fs, ty0, hm, hc, hin, he, hk, hfs, hC, hlk, hty, hnm, hfin, hpd⟩ := hf
  obtain ⟨q, hq, hw⟩ := pp_wd_at (X := X) (σ := σ) hm
  rw [pp_cell_o he] at hw
  obtain ⟨hI, hok, hA⟩ := hF.2.2.2.2.2.2.1
  refine va_put hF.1 hF.2.1 hF.2.2.2.2.1 hin ty0 hty hnm hF.2.2.2.1 hF.2.2.2.2.2.1 hP (pp_wd_D hI hA) hS q hw hc k hk (hF.2.2.2.2.1 _ hlk) (fun z hz => by rw [hC] at hz; exact hz) hfin hpd rfl rfl (by rw [pp_fl_len]; exact (List.getElem?_eq_some_iff.mp hfs).1) d (fun H1 locs1 hP1 _ hS1 => kk H1 locs1 ls ?_ hS1 hl)
  rw [pp_wd_set (σ := σ) (σ' := ppT σ t k x) hq hI rfl ?_ ?_] at hP1
  · exact hP1
  · rw [pp_cell_o he, pp_fl_set (σ' := ppT σ t k x) hfs ?_ ?_]
    · simp [pp_fv, ppS, ppT, ppv, ppI, ppL]
    · intro j hj
      simp [ppS, ppT, hj]
  · intro d2 hd2 hne
    obtain ⟨t2, o2⟩ := d2
    refine pp_cell_cong (fun j => ?_) (fun j => ?_) <;>
    · simp only [ppS, ppT]
      try refine if_neg (fun h => hne ?_)
      try rw [h.1] at hd2
      try have h9 := (hok _ hd2).1 (by rw [he])
      try (rw [h.1]; exact congrArg (Prod.mk t) h9)
theorem pp_ialoadJ {i : Int32} {t o n j : Nat} (hF : pp_Fx Γ ds cc nL own F L) (ha : pp_ai ds t o n) (hin : vp_in i n) (hj : o + i.toNatClampNeg = j) (d : decode cc pc = .ok (.iaload, 1)) (k : pp_E Γ ds cc nL (pc + 1) lv (ppI (σ.1 t j) :: st) σ) : pp_E Γ ds cc nL pc lv (ppI i :: ppR t o n :: st) σ := by
  subst hj
  exact pp_iaload hF ha hin d k
theorem pp_laloadJ {i : Int32} {t o n j : Nat} (hF : pp_Fx Γ ds cc nL own F L) (ha : pp_al ds t o n) (hin : vp_in i n) (hj : o + i.toNatClampNeg = j) (d : decode cc pc = .ok (.laload, 1)) (k : pp_E Γ ds cc nL (pc + 1) lv (ppL (σ.2 t j) :: st) σ) : pp_E Γ ds cc nL pc lv (ppI i :: ppR t o n :: st) σ := by
  subst hj
  exact pp_laload hF ha hin d k
theorem pp_baloadJ {i : Int32} {t o n j : Nat} (hF : pp_Fx Γ ds cc nL own F L) (ha : pp_az ds t o n) (hin : vp_in i n) (hj : o + i.toNatClampNeg = j) (d : decode cc pc = .ok (.baload, 1)) (k : pp_E Γ ds cc nL (pc + 1) lv (ppI (σ.1 t j) :: st) σ) : pp_E Γ ds cc nL pc lv (ppI i :: ppR t o n :: st) σ := by
  subst hj
  exact pp_baload hF ha hin d k
theorem pp_iastoreJ {i : Int32} {x : Int32} {t o n j : Nat} (hF : pp_Fx Γ ds cc nL own F L) (ha : pp_ai ds t o n) (hin : vp_in i n) (hj : o + i.toNatClampNeg = j) (d : decode cc pc = .ok (.iastore, 1)) (k : pp_E Γ ds cc nL (pc + 1) lv st (ppS σ t j x)) : pp_E Γ ds cc nL pc lv (ppI x :: ppI i :: ppR t o n :: st) σ := by
  subst hj
  exact pp_iastore hF ha hin d k
theorem pp_lastoreJ {i : Int32} {x : Int64} {t o n j : Nat} (hF : pp_Fx Γ ds cc nL own F L) (ha : pp_al ds t o n) (hin : vp_in i n) (hj : o + i.toNatClampNeg = j) (d : decode cc pc = .ok (.lastore, 1)) (k : pp_E Γ ds cc nL (pc + 1) lv st (ppT σ t j x)) : pp_E Γ ds cc nL pc lv (ppL x :: ppI i :: ppR t o n :: st) σ := by
  subst hj
  exact pp_lastore hF ha hin d k
theorem pp_bastoreJ {i : Int32} {x : Int32} {t o n j : Nat} (hF : pp_Fx Γ ds cc nL own F L) (ha : pp_az ds t o n) (hin : vp_in i n) (hx : vp_nar .boolean x = x) (hj : o + i.toNatClampNeg = j) (d : decode cc pc = .ok (.bastore, 1)) (k : pp_E Γ ds cc nL (pc + 1) lv st (ppS σ t j x)) : pp_E Γ ds cc nL pc lv (ppI x :: ppI i :: ppR t o n :: st) σ := by
  subst hj
  exact pp_bastore hF ha hin hx d k
theorem pp_aaloadIJ {i : Int32} {t n w g j : Nat} (hF : pp_Fx Γ ds cc nL own F L) (ha : pp_oi ds t n w g) (hin : vp_in i n) (hj : i.toNatClampNeg * w = j) (d : decode cc pc = .ok (.aaload, 1)) (k : pp_E Γ ds cc nL (pc + 1) lv (ppR g j w :: st) σ) : pp_E Γ ds cc nL pc lv (ppI i :: ppR t 0 n :: st) σ := by
  subst hj
  exact pp_aaloadI hF ha hin d k
theorem pp_aaloadLJ {i : Int32} {t n w g j : Nat} (hF : pp_Fx Γ ds cc nL own F L) (ha : pp_ol ds t n w g) (hin : vp_in i n) (hj : i.toNatClampNeg * w = j) (d : decode cc pc = .ok (.aaload, 1)) (k : pp_E Γ ds cc nL (pc + 1) lv (ppR g j w :: st) σ) : pp_E Γ ds cc nL pc lv (ppI i :: ppR t 0 n :: st) σ := by
  subst hj
  exact pp_aaloadL hF ha hin d k
theorem pp_tsw9 {x : Int32} {dflt : Int} {len : Nat} {o0 o1 o2 o3 o4 o5 o6 o7 o8 : Int} {t0 t1 t2 t3 t4 t5 t6 t7 t8 td : Nat} (hF : pp_Fx Γ ds cc nL own F L) (d : decode cc pc = .ok (.tableswitch dflt 0 8 #[o0, o1, o2, o3, o4, o5, o6, o7, o8], len)) (h0 : (pc : Int) + o0 = (t0 : Int)) (h1 : (pc : Int) + o1 = (t1 : Int)) (h2 : (pc : Int) + o2 = (t2 : Int)) (h3 : (pc : Int) + o3 = (t3 : Int)) (h4 : (pc : Int) + o4 = (t4 : Int)) (h5 : (pc : Int) + o5 = (t5 : Int)) (h6 : (pc : Int) + o6 = (t6 : Int)) (h7 : (pc : Int) + o7 = (t7 : Int)) (h8 : (pc : Int) + o8 = (t8 : Int)) (hd : (pc : Int) + dflt = (td : Int)) (k0 : x = 0 → pp_E Γ ds cc nL t0 lv st σ) (k1 : x = 1 → pp_E Γ ds cc nL t1 lv st σ) (k2 : x = 2 → pp_E Γ ds cc nL t2 lv st σ) (k3 : x = 3 → pp_E Γ ds cc nL t3 lv st σ) (k4 : x = 4 → pp_E Γ ds cc nL t4 lv st σ) (k5 : x = 5 → pp_E Γ ds cc nL t5 lv st σ) (k6 : x = 6 → pp_E Γ ds cc nL t6 lv st σ) (k7 : x = 7 → pp_E Γ ds cc nL t7 lv st σ) (k8 : x = 8 → pp_E Γ ds cc nL t8 lv st σ) (kd : ¬ x = 0 → ¬ x = 1 → ¬ x = 2 → ¬ x = 3 → ¬ x = 4 → ¬ x = 5 → ¬ x = 6 → ¬ x = 7 → ¬ x = 8 → pp_E Γ ds cc nL td lv st σ) : pp_E Γ ds cc nL pc lv (ppI x :: st) σ := by
  obtain ⟨⟨p, l, e, R, s, m, args, below, meth, c, Q, cl, sl, A⟩, X⟩ := Γ
  intro H locs ls hP hS hl
  by_cases c0 : x = 0
  · subst c0
    exact lv_tableIn (off := o0) hF.1 hF.2.1 d (by decide) (by decide) rfl h0 (k0 rfl H locs ls hP hS hl)
  by_cases c1 : x = 1
  · subst c1
    exact lv_tableIn (off := o1) hF.1 hF.2.1 d (by decide) (by decide) rfl h1 (k1 rfl H locs ls hP hS hl)
  by_cases c2 : x = 2
  · subst c2
    exact lv_tableIn (off := o2) hF.1 hF.2.1 d (by decide) (by decide) rfl h2 (k2 rfl H locs ls hP hS hl)
  by_cases c3 : x = 3
  · subst c3
    exact lv_tableIn (off := o3) hF.1 hF.2.1 d (by decide) (by decide) rfl h3 (k3 rfl H locs ls hP hS hl)
  by_cases c4 : x = 4
  · subst c4
    exact lv_tableIn (off := o4) hF.1 hF.2.1 d (by decide) (by decide) rfl h4 (k4 rfl H locs ls hP hS hl)
  by_cases c5 : x = 5
  · subst c5
    exact lv_tableIn (off := o5) hF.1 hF.2.1 d (by decide) (by decide) rfl h5 (k5 rfl H locs ls hP hS hl)
  by_cases c6 : x = 6
  · subst c6
    exact lv_tableIn (off := o6) hF.1 hF.2.1 d (by decide) (by decide) rfl h6 (k6 rfl H locs ls hP hS hl)
  by_cases c7 : x = 7
  · subst c7
    exact lv_tableIn (off := o7) hF.1 hF.2.1 d (by decide) (by decide) rfl h7 (k7 rfl H locs ls hP hS hl)
  by_cases c8 : x = 8
  · subst c8
    exact lv_tableIn (off := o8) hF.1 hF.2.1 d (by decide) (by decide) rfl h8 (k8 rfl H locs ls hP hS hl)
  have e1 : x.toInt < 0 ∨ 8 < x.toInt := by
    by_cases q1 : x.toInt < 0
    · exact Or.inl q1
    · by_cases q2 : 8 < x.toInt
      · exact Or.inr q2
      · exfalso
        have hh : x.toInt = 0 ∨ x.toInt = 1 ∨ x.toInt = 2 ∨ x.toInt = 3 ∨ x.toInt = 4 ∨ x.toInt = 5 ∨ x.toInt = 6 ∨ x.toInt = 7 ∨ x.toInt = 8 := by omega
        rcases hh with h | h | h | h | h | h | h | h | h
        · exact c0 (Int32.toInt_inj.mp h)
        · exact c1 (Int32.toInt_inj.mp h)
        · exact c2 (Int32.toInt_inj.mp h)
        · exact c3 (Int32.toInt_inj.mp h)
        · exact c4 (Int32.toInt_inj.mp h)
        · exact c5 (Int32.toInt_inj.mp h)
        · exact c6 (Int32.toInt_inj.mp h)
        · exact c7 (Int32.toInt_inj.mp h)
        · exact c8 (Int32.toInt_inj.mp h)
  exact lv_tableOut hF.1 hF.2.1 d e1 hd (kd c0 c1 c2 c3 c4 c5 c6 c7 c8 H locs ls hP hS hl)
end PPH
end
section
/-! ends of methods, contracts, calls -/
def pp_Pc (X : pp_X) (ds : List (Nat × Nat)) (as : List pp_V) (σ : pp_M) : Array Value → State → Prop := va_Pc (as.map (ppv X.2.2.1)) (fun U => va_P (X.1, X.2.1) pp_cl (pp_wd X ds σ) U.heap ∧ va_K (X.1, X.2.1) pp_cl (pp_ty X) U ∧ pp_Nw U)
/-- a method's contract: from memory σ with these arguments it answers r, and leaves σ' -/
def pp_Ct (y : MethodName) (cc : ByteArray) (nL : Nat) (ret : Option FieldType) (F L : Nat) (ds : List (Nat × Nat)) (as : List pp_V) (σ : pp_M) (r : Option pp_V) (σ' : pp_M) : Prop := ∀ (l : Launch) (X : pp_X), pp_inj X ds → Met l y (.code y cc nL ret :: pp_tb) { frames := F, cells := 0, slots := 0, locals := L } (pp_Pc X ds as σ) (pp_Qc X ds (pp_A X ds) r σ') 0 0 (pp_A X ds)
theorem pp_tb_mem {w : Cond} (h : w ∈ lw_tbl) (hg : goodWord w = true) : w ∈ pp_tb := List.mem_filter.mpr ⟨h, hg⟩
theorem pp_tb_good : ∀ w ∈ pp_tb, (w.onTables && w.keeps) = true ∨ ∃ ty, w = .arrayClass ty := fun w h => good_of_word (List.mem_filter.mp h).2
def pp_args : Nat → List pp_V → List (Nat × pp_V)
  | _, [] => []
  | i, v :: l => (i, v) :: pp_args (cond (pp_isL v) (i + 2) (i + 1)) l
def pp_cs : List pp_V → Nat
  | [] => 0
  | v :: l => cond (pp_isL v) 2 1 + pp_cs l
theorem pp_cat1 (ad : Nat → Nat → Nat) (v : pp_V) : (ppv ad v).category = cond (pp_isL v) 2 1 := by
  rcases v with x | x | ⟨t, o, n⟩ <;> rfl
theorem pp_cs_eq (ad : Nat → Nat → Nat) : ∀ l : List pp_V, (((l.map (ppv ad))).map fun v => v.category).sum = pp_cs l
  | [] => rfl
  | v :: l => by simp only [List.map_cons, List.sum_cons, pp_cs, pp_cat1]; rw [← pp_cs_eq ad l]
theorem pp_sl_len (ad : Nat → Nat → Nat) : ∀ l : List pp_V, (lg_sl (l.map (ppv ad))).length = pp_cs l
  | [] => rfl
  | v :: l => by
    have ih := pp_sl_len ad l
    unfold lg_sl at ih ⊢
    simp only [List.map_cons, List.flatMap_cons, List.length_append, pp_cs, ih]
    rw [pp_cat1]
    cases pp_isL v <;> rfl
theorem pp_args_eq (X : pp_X) : ∀ (l : List pp_V) (i : Nat), lv_args i (l.map (ppv X.2.2.1)) = pp_lv X (pp_args i l)
  | [], i => rfl
  | v :: l, i => by
    simp only [List.map_cons, lv_args, pp_args, pp_lv]
    rw [pp_args_eq X l, pp_cat1]
    unfold pp_lv
    cases pp_isL v <;> rfl
section PPC
variable {Γ : pp_G} {ds : List (Nat × Nat)} {cc : ByteArray} {nL : Nat} {own : String} {F L pc : Nat} {lv lv' : List (Nat × pp_V)} {st : List pp_V} {σ : pp_M}
theorem pp_ireturn {v : Int32} (hF : pp_Fx Γ ds cc nL own F L) (hR : pp_Rt Γ ds (some .int) (some (ppI v)) σ) (d : decode cc pc = .ok (.ireturn, 1)) : pp_E Γ ds cc nL pc lv [ppI v] σ := by
  obtain ⟨⟨p, l, e, R, s, m, args, below, meth, c, Q, cl, sl, A⟩, X⟩ := Γ
  intro H locs ls hP hS hl
  obtain ⟨hr, rfl⟩ := hR
  exact W.iret hF.1 hF.2.1 hr (fun t ht hW => ⟨rfl, by rw [ht]; exact hP, va_K.moved hW.alike hF.2.2.2.2.2.1, hS.F ht⟩) hS.2.2 d hF.2.2.2.2.2.2.2.2.2.1
theorem pp_zreturn {v : Int32} (hF : pp_Fx Γ ds cc nL own F L) (hR : pp_Rt Γ ds (some .boolean) (some (ppI v)) σ) (hn : narrow .boolean (.int v) = .int v) (d : decode cc pc = .ok (.ireturn, 1)) : pp_E Γ ds cc nL pc lv [ppI v] σ := by
  obtain ⟨⟨p, l, e, R, s, m, args, below, meth, c, Q, cl, sl, A⟩, X⟩ := Γ
  intro H locs ls hP hS hl
  obtain ⟨hr, rfl⟩ := hR
  exact W.zret hF.1 hF.2.1 hr hn (fun t ht hW => ⟨rfl, by rw [ht]; exact hP, va_K.moved hW.alike hF.2.2.2.2.2.1, hS.F ht⟩) hS.2.2 d hF.2.2.2.2.2.2.2.2.2.1
theorem pp_lreturn {v : Int64} (hF : pp_Fx Γ ds cc nL own F L) (hR : pp_Rt Γ ds (some .long) (some (ppL v)) σ) (d : decode cc pc = .ok (.lreturn, 1)) : pp_E Γ ds cc nL pc lv [ppL v] σ := by
  obtain ⟨⟨p, l, e, R, s, m, args, below, meth, c, Q, cl, sl, A⟩, X⟩ := Γ
  intro H locs ls hP hS hl
  obtain ⟨hr, rfl⟩ := hR
  exact W.lret hF.1 hF.2.1 hr (fun t ht hW => ⟨rfl, by rw [ht]; exact hP, va_K.moved hW.alike hF.2.2.2.2.2.1, hS.F ht⟩) hS.2.2 d hF.2.2.2.2.2.2.2.2.2.1
theorem pp_return (hF : pp_Fx Γ ds cc nL own F L) (hR : pp_Rt Γ ds none none σ) (d : decode cc pc = .ok (.return_, 1)) : pp_E Γ ds cc nL pc lv [] σ := by
  obtain ⟨⟨p, l, e, R, s, m, args, below, meth, c, Q, cl, sl, A⟩, X⟩ := Γ
  intro H locs ls hP hS hl
  obtain ⟨hr, rfl⟩ := hR
  exact W.vret hF.1 hF.2.1 hr (fun t ht hW => ⟨rfl, by rw [ht]; exact hP, va_K.moved hW.alike hF.2.2.2.2.2.1, hS.F ht⟩) hS.2.2 d hF.2.2.2.2.2.2.2.2.2.1
/-- fewer locals -/
theorem pp_sub (hs : ∀ q ∈ lv', q ∈ lv) (k : pp_E Γ ds cc nL pc lv' st σ) : pp_E Γ ds cc nL pc lv st σ := by
  obtain ⟨⟨p, l, e, R, s, m, args, below, meth, c, Q, cl, sl, A⟩, X⟩ := Γ
  intro H locs ls hP hS hl
  exact k H locs ls hP hS (pp_has_sub hl (fun q hq => by
    obtain ⟨q0, h0, rfl⟩ := List.mem_map.mp hq
    exact List.mem_map.mpr ⟨q0, hs q0 h0, rfl⟩))
def pp_pick (l : List (Nat × pp_V)) : List Nat → List (Nat × pp_V)
  | [] => []
  | k :: ks => match l[k]? with
    | some q => q :: pp_pick l ks
    | none => pp_pick l ks
theorem pp_pick_mem {l : List (Nat × pp_V)} : ∀ {ks : List Nat} {q : Nat × pp_V}, q ∈ pp_pick l ks → q ∈ l
  | [], q, h => by simp [pp_pick] at h
  | k :: ks, q, h => by
    unfold pp_pick at h
    cases hk : l[k]? with
    | none => rw [hk] at h; exact pp_pick_mem h
    | some x =>
      rw [hk] at h
      rcases List.mem_cons.mp h with h | h
      · rw [h]; exact List.mem_of_getElem? hk
      · exact pp_pick_mem h
theorem pp_few (ks : List Nat) (hs : pp_pick lv ks = lv') (k : pp_E Γ ds cc nL pc lv' st σ) : pp_E Γ ds cc nL pc lv st σ := pp_sub (fun _ hq => pp_pick_mem (by rw [hs]; exact hq)) k
/-- a contract out of the walk of a body -/
theorem pp_met {y : MethodName} {ret : Option FieldType} {as : List pp_V} {σ' : pp_M} {r : Option pp_V} (hy : plainName y.cls = true) (hown : y.cls = own) (hok : pp_ok ds) (hn : pp_cs as ≤ nL) (hlv : pp_args 0 as = lv)
    (body : ∀ Γ : pp_G, pp_Fx Γ ds cc nL own F L → pp_Rt Γ ds ret r σ' → pp_E Γ ds cc nL 0 lv [] σ) : pp_Ct y cc nL ret F L ds as σ r σ' := by
  intro l X hI
  subst hown
  refine Met.ofW (cc := cc) (maxL := nL) (ret := ret) hy rfl ?_
  intro p e s m args below meth c s₁ B hml hv
  obtain ⟨rfl, hP, hK, hNw⟩ := hv
  have hts := atoms_spec (ws := .code y cc nL ret :: pp_tb) B.pre
  rw [lg_entry_eq]
  have hl := lv_entry (as.map (ppv X.2.2.1)) (n := nL) (by rw [pp_sl_len]; exact hn)
  rw [pp_args_eq, hlv] at hl
  exact body ((p, l, e, _, s, m, _, below, meth, c, MQ below (pp_Qc X ds (pp_A X ds) r σ') _ s 0 0 (pp_A X ds), 0, 0, pp_A X ds), X) ⟨B.exec, B.bytes, hml, findClass_of_methodNamed B.named, fun w hw => hts w (List.mem_cons_of_mem _ hw), hK, ⟨hI, hok, fun _ h => h⟩, ⟨Nat.le_refl _, Nat.le_refl _⟩, ⟨Nat.zero_le _, Nat.zero_le _⟩, B.notSynchronized, hNw⟩ ⟨B.returns, rfl⟩ s.heap [] _ hP va_S.rf hl
/-- what a call of an instance method needs of the tables; of a static one -/
def pp_MV (y : MethodName) (cc : ByteArray) (nL : Nat) (ret : Option FieldType) (n : Nat) : Prop := Cond.code y cc nL ret ∈ pp_tb ∧ Cond.initialized y.cls ∈ pp_tb ∧ (y.cls ≠ "java/lang/invoke/MethodHandle" ∧ y.cls ≠ "java/lang/invoke/VarHandle" ∧ (parseMethodDescriptor y.desc).map (fun d => d.parameters.length) = some n) ∧ Cond.instanceMethod y ∈ pp_tb ∧ Cond.selects y.cls y y ∈ pp_tb
def pp_MS (y : MethodName) (cc : ByteArray) (nL : Nat) (ret : Option FieldType) (n : Nat) : Prop := Cond.code y cc nL ret ∈ pp_tb ∧ Cond.initialized y.cls ∈ pp_tb ∧ (y.cls ≠ "java/lang/invoke/MethodHandle" ∧ y.cls ≠ "java/lang/invoke/VarHandle" ∧ (parseMethodDescriptor y.desc).map (fun d => d.parameters.length) = some n) ∧ Cond.static y ∈ pp_tb
/-- how the class own names the method y by idx -/
def pp_Lk (own : String) (idx : Nat) (y : MethodName) : Prop := Cond.methodLink own idx y ∈ pp_tb ∨ (own, idx, y) ∈ pp_nb
theorem pp_goodIn {y : MethodName} {ret : Option FieldType} (h : Cond.code y cc nL ret ∈ pp_tb) : GoodIn pp_tb (.code y cc nL ret :: pp_tb) := fun w hw => by
  rcases List.mem_cons.mp hw with h1 | h1
  · subst h1; exact ⟨h, pp_tb_good _ h⟩
  · exact ⟨h1, pp_tb_good _ h1⟩
theorem pp_blind {X : pp_X} {as : List pp_V} : FrameBlind (pp_Pc X ds as σ) := fun a U g mk q => ⟨q.1, q.2.1, va_K.moved (u := U) (U := U.calling g mk a) (Vm.Alike.refl U.vm) q.2.2.1, pp_Nw.same (u := U) (U := U.calling g mk a) rfl q.2.2.2⟩
/-- behind a call -/
theorem pp_run {p : Program} {l : Launch} {e : Env} {R : Room} {s : State} {m : MethodId} {args : Array Value} {below : List Frame} {meth : Method} {c : Code} {Q : State → Prop} {cl sl : Nat} {A : Nat → Prop} {X : pp_X} {H : Heap} {locs : List Loc} {ls : Array Slot} {stk : List Value} {rest : List pp_V} {r : Option pp_V} {σ' : pp_M} {a : Array Value}
    (hr : va_Run p l e R s m args below meth c H locs cl sl 0 0 (F0 m pc ls stk) (rest.map (ppv X.2.2.1)) (pp_Qc X ds (pp_A X ds) r σ' a) (pp_A X ds)) (hA : ∀ q, pp_A X ds q → A q) (hS : va_S A s.heap H locs) (hl : lv_has ls nL (pp_lv X lv))
    (kk : pp_E ((p, l, e, R, s, m, args, below, meth, c, Q, cl, sl, A), X) ds cc nL (pc + 3) lv (r.toList ++ rest) σ') : W p l e R s m args below meth c H locs cl sl Q (F0 m pc ls stk) := by
  intro T hT Xs
  obtain ⟨v, st₀, t, T', L', h0, X', hL, e1, e2, ⟨hv, hP1, hK1, hz, hk⟩, stp⟩ := hr T hT Xs
  cases hv
  rw [h0] at hz hk
  have k1 := kk T'.heap (locs ++ L') ls (by rw [e1]; exact hP1) ⟨Nat.le_trans hS.1 (by rw [e1]; exact hz), fun q h1 h2 => by rw [e1, hk q (Nat.lt_of_lt_of_le h1 hS.1) (fun z => h2 (hA q z))]; exact hS.2.1 q h1 h2, fun q hq => by
      rcases List.mem_append.mp hq with h | h
      · exact hS.2.2 q h
      · exact hA _ (hL q h)⟩ hl T' rfl X'
  obtain ⟨t2, a1, b1⟩ := k1
  refine ⟨t2, stp t2 ?_, b1⟩
  rw [List.map_append] at a1
  cases r <;> exact a1
/-- the token t is an object of the class C -/
def pp_ob (ds : List (Nat × Nat)) (t : Nat) (C : String) : Prop := ∃ (ci N : Nat) (T : u_T) (fs : List (Nat × Nat × Nat × Nat)), (t, 0) ∈ ds ∧ pp_cl[ci]? = some (C, T, N) ∧ pp_e t = (0, ci, N, fs)
theorem pp_callV {y : MethodName} {cc' : ByteArray} {nL' F' L' n idx t : Nat} {ret : Option FieldType} {as stk rest : List pp_V} {r : Option pp_V} {σ' : pp_M} (hF : pp_Fx Γ ds cc nL own F L) (hC : pp_Ct y cc' nL' ret F' L' ds (ppR t 0 0 :: as) σ r σ') (hM : pp_MV y cc' nL' ret n) (hk : pp_Lk own idx y) (hO : pp_ob ds t y.cls)
    (hn : as.length = n) (hst : stk = as.reverse ++ ppR t 0 0 :: rest) (hroom : F' + 1 ≤ F ∧ 8 + (nL' + 11) + L' ≤ L) (hcs : pp_cs rest ≤ 8) (d : decode cc pc = .ok (.invokevirtual idx, 3)) (kk : pp_E Γ ds cc nL (pc + 3) lv (r.toList ++ rest) σ') : pp_E Γ ds cc nL pc lv stk σ := by
  obtain ⟨⟨p, l, e, R, s, m, args, below, meth, c, Q, cl, sl, A⟩, X⟩ := Γ
  intro H locs ls hP hS hl
  subst hst
  obtain ⟨hx, hb, hml, hown, hts, hK, ⟨hI, hok, hA⟩, hrm, hcl0, hlocks, hNw⟩ := hF
  obtain ⟨m1, m2, m3, m4, m5⟩ := hM
  obtain ⟨ci, N, T, fs, ht, hcl, he⟩ := hO
  obtain ⟨q, hq, hw⟩ := pp_wd_at (X := X) (σ := σ) ht
  rw [pp_cell_o he] at hw
  have hrv : ∃ cellB : Cell, H[X.2.2.1 t 0]? = some cellB ∧ cellB.vm.isStatics = false ∧ s.vm.findClass y.cls = some cellB.cls := va_recv hK hP (ci := ci) (q0 := q) hcl hw
  have hpre : PreV s H y.cls (X.2.2.1 t 0) (pp_Pc X ds (ppR t 0 0 :: as) σ) (as.map (ppv X.2.2.1)) := ⟨pp_blind, hrv, fun U hU hW => ⟨rfl, by rw [hU]; exact hP, va_K.moved hW.alike hK, hNw.warm hW⟩⟩
  have hR' : F' + 1 ≤ R.frames ∧ 8 + (nL' + 11) + L' ≤ R.locals := ⟨Nat.le_trans hroom.1 hrm.1, Nat.le_trans hroom.2 hrm.2⟩
  have hcs' : 2 * (F0 m pc ls ((as.reverse ++ ppR t 0 0 :: rest).map (ppv X.2.2.1))).monitorRoom + ((rest.map (ppv X.2.2.1)).map fun v => v.category).sum ≤ 8 := lv_room (by rw [pp_cs_eq]; exact hcs)
  refine pp_run (a := (Value.ref (X.2.2.1 t 0) :: as.map (ppv X.2.2.1)).toArray) ?_ hA hS hl kk
  rcases hk with hk | hk
  · exact va_runV (As := as.map (ppv X.2.2.1)) (rest := rest.map (ppv X.2.2.1)) ⟨hx, hb, hml, hown, hts⟩ (hC l X hI) ⟨callB_of n hts (pp_goodIn m1) rfl rfl rfl (hts _ m2) (hts _ hk) m3 hR', hts _ m4, hts _ m5⟩ hpre rfl (by rw [List.length_map]; exact hn) hl.1 (by simp [ppv, ppR]) hcs' d hcl0
  · exact va_runVN (As := as.map (ppv X.2.2.1)) (rest := rest.map (ppv X.2.2.1)) ⟨hx, hb, hml, hown, hts⟩ (hC l X hI) ⟨⟨⟨rfl, rfl, hR'.1, hR'.2, pay_in hts (pp_goodIn m1), List.mem_cons_self⟩, hts _ m1, hts _ m2, ⟨m3.1, m3.2.1⟩, (fun sig h => by have h2 := m3.2.2; rw [h] at h2; exact (Option.some.inj h2).symm), va_Nw.use rfl (hNw _ hk)⟩, hts _ m4, hts _ m5⟩ hpre rfl (by rw [List.length_map]; exact hn) hl.1 (by simp [ppv, ppR]) hcs' d hcl0
theorem pp_callS {y : MethodName} {cc' : ByteArray} {nL' F' L' n idx : Nat} {ret : Option FieldType} {as stk rest : List pp_V} {r : Option pp_V} {σ' : pp_M} (hF : pp_Fx Γ ds cc nL own F L) (hC : pp_Ct y cc' nL' ret F' L' ds as σ r σ') (hM : pp_MS y cc' nL' ret n) (hk : pp_Lk own idx y)
    (hn : as.length = n) (hst : stk = as.reverse ++ rest) (hroom : F' + 1 ≤ F ∧ 8 + (nL' + 11) + L' ≤ L) (hcs : pp_cs rest ≤ 8) (d : decode cc pc = .ok (.invokestatic idx, 3)) (kk : pp_E Γ ds cc nL (pc + 3) lv (r.toList ++ rest) σ') : pp_E Γ ds cc nL pc lv stk σ := by
  obtain ⟨⟨p, l, e, R, s, m, args, below, meth, c, Q, cl, sl, A⟩, X⟩ := Γ
  intro H locs ls hP hS hl
  subst hst
  obtain ⟨hx, hb, hml, hown, hts, hK, ⟨hI, hok, hA⟩, hrm, hcl0, hlocks, hNw⟩ := hF
  obtain ⟨m1, m2, m3, m4⟩ := hM
  have hpre : PreS s H (pp_Pc X ds as σ) (as.map (ppv X.2.2.1)) := ⟨pp_blind, fun U hU hW => ⟨rfl, by rw [hU]; exact hP, va_K.moved hW.alike hK, hNw.warm hW⟩⟩
  have hR' : F' + 1 ≤ R.frames ∧ 8 + (nL' + 11) + L' ≤ R.locals := ⟨Nat.le_trans hroom.1 hrm.1, Nat.le_trans hroom.2 hrm.2⟩
  have hcs' : 2 * (F0 m pc ls ((as.reverse ++ rest).map (ppv X.2.2.1))).monitorRoom + ((rest.map (ppv X.2.2.1)).map fun v => v.category).sum ≤ 8 := lv_room (by rw [pp_cs_eq]; exact hcs)
  refine pp_run (a := (as.map (ppv X.2.2.1)).toArray) ?_ hA hS hl kk
  rcases hk with hk | hk
  · exact va_runS (As := as.map (ppv X.2.2.1)) (rest := rest.map (ppv X.2.2.1)) ⟨hx, hb, hml, hown, hts⟩ (hC l X hI) ⟨callB_of n hts (pp_goodIn m1) rfl rfl rfl (hts _ m2) (hts _ hk) m3 hR', hts _ m4⟩ hpre rfl (by rw [List.length_map]; exact hn) hl.1 (by simp [ppv, ppR]) hcs' d hcl0
  · exact va_runSN (As := as.map (ppv X.2.2.1)) (rest := rest.map (ppv X.2.2.1)) ⟨hx, hb, hml, hown, hts⟩ (hC l X hI) ⟨⟨⟨rfl, rfl, hR'.1, hR'.2, pay_in hts (pp_goodIn m1), List.mem_cons_self⟩, hts _ m1, hts _ m2, ⟨m3.1, m3.2.1⟩, (fun sig h => by have h2 := m3.2.2; rw [h] at h2; exact (Option.some.inj h2).symm), va_Nw.use rfl (hNw _ hk)⟩, hts _ m4, trivial⟩ hpre rfl (by rw [List.length_map]; exact hn) hl.1 (by simp [ppv, ppR]) hcs' d hcl0
theorem pp_callVi {y : MethodName} {cc' : ByteArray} {nL' F' L' n idx t : Nat} {ret : Option FieldType} {as stk rest : List pp_V} {v : Int32} {σ' : pp_M} (hF : pp_Fx Γ ds cc nL own F L) (hC : pp_Ct y cc' nL' ret F' L' ds (ppR t 0 0 :: as) σ (some (ppI v)) σ') (hM : pp_MV y cc' nL' ret n) (hk : pp_Lk own idx y) (hO : pp_ob ds t y.cls) (hn : as.length = n) (hst : stk = as.reverse ++ ppR t 0 0 :: rest) (hroom : F' + 1 ≤ F ∧ 8 + (nL' + 11) + L' ≤ L) (hcs : pp_cs rest ≤ 8) (d : decode cc pc = .ok (.invokevirtual idx, 3)) (kk : pp_E Γ ds cc nL (pc + 3) lv (ppI v :: rest) σ') : pp_E Γ ds cc nL pc lv stk σ := pp_callV hF hC hM hk hO hn hst hroom hcs d kk
theorem pp_callSi {y : MethodName} {cc' : ByteArray} {nL' F' L' n idx : Nat} {ret : Option FieldType} {as stk rest : List pp_V} {v : Int32} {σ' : pp_M} (hF : pp_Fx Γ ds cc nL own F L) (hC : pp_Ct y cc' nL' ret F' L' ds as σ (some (ppI v)) σ') (hM : pp_MS y cc' nL' ret n) (hk : pp_Lk own idx y) (hn : as.length = n) (hst : stk = as.reverse ++ rest) (hroom : F' + 1 ≤ F ∧ 8 + (nL' + 11) + L' ≤ L) (hcs : pp_cs rest ≤ 8) (d : decode cc pc = .ok (.invokestatic idx, 3)) (kk : pp_E Γ ds cc nL (pc + 3) lv (ppI v :: rest) σ') : pp_E Γ ds cc nL pc lv stk σ := pp_callS hF hC hM hk hn hst hroom hcs d kk
theorem pp_callVl {y : MethodName} {cc' : ByteArray} {nL' F' L' n idx t : Nat} {ret : Option FieldType} {as stk rest : List pp_V} {v : Int64} {σ' : pp_M} (hF : pp_Fx Γ ds cc nL own F L) (hC : pp_Ct y cc' nL' ret F' L' ds (ppR t 0 0 :: as) σ (some (ppL v)) σ') (hM : pp_MV y cc' nL' ret n) (hk : pp_Lk own idx y) (hO : pp_ob ds t y.cls) (hn : as.length = n) (hst : stk = as.reverse ++ ppR t 0 0 :: rest) (hroom : F' + 1 ≤ F ∧ 8 + (nL' + 11) + L' ≤ L) (hcs : pp_cs rest ≤ 8) (d : decode cc pc = .ok (.invokevirtual idx, 3)) (kk : pp_E Γ ds cc nL (pc + 3) lv (ppL v :: rest) σ') : pp_E Γ ds cc nL pc lv stk σ := pp_callV hF hC hM hk hO hn hst hroom hcs d kk
theorem pp_callSl {y : MethodName} {cc' : ByteArray} {nL' F' L' n idx : Nat} {ret : Option FieldType} {as stk rest : List pp_V} {v : Int64} {σ' : pp_M} (hF : pp_Fx Γ ds cc nL own F L) (hC : pp_Ct y cc' nL' ret F' L' ds as σ (some (ppL v)) σ') (hM : pp_MS y cc' nL' ret n) (hk : pp_Lk own idx y) (hn : as.length = n) (hst : stk = as.reverse ++ rest) (hroom : F' + 1 ≤ F ∧ 8 + (nL' + 11) + L' ≤ L) (hcs : pp_cs rest ≤ 8) (d : decode cc pc = .ok (.invokestatic idx, 3)) (kk : pp_E Γ ds cc nL (pc + 3) lv (ppL v :: rest) σ') : pp_E Γ ds cc nL pc lv stk σ := pp_callS hF hC hM hk hn hst hroom hcs d kk
theorem pp_callVv {y : MethodName} {cc' : ByteArray} {nL' F' L' n idx t : Nat} {ret : Option FieldType} {as stk rest : List pp_V} {σ' : pp_M} (hF : pp_Fx Γ ds cc nL own F L) (hC : pp_Ct y cc' nL' ret F' L' ds (ppR t 0 0 :: as) σ none σ') (hM : pp_MV y cc' nL' ret n) (hk : pp_Lk own idx y) (hO : pp_ob ds t y.cls) (hn : as.length = n) (hst : stk = as.reverse ++ ppR t 0 0 :: rest) (hroom : F' + 1 ≤ F ∧ 8 + (nL' + 11) + L' ≤ L) (hcs : pp_cs rest ≤ 8) (d : decode cc pc = .ok (.invokevirtual idx, 3)) (kk : pp_E Γ ds cc nL (pc + 3) lv (rest) σ') : pp_E Γ ds cc nL pc lv stk σ := pp_callV hF hC hM hk hO hn hst hroom hcs d kk
theorem pp_callSv {y : MethodName} {cc' : ByteArray} {nL' F' L' n idx : Nat} {ret : Option FieldType} {as stk rest : List pp_V} {σ' : pp_M} (hF : pp_Fx Γ ds cc nL own F L) (hC : pp_Ct y cc' nL' ret F' L' ds as σ none σ') (hM : pp_MS y cc' nL' ret n) (hk : pp_Lk own idx y) (hn : as.length = n) (hst : stk = as.reverse ++ rest) (hroom : F' + 1 ≤ F ∧ 8 + (nL' + 11) + L' ≤ L) (hcs : pp_cs rest ≤ 8) (d : decode cc pc = .ok (.invokestatic idx, 3)) (kk : pp_E Γ ds cc nL (pc + 3) lv (rest) σ') : pp_E Γ ds cc nL pc lv stk σ := pp_callS hF hC hM hk hn hst hroom hcs d kk
/-- System.arraycopy of ints -/
abbrev pp_cpOk (sp dp n : Int32) (w w' : Nat) : Prop := ¬ sp < 0 ∧ ¬ dp < 0 ∧ ¬ n < 0 ∧ sp.toNatClampNeg + n.toNatClampNeg ≤ w ∧ dp.toNatClampNeg + n.toNatClampNeg ≤ w'
theorem pp_acopy {sp dp n : Int32} {t o w u q w' idx : Nat} {rest : List pp_V} (hF : pp_Fx Γ ds cc nL own F L) (ha : pp_ai ds t o w) (hb : pp_ai ds u q w') (hc : pp_cpOk sp dp n w w') (hk : Cond.methodLink own idx arraycopyName ∈ pp_tb) (hnat : Cond.native arraycopyName ∈ pp_tb) (hstat : Cond.static arraycopyName ∈ pp_tb) (hini : Cond.initialized "java/lang/System" ∈ pp_tb) (hroom : 1 ≤ F ∧ 8 + (nativeFrameWords "java/lang/System" "arraycopy" 5 + 11) ≤ L) (hcs : pp_cs rest ≤ 8) (d : decode cc pc = .ok (.invokestatic idx, 3)) (kk : pp_E Γ ds cc nL (pc + 3) lv rest (ppC σ t o u q sp.toNatClampNeg dp.toNatClampNeg n.toNatClampNeg)) : pp_E Γ ds cc nL pc lv (ppI n :: ppI dp :: ppR u q w' :: ppI sp :: ppR t o w :: rest) σ := by
  obtain ⟨⟨p, l, e, R, s, m, args, below, meth, c, Q, cl, sl, A⟩, X⟩ := Γ
  intro H locs ls hP hS hl
  obtain ⟨hx, hbc, hml, hown, hts, hK, ⟨hI, hok, hA⟩, hrm, hcl0, hlocks, hNw⟩ := hF
  obtain ⟨k0, hk0, hw0⟩ := pp_wd_at (X := X) (σ := σ) ha.1
  obtain ⟨k1, hk1, hw1⟩ := pp_wd_at (X := X) (σ := σ) hb.1
  rw [pp_cell_i ha.2] at hw0
  rw [pp_cell_i hb.2] at hw1
  obtain ⟨h1, h2, h3, h4, h5⟩ := hc
  refine va_copyi hx hbc (hml.trans hl.1.symm) hown (hts _ hk) (hts _ hnat) (hts _ hstat) (hts _ hini) hK hP (pp_wd_D hI hA) hS k0 k1 0 0 hw0 hw1 rfl rfl rfl h1 h2 h3 h4 h5 (fun _ _ => rfl) (Nat.le_trans hroom.1 hrm.1) (by rw [pp_cs_eq]; have := hrm.2; have := hroom.2; omega) d (fun H1 locs1 hP1 _ hS1 => kk H1 locs1 ls ?_ hS1 hl)
  rw [pp_wd_set (σ := σ) (σ' := ppC σ t o u q sp.toNatClampNeg dp.toNatClampNeg n.toNatClampNeg) hk1 hI rfl ?_ (pp_other hok hb.1 hb.2 (Or.inl rfl) rfl ?_)] at hP1
  · exact hP1
  · rw [pp_cell_i hb.2]
    congr 4
    funext j
    unfold va_cpy ppC
    by_cases hj : dp.toNatClampNeg ≤ j ∧ j < dp.toNatClampNeg + n.toNatClampNeg
    · have a1 : sp.toNatClampNeg + (j - dp.toNatClampNeg) < w := by omega
      have a2 : j < w' := by omega
      have a3 : q + dp.toNatClampNeg ≤ q + j ∧ q + j < q + dp.toNatClampNeg + n.toNatClampNeg := ⟨by omega, by omega⟩
      simp only [if_pos hj, if_pos a1, if_pos a2, true_and, if_pos a3]
      rw [show q + j - (q + dp.toNatClampNeg) = j - dp.toNatClampNeg by omega, Nat.add_assoc]
    · have a3 : ¬ (q + dp.toNatClampNeg ≤ q + j ∧ q + j < q + dp.toNatClampNeg + n.toNatClampNeg) := fun h => hj ⟨by omega, by omega⟩
      simp only [if_neg hj, true_and, if_neg a3]
  · intro a b hab
    unfold ppC
    refine if_neg (fun h => hab ⟨h.1, ?_⟩)
    omega
end PPC
abbrev pp_ix (i : Int32) (n : Nat) : Prop := ¬ (i < 0 ∨ n ≤ i.toNatClampNeg)
abbrev pp_b (v : Int32) : Prop := v = 0 ∨ v = 1
theorem pp_bn {v : Int32} (h : pp_b v) : narrow .boolean (.int v) = .int v := by
  rcases h with rfl | rfl <;> rfl
/-! the shapes of the functions: a test that must hold, a call -/
theorem pp_ck {α : Type} {c : Prop} [Decidable c] {a : Option α} {r : α} (h : (if c then a else none) = some r) : c ∧ a = some r := by
  by_cases hc : c
  · rw [if_pos hc] at h; exact ⟨hc, h⟩
  · rw [if_neg hc] at h; cases h
theorem pp_bd {α β : Type} {a : Option α} {f : α → Option β} {r : β} (h : a.bind f = some r) : ∃ x, a = some x ∧ f x = some r := by
  cases a with
  | none => cases h
  | some x => exact ⟨x, rfl, h⟩
end
section
/-! making objects: worlds that grow; an object that is being made is 'raw': its fields as they stand -/
abbrev pp_Z : Type := Nat × Nat × List (Option pp_V)
def pp_zf (ad : Nat → Nat → Nat) : Option pp_V → Value
  | none => .null
  | some v => ppv ad v
def pp_zc (X : pp_X) (z : pp_Z) : Nat × va_E := (X.2.2.1 z.1 0, .inr (z.2.1, z.2.2.map (pp_zf X.2.2.1)))
def pp_zk (zs : List pp_Z) : List (Nat × Nat) := zs.map (fun z => (z.1, 0))
/-- addresses are apart, and of a kind -/
def pp_I (X : pp_X) (A : Nat → Prop) (ks : List (Nat × Nat)) : Prop := (∀ d ∈ ks, ∀ d' ∈ ks, X.2.2.1 d.1 d.2 = X.2.2.1 d'.1 d'.2 → d = d') ∧ ∀ d ∈ ks, A (X.2.2.1 d.1 d.2)
def pp_P (X : pp_X) (ds : List (Nat × Nat)) (zs : List pp_Z) (σ : pp_M) (H : Heap) : Prop := (∀ d ∈ ds, va_at (X.1, X.2.1) pp_cl (X.2.2.1 d.1 d.2, pp_cell X σ d.1 d.2) H) ∧ ∀ z ∈ zs, va_at (X.1, X.2.1) pp_cl (pp_zc X z) H
/-- X grew by the tokens new -/
def pp_gr (new : List Nat) (X X' : pp_X) : Prop := X'.1 = X.1 ∧ X'.2.1 = X.2.1 ∧ X'.2.2.2 = X.2.2.2 ∧ ∀ a b, a ∉ new → X'.2.2.1 a b = X.2.2.1 a b
def pp_B (Y : pp_Y) (X : pp_X) (ds : List (Nat × Nat)) (zs : List pp_Z) (cl sl : Nat) (cc : ByteArray) (nL : Nat) (pc : Nat) (lv : List (Nat × pp_V)) (st : List pp_V) (σ : pp_M) : Prop := match Y with
  | (p, l, e, R, s, m, args, below, meth, c, Q, _, _, A) => ∀ (H : Heap) (locs : List Loc) (ls : Array Slot), va_K (X.1, X.2.1) pp_cl (pp_ty X) s → pp_P X ds zs σ H → pp_I X A (ds ++ pp_zk zs) → va_S A s.heap H locs → lv_has ls nL (pp_lv X lv) → W p l e R s m args below meth c H locs cl sl Q (F0 m pc ls (st.map (ppv X.2.2.1)))
def pp_Ao (U : State) : Prop := (Cond.arrayOver (.array .int)).before #[] U = true ∧ (Cond.arrayOver (.array .long)).before #[] U = true
theorem pp_Ao.moved {u U : State} (h : u.vm.Alike U.vm) (hu : pp_Ao u) : pp_Ao U := ⟨over_moved h hu.1, over_moved h hu.2⟩
def pp_Bx (Y : pp_Y) (cc : ByteArray) (nL : Nat) (own : String) (F L mc ms : Nat) : Prop := match Y with
  | (p, l, e, R, s, m, args, below, meth, c, Q, _, _, A) => p.tables.exec = Jvm.exec ∧ c.code = cc ∧ c.maxLocals = nL ∧ s.vm.findClass own = some m.cls ∧ (∀ w ∈ pp_tb, w.before args s = true) ∧ (∀ q, s.heap.size ≤ q → A q) ∧ (F ≤ R.frames ∧ L ≤ R.locals) ∧ (mc ≤ R.cells ∧ ms ≤ R.slots) ∧ meth.locks = false ∧ pp_Nw s ∧ meth.name = "<init>" ∧ pp_Ao s
-- mention of tokens
def pp_vn (new : List Nat) : pp_V → Bool
  | .inr (.inr (t, _, _)) => !(new.contains t)
  | _ => true
def pp_on (new : List Nat) : Option pp_V → Bool
  | none => true
  | some v => pp_vn new v
def pp_rn (new : List Nat) (t : Nat) : Bool := !(new.contains t) && (!(new.contains 0) && (pp_e t).2.2.2.all (fun f => !(new.contains f.2.1)))
/-- nothing of what stands there names the tokens new -/
def pp_fr (new : List Nat) (ds : List (Nat × Nat)) (zs : List pp_Z) (lv : List (Nat × pp_V)) (st : List pp_V) : Bool := ds.all (fun d => pp_rn new d.1) && (zs.all (fun z => !(new.contains z.1) && z.2.2.all (pp_on new)) && (lv.all (fun q => pp_vn new q.2) && st.all (pp_vn new)))
theorem pp_nc {new : List Nat} {t : Nat} (h : (!(new.contains t)) = true) : t ∉ new := fun q => by
  rw [List.contains_iff_mem.mpr q] at h
  cases h
theorem pp_vn_eq {new : List Nat} {X X' : pp_X} (hg : pp_gr new X X') {v : pp_V} (h : pp_vn new v = true) : ppv X'.2.2.1 v = ppv X.2.2.1 v := by
  rcases v with x | x | ⟨t, o, n⟩
  · rfl
  · rfl
  · show Value.ref _ = Value.ref _
    rw [hg.2.2.2 t o (pp_nc h)]
theorem pp_on_eq {new : List Nat} {X X' : pp_X} (hg : pp_gr new X X') {v : Option pp_V} (h : pp_on new v = true) : pp_zf X'.2.2.1 v = pp_zf X.2.2.1 v := by
  cases v with
  | none => rfl
  | some v => exact pp_vn_eq hg h
theorem pp_fl_gr {new : List Nat} {X X' : pp_X} (hg : pp_gr new X X') (σ : pp_M) (t : Nat) : ∀ (l : List (Nat × Nat × Nat × Nat)) (j : Nat), l.all (fun f => !(new.contains f.2.1)) = true → pp_fl X'.2.2.1 σ t j l = pp_fl X.2.2.1 σ t j l
  | [], j, _ => rfl
  | f :: l, j, h => by
    simp only [List.all_cons, Bool.and_eq_true] at h
    simp only [pp_fl]
    rw [pp_fl_gr hg σ t l (j + 1) h.2]
    congr 1
    unfold pp_fv
    rw [hg.2.2.2 f.2.1 f.2.2.1 (pp_nc h.1)]
theorem pp_cell_gr {new : List Nat} {X X' : pp_X} (hg : pp_gr new X X') {σ : pp_M} {t o : Nat} (h : pp_rn new t = true) : pp_cell X' σ t o = pp_cell X σ t o := by
  unfold pp_rn at h
  simp only [Bool.and_eq_true] at h
  have hids : X'.2.2.2 = X.2.2.2 := hg.2.2.1
  have hg4 : ∀ o, X'.2.2.1 ((pp_e t).2.2.2.getD 0 (0, 0, 0, 0)).2.1 o = X.2.2.1 ((pp_e t).2.2.2.getD 0 (0, 0, 0, 0)).2.1 o := by
    intro o
    cases hl : (pp_e t).2.2.2 with
    | nil => exact hg.2.2.2 _ _ (pp_nc h.2.1)
    | cons f l => exact hg.2.2.2 _ _ (pp_nc (List.all_eq_true.mp h.2.2 f (by rw [hl]; exact List.mem_cons_self)))
  unfold pp_cell pp_cellOf
  rw [hids, pp_fl_gr hg σ t _ 0 h.2.2]
  simp only [hg4]
theorem pp_gr_P {new : List Nat} {X X' : pp_X} (hg : pp_gr new X X') {ds : List (Nat × Nat)} {zs : List pp_Z} {σ σ' : pp_M} {lv : List (Nat × pp_V)} {st : List pp_V} {H H1 : Heap} (hf : pp_fr new ds zs lv st = true) (hσ : ∀ a, a ∉ new → (∀ j, σ'.1 a j = σ.1 a j) ∧ ∀ j, σ'.2 a j = σ.2 a j) (hP : pp_P X ds zs σ H) (hq : ∀ q : Nat, q < H.size → (∃ d ∈ ds ++ pp_zk zs, q = X.2.2.1 d.1 d.2) → H1[q]? = H[q]?) : pp_P X' ds zs σ' H1 := by
  unfold pp_fr at hf
  simp only [Bool.and_eq_true] at hf
  obtain ⟨h1, h2, -, -⟩ := hf
  refine ⟨fun d hd => ?_, fun z hz => ?_⟩
  · have hr := List.all_eq_true.mp h1 d hd
    have hn : d.1 ∉ new := by
      unfold pp_rn at hr
      simp only [Bool.and_eq_true] at hr
      exact pp_nc hr.1
    rw [pp_cell_gr hg hr, hg.2.2.2 _ _ hn, pp_cell_cong (hσ d.1 hn).1 (hσ d.1 hn).2, hg.1, hg.2.1]
    have h0 := hP.1 d hd
    exact h0.kept (hq _ h0.lt ⟨d, List.mem_append_left _ hd, rfl⟩)
  · have hr := List.all_eq_true.mp h2 z hz
    simp only [Bool.and_eq_true] at hr
    have e : pp_zc X' z = pp_zc X z := by
      unfold pp_zc
      rw [hg.2.2.2 _ _ (pp_nc hr.1)]
      congr 3
      apply List.map_congr_left
      intro v hv
      exact pp_on_eq hg (List.all_eq_true.mp hr.2 v hv)
    rw [e, hg.1, hg.2.1]
    have h0 := hP.2 z hz
    exact h0.kept (hq _ h0.lt ⟨(z.1, 0), List.mem_append_right _ (List.mem_map.mpr ⟨z, hz, rfl⟩), rfl⟩)
theorem pp_gr_lv {new : List Nat} {X X' : pp_X} (hg : pp_gr new X X') {ds : List (Nat × Nat)} {zs : List pp_Z} {lv : List (Nat × pp_V)} {st : List pp_V} (hf : pp_fr new ds zs lv st = true) : pp_lv X' lv = pp_lv X lv ∧ st.map (ppv X'.2.2.1) = st.map (ppv X.2.2.1) := by
  unfold pp_fr at hf
  simp only [Bool.and_eq_true] at hf
  obtain ⟨-, -, h3, h4⟩ := hf
  refine ⟨?_, ?_⟩
  · unfold pp_lv
    apply List.map_congr_left
    intro q hq
    rw [pp_vn_eq hg (List.all_eq_true.mp h3 q hq)]
  · apply List.map_congr_left
    intro q hq
    exact pp_vn_eq hg (List.all_eq_true.mp h4 q hq)
theorem pp_gr_key {new : List Nat} {X X' : pp_X} (hg : pp_gr new X X') {ds : List (Nat × Nat)} {zs : List pp_Z} {lv : List (Nat × pp_V)} {st : List pp_V} (hf : pp_fr new ds zs lv st = true) : ∀ d ∈ ds ++ pp_zk zs, X'.2.2.1 d.1 d.2 = X.2.2.1 d.1 d.2 := by
  unfold pp_fr at hf
  simp only [Bool.and_eq_true] at hf
  obtain ⟨h1, h2, -, -⟩ := hf
  intro d hd
  rcases List.mem_append.mp hd with h | h
  · have hr := List.all_eq_true.mp h1 d h
    unfold pp_rn at hr
    simp only [Bool.and_eq_true] at hr
    exact hg.2.2.2 _ _ (pp_nc hr.1)
  · obtain ⟨z, hz, rfl⟩ := List.mem_map.mp h
    have hr := List.all_eq_true.mp h2 z hz
    simp only [Bool.and_eq_true] at hr
    exact hg.2.2.2 _ _ (pp_nc hr.1)
theorem pp_P_lt {X : pp_X} {ds : List (Nat × Nat)} {zs : List pp_Z} {σ : pp_M} {H : Heap} (hP : pp_P X ds zs σ H) : ∀ d ∈ ds ++ pp_zk zs, X.2.2.1 d.1 d.2 < H.size := by
  intro d hd
  rcases List.mem_append.mp hd with h | h
  · exact (hP.1 d h).lt
  · obtain ⟨z, hz, rfl⟩ := List.mem_map.mp h
    exact (hP.2 z hz).lt
theorem pp_ty_gr {new : List Nat} {X X' : pp_X} (hg : pp_gr new X X') : pp_ty X' = pp_ty X := by
  unfold pp_ty
  rw [hg.2.2.1]
theorem pp_gr_tr {n1 n2 : List Nat} {X X1 X2 : pp_X} (h1 : pp_gr n1 X X1) (h2 : pp_gr n2 X1 X2) : pp_gr (n1 ++ n2) X X2 := ⟨h2.1.trans h1.1, h2.2.1.trans h1.2.1, h2.2.2.1.trans h1.2.2.1, fun a b h => (h2.2.2.2 a b (fun q => h (List.mem_append_right _ q))).trans (h1.2.2.2 a b (fun q => h (List.mem_append_left _ q)))⟩
def pp_z (σ : pp_M) (t : Nat) : pp_M := (fun a b => if a = t then 0 else σ.1 a b, fun a b => if a = t then 0 else σ.2 a b)
/-- the list that the kit's rows want -/
def pp_ws (X : pp_X) (ds : List (Nat × Nat)) (zs : List pp_Z) (σ : pp_M) : va_W := pp_wd X ds σ ++ zs.map (pp_zc X)
theorem pp_P_ws {X : pp_X} {ds : List (Nat × Nat)} {zs : List pp_Z} {σ : pp_M} {H : Heap} : pp_P X ds zs σ H ↔ va_P (X.1, X.2.1) pp_cl (pp_ws X ds zs σ) H := by
  constructor
  · intro h k q hq
    rcases List.mem_append.mp (List.mem_of_getElem? hq) with h1 | h1
    · obtain ⟨d, hd, rfl⟩ := List.mem_map.mp h1
      exact h.1 d hd
    · obtain ⟨z, hz, rfl⟩ := List.mem_map.mp h1
      exact h.2 z hz
  · intro h
    have key : ∀ q ∈ pp_ws X ds zs σ, va_at (X.1, X.2.1) pp_cl q H := fun q hq => by
      obtain ⟨k, hk⟩ := List.getElem?_of_mem hq
      exact h k q hk
    exact ⟨fun d hd => key _ (List.mem_append_left _ (List.mem_map.mpr ⟨d, hd, rfl⟩)), fun z hz => key _ (List.mem_append_right _ (List.mem_map.mpr ⟨z, hz, rfl⟩))⟩
theorem pp_I_inj {X : pp_X} {A : Nat → Prop} {ks : List (Nat × Nat)} (hn : ks.Nodup) (h : pp_I X A ks) : pp_inj X ks := by
  intro i j d d' h1 h2 h3
  have e := h.1 d (List.mem_of_getElem? h1) d' (List.mem_of_getElem? h2) h3
  subst e
  exact (List.getElem?_inj (List.getElem?_eq_some_iff.mp h1).1 hn).mp (h1.trans h2.symm)
theorem pp_ws_key {X : pp_X} {ds : List (Nat × Nat)} {zs : List pp_Z} {σ : pp_M} {k : Nat} {q : Nat × va_E} (h : (pp_ws X ds zs σ)[k]? = some q) : ∃ d, (ds ++ pp_zk zs)[k]? = some d ∧ q.1 = X.2.2.1 d.1 d.2 := by
  have e : (pp_ws X ds zs σ).map Prod.fst = (ds ++ pp_zk zs).map (fun d => X.2.2.1 d.1 d.2) := by
    unfold pp_ws pp_wd pp_zk
    simp only [List.map_append, List.map_map]
    rfl
  have h1 : ((pp_ws X ds zs σ).map Prod.fst)[k]? = some q.1 := by rw [List.getElem?_map, h]; rfl
  rw [e, List.getElem?_map] at h1
  cases hd : (ds ++ pp_zk zs)[k]? with
  | none => rw [hd] at h1; cases h1
  | some d => rw [hd] at h1; exact ⟨d, rfl, (Option.some.inj h1).symm⟩
theorem pp_I_D {X : pp_X} {A : Nat → Prop} {ds : List (Nat × Nat)} {zs : List pp_Z} {σ : pp_M} (hn : (ds ++ pp_zk zs).Nodup) (h : pp_I X A (ds ++ pp_zk zs)) : va_D A (pp_ws X ds zs σ) := by
  refine ⟨fun i j p q h1 h2 h3 => ?_, fun k q hk => ?_⟩
  · obtain ⟨d, e1, e2⟩ := pp_ws_key h1
    obtain ⟨d', e3, e4⟩ := pp_ws_key h2
    exact pp_I_inj hn h i j d d' e1 e3 (e2.symm.trans (h3.trans e4))
  · obtain ⟨d, e1, e2⟩ := pp_ws_key hk
    rw [e2]
    exact h.2 d (List.mem_of_getElem? e1)
end
section
/-! rules for making objects -/
section PPB
variable {Y : pp_Y} {X : pp_X} {ds : List (Nat × Nat)} {zs : List pp_Z} {cl sl cl' sl' : Nat} {cc : ByteArray} {nL : Nat} {own : String} {F L mc ms pc : Nat} {lv lv' : List (Nat × pp_V)} {st : List pp_V} {σ : pp_M}
theorem pb_iconst {n : Int} {v : Int32} (hB : pp_Bx Y cc nL own F L mc ms) (d : decode cc pc = .ok (.iconst n, 1)) (hv : Int32.ofInt n = v) (k : pp_B Y X ds zs cl sl cc nL (pc + 1) lv (ppI v :: st) σ) : pp_B Y X ds zs cl sl cc nL pc lv st σ := by
  obtain ⟨p, l, e, R, s, m, args, below, meth, c, Q, cl0, sl0, A⟩ := Y
  intro H locs ls hK hP hI hS hl
  exact lv_iconst hB.1 hB.2.1 d hv (k H locs ls hK hP hI hS hl)
theorem pb_bipush {n : Int} {v : Int32} (hB : pp_Bx Y cc nL own F L mc ms) (d : decode cc pc = .ok (.bipush n, 2)) (hv : (Int8.ofInt n).toInt32 = v) (k : pp_B Y X ds zs cl sl cc nL (pc + 2) lv (ppI v :: st) σ) : pp_B Y X ds zs cl sl cc nL pc lv st σ := by
  obtain ⟨p, l, e, R, s, m, args, below, meth, c, Q, cl0, sl0, A⟩ := Y
  intro H locs ls hK hP hI hS hl
  exact lv_bipush hB.1 hB.2.1 d hv (k H locs ls hK hP hI hS hl)
theorem pb_sipush {n : Int} {v : Int32} (hB : pp_Bx Y cc nL own F L mc ms) (d : decode cc pc = .ok (.sipush n, 3)) (hv : (Int16.ofInt n).toInt32 = v) (k : pp_B Y X ds zs cl sl cc nL (pc + 3) lv (ppI v :: st) σ) : pp_B Y X ds zs cl sl cc nL pc lv st σ := by
  obtain ⟨p, l, e, R, s, m, args, below, meth, c, Q, cl0, sl0, A⟩ := Y
  intro H locs ls hK hP hI hS hl
  exact lv_sipush hB.1 hB.2.1 d hv (k H locs ls hK hP hI hS hl)
theorem pb_lconst {n : Fin 2} {v : Int64} (hB : pp_Bx Y cc nL own F L mc ms) (d : decode cc pc = .ok (.lconst n, 1)) (hv : Int64.ofNat (n : Nat) = v) (k : pp_B Y X ds zs cl sl cc nL (pc + 1) lv (ppL v :: st) σ) : pp_B Y X ds zs cl sl cc nL pc lv st σ := by
  obtain ⟨p, l, e, R, s, m, args, below, meth, c, Q, cl0, sl0, A⟩ := Y
  intro H locs ls hK hP hI hS hl
  exact lv_lconst hB.1 hB.2.1 d hv (k H locs ls hK hP hI hS hl)
theorem pb_ldc2 {i : Nat} {v : Int64} (hB : pp_Bx Y cc nL own F L mc ms) (hw : Cond.constantLong own i v ∈ pp_tb) (d : decode cc pc = .ok (.ldc2_w i, 3)) (k : pp_B Y X ds zs cl sl cc nL (pc + 3) lv (ppL v :: st) σ) : pp_B Y X ds zs cl sl cc nL pc lv st σ := by
  obtain ⟨p, l, e, R, s, m, args, below, meth, c, Q, cl0, sl0, A⟩ := Y
  intro H locs ls hK hP hI hS hl
  exact lv_ldc2 hB.1 hB.2.1 hB.2.2.2.1 (hB.2.2.2.2.1 _ hw) d (k H locs ls hK hP hI hS hl)
theorem pb_aload_n {j : Fin 4} {i t o n : Nat} (hB : pp_Bx Y cc nL own F L mc ms) (d : decode cc pc = .ok (.aload_n j, 1)) (hi : (j : Nat) = i) (ha : pp_at lv i = some (ppR t o n)) (k : pp_B Y X ds zs cl sl cc nL (pc + 1) lv (ppR t o n :: st) σ) : pp_B Y X ds zs cl sl cc nL pc lv st σ := by
  obtain ⟨p, l, e, R, s, m, args, below, meth, c, Q, cl0, sl0, A⟩ := Y
  intro H locs ls hK hP hI hS hl
  exact lv_aload_n hB.1 hB.2.1 d hi (pp_has_at hl ha) (k H locs ls hK hP hI hS hl)
theorem pb_aload {i t o n : Nat} (hB : pp_Bx Y cc nL own F L mc ms) (d : decode cc pc = .ok (.aload i, 2)) (ha : pp_at lv i = some (ppR t o n)) (k : pp_B Y X ds zs cl sl cc nL (pc + 2) lv (ppR t o n :: st) σ) : pp_B Y X ds zs cl sl cc nL pc lv st σ := by
  obtain ⟨p, l, e, R, s, m, args, below, meth, c, Q, cl0, sl0, A⟩ := Y
  intro H locs ls hK hP hI hS hl
  exact lv_aload hB.1 hB.2.1 d (pp_has_at hl ha) (k H locs ls hK hP hI hS hl)
theorem pb_dupR {t o n : Nat} (hB : pp_Bx Y cc nL own F L mc ms) (d : decode cc pc = .ok (.dup, 1)) (k : pp_B Y X ds zs cl sl cc nL (pc + 1) lv (ppR t o n :: ppR t o n :: st) σ) : pp_B Y X ds zs cl sl cc nL pc lv (ppR t o n :: st) σ := by
  obtain ⟨p, l, e, R, s, m, args, below, meth, c, Q, cl0, sl0, A⟩ := Y
  intro H locs ls hK hP hI hS hl
  exact lv_dup hB.1 hB.2.1 d rfl (k H locs ls hK hP hI hS hl)
theorem pb_obj {t o n idx : Nat} (hB : pp_Bx Y cc nL own F L mc ms) (hk : Cond.methodLink own idx Lib.objectInit ∈ pp_tb) (hi : Cond.instanceMethod Lib.objectInit ∈ pp_tb) (hc : Cond.code Lib.objectInit ⟨#[0xb1]⟩ 1 none ∈ pp_tb) (hroom : 1 ≤ F ∧ 20 ≤ L) (hcs : pp_cs st ≤ 8) (d : decode cc pc = .ok (.invokespecial idx, 3)) (k : pp_B Y X ds zs cl sl cc nL (pc + 3) lv st σ) : pp_B Y X ds zs cl sl cc nL pc lv (ppR t o n :: st) σ := by
  obtain ⟨p, l, e, R, s, m, args, below, meth, c, Q, cl0, sl0, A⟩ := Y
  intro H locs ls hK hP hI hS hl
  have hw := lv_room (m := m) (pc := pc) (ls := ls) (rest := (ppR t o n :: st).map (ppv X.2.2.1)) (st := st.map (ppv X.2.2.1)) (by rw [pp_cs_eq]; exact hcs)
  exact W.objInit hB.1 hB.2.1 hB.2.2.2.1 (hB.2.2.2.2.1 _ hk) (hB.2.2.2.2.1 _ hi) (hB.2.2.2.2.1 _ hc) rfl (hl.1.trans hB.2.2.1.symm) rfl d (Nat.le_trans hroom.1 hB.2.2.2.2.2.2.1.1) (by have := hB.2.2.2.2.2.2.1.2; have := hroom.2; omega) (k H locs ls hK hP hI hS hl)
theorem pp_ws_at {z : pp_Z} {zs' : List pp_Z} : (pp_ws X ds (z :: zs') σ)[ds.length]? = some (pp_zc X z) := by
  unfold pp_ws pp_wd
  rw [List.getElem?_append_right (by rw [List.length_map]; exact Nat.le_refl _), List.length_map, Nat.sub_self]
  rfl
theorem pp_ws_set {t ci k : Nat} {fs : List (Option pp_V)} {zs' : List pp_Z} {v : pp_V} : (pp_ws X ds ((t, ci, fs) :: zs') σ).set ds.length (X.2.2.1 t 0, .inr (ci, (fs.map (pp_zf X.2.2.1)).set k (ppv X.2.2.1 v))) = pp_ws X ds ((t, ci, fs.set k (some v)) :: zs') σ := by
  unfold pp_ws pp_wd
  rw [List.set_append_right _ _ (by rw [List.length_map]; exact Nat.le_refl _), List.length_map, Nat.sub_self]
  congr 1
  simp only [List.map_cons, List.set_cons_zero]
  congr 1
  unfold pp_zc
  simp only [List.map_set]
  rfl
/-- the field k of a raw object of the class ci, as own names it by idx -/
def pp_Fr (own : String) (idx ci k : Nat) (fin : Bool) (ty : FieldType) : Prop := ∃ (C : String) (T : u_T) (N : Nat) (ty0 : Nat → FieldType), pp_cl[ci]? = some (C, T, N) ∧ (∀ w ∈ u_ws C T N, w ∈ pp_tb) ∧ k < N ∧ (T k).1 = C ∧ C = own ∧ Cond.fieldLink own idx C (T k).2.1 (T k).2.2.1 ∈ pp_tb ∧ (∀ j, j < N → parseFieldDescriptor (T j).2.2.1 = some (ty0 j)) ∧ (∀ a, a < N → ∀ b, b < N → a ≠ b → (T a).2.1 ≠ (T b).2.1) ∧ (T k).2.2.2 = fin ∧ parseFieldDescriptor (T k).2.2.1 = some ty
theorem pb_put {idx t ci k : Nat} {fin : Bool} {ty : FieldType} {fs fs' : List (Option pp_V)} {zs' : List pp_Z} {v : pp_V} (hB : pp_Bx Y cc nL own F L mc ms) (hf : pp_Fr own idx ci k fin ty) (hn : ∀ ad, narrow ty (ppv ad v) = ppv ad v) (hfit : ∀ ad, fits ty (ppv ad v) = true) (hl0 : k < fs.length) (hnd : (ds ++ pp_zk ((t, ci, fs) :: zs')).Nodup) (hfs : fs.set k (some v) = fs') (d : decode cc pc = .ok (.putfield idx, 3)) (kk : pp_B Y X ds ((t, ci, fs') :: zs') cl sl cc nL (pc + 3) lv st σ) : pp_B Y X ds ((t, ci, fs) :: zs') cl sl cc nL pc lv (v :: ppR t 0 0 :: st) σ := by
  obtain ⟨p, l, e, R, s, m, args, below, meth, c, Q, cl0, sl0, A⟩ := Y
  intro H locs ls hK hP hI hS hl
  obtain ⟨C, T, N, ty0, hc, hin, hk, hC, hCo, hlk, hty, hnm, hfin, hpd⟩ := hf
  subst hfs
  have hws := pp_P_ws.mp hP
  have hD := pp_I_D (σ := σ) hnd hI
  have he : (pp_ws X ds ((t, ci, fs) :: zs') σ)[ds.length]? = some (X.2.2.1 t 0, .inr (ci, fs.map (pp_zf X.2.2.1))) := pp_ws_at
  have hkf : k < (fs.map (pp_zf X.2.2.1)).length := by rw [List.length_map]; exact hl0
  have key : ∀ (H1 : Heap) (locs1 : List Loc), va_P (X.1, X.2.1) pp_cl ((pp_ws X ds ((t, ci, fs) :: zs') σ).set ds.length (X.2.2.1 t 0, .inr (ci, (fs.map (pp_zf X.2.2.1)).set k (ppv X.2.2.1 v)))) H1 → va_S A s.heap H1 locs1 → W p l e R s m args below meth c H1 locs1 cl sl Q (F0 m (pc + 3) ls (st.map (ppv X.2.2.1))) := fun H1 locs1 h1 h2 => by
    rw [pp_ws_set] at h1
    exact kk H1 locs1 ls hK (pp_P_ws.mpr h1) hI h2 hl
  cases fin with
  | true => exact va_putF hB.1 hB.2.1 hB.2.2.2.2.1 hin ty0 hty hnm hB.2.2.2.1 hK hws hD hS ds.length he hc k hk (hB.2.2.2.2.1 _ hlk) (fun z hz => by rw [hC] at hz; exact hz) hfin hB.2.2.2.2.2.2.2.2.2.2.1 (hC.trans hCo) hpd (hn _) (hfit _) hkf d (fun H1 locs1 h1 _ h3 => key H1 locs1 h1 h3)
  | false => exact va_put hB.1 hB.2.1 hB.2.2.2.2.1 hin ty0 hty hnm hB.2.2.2.1 hK hws hD hS ds.length he hc k hk (hB.2.2.2.2.1 _ hlk) (fun z hz => by rw [hC] at hz; exact hz) hfin hpd (hn _) (hfit _) hkf d (fun H1 locs1 h1 _ h3 => key H1 locs1 h1 h3)
theorem pb_get {idx t ci k t2 o2 n2 : Nat} {fin : Bool} {ty : FieldType} {fs : List (Option pp_V)} {zs' : List pp_Z} (hB : pp_Bx Y cc nL own F L mc ms) (hf : pp_Fr own idx ci k fin ty) (hfs : fs[k]? = some (some (ppR t2 o2 n2))) (d : decode cc pc = .ok (.getfield idx, 3)) (kk : pp_B Y X ds ((t, ci, fs) :: zs') cl sl cc nL (pc + 3) lv (ppR t2 o2 n2 :: st) σ) : pp_B Y X ds ((t, ci, fs) :: zs') cl sl cc nL pc lv (ppR t 0 0 :: st) σ := by
  obtain ⟨p, l, e, R, s, m, args, below, meth, c, Q, cl0, sl0, A⟩ := Y
  intro H locs ls hK hP hI hS hl
  obtain ⟨C, T, N, ty0, hc, hin, hk, hC, hCo, hlk, hty, hnm, hfin, hpd⟩ := hf
  have he : (pp_ws X ds ((t, ci, fs) :: zs') σ)[ds.length]? = some (X.2.2.1 t 0, .inr (ci, fs.map (pp_zf X.2.2.1))) := pp_ws_at
  exact va_get hB.1 hB.2.1 hB.2.2.2.2.1 hin hB.2.2.2.1 hK (pp_P_ws.mp hP) ds.length he hc k hk (hB.2.2.2.2.1 _ hlk) (fun z hz => by rw [hC] at hz; exact hz) (v := .ref (X.2.2.1 t2 o2)) (by rw [List.getElem?_map, hfs]; rfl) d (kk H locs ls hK hP hI hS hl)
theorem pp_I_grow {A : Nat → Prop} {new : List Nat} {X X' : pp_X} (hg : pp_gr new X X') {ds nw : List (Nat × Nat)} {zs : List pp_Z} {lv : List (Nat × pp_V)} {st : List pp_V} {n0 : Nat} (hf : pp_fr new ds zs lv st = true) (hI : pp_I X A (ds ++ pp_zk zs)) (hlt : ∀ d ∈ ds ++ pp_zk zs, X.2.2.1 d.1 d.2 < n0) (hge : ∀ d ∈ nw, n0 ≤ X'.2.2.1 d.1 d.2) (hin : ∀ d ∈ nw, ∀ d' ∈ nw, X'.2.2.1 d.1 d.2 = X'.2.2.1 d'.1 d'.2 → d = d') (hA : ∀ d ∈ nw, A (X'.2.2.1 d.1 d.2)) : pp_I X' A ((ds ++ nw) ++ pp_zk zs) := by
  have hk := pp_gr_key hg hf
  have split : ∀ d ∈ (ds ++ nw) ++ pp_zk zs, d ∈ ds ++ pp_zk zs ∨ d ∈ nw := fun d hd => by
    rcases List.mem_append.mp hd with h | h
    · rcases List.mem_append.mp h with h | h
      · exact Or.inl (List.mem_append_left _ h)
      · exact Or.inr h
    · exact Or.inl (List.mem_append_right _ h)
  refine ⟨fun d hd d' hd' e => ?_, fun d hd => ?_⟩
  · rcases split d hd with h | h <;> rcases split d' hd' with h' | h'
    · exact hI.1 d h d' h' (by rw [← hk d h, ← hk d' h']; exact e)
    · have a1 := hlt d h
      rw [← hk d h] at a1
      have a2 := hge d' h'
      omega
    · have a1 := hlt d' h'
      rw [← hk d' h'] at a1
      have a2 := hge d h
      omega
    · exact hin d h d' h' e
  · rcases split d hd with h | h
    · rw [hk d h]; exact hI.2 d h
    · exact hA d h
theorem pb_newa_i {v : Int32} {t n : Nat} (hB : pp_Bx Y cc nL own F L mc ms) (hk : pp_k t = (1, n)) (hf : pp_fr [t] ds zs lv st = true) (hv : ¬ v < 0) (hn : v.toNatClampNeg = n) (hbytes : n * componentBytes .int ≤ 536870912) (harr : Cond.arrayClass .int ∈ pp_tb) (hcl : cl + 1 = cl') (hsl : sl + n = sl') (hroom : cl' ≤ mc ∧ sl' ≤ ms) (d : decode cc pc = .ok (.newarray .int, 2)) (kk : ∀ X' : pp_X, pp_gr [t] X X' → pp_B Y X' (ds ++ [(t, 0)]) zs cl' sl' cc nL (pc + 2) lv (ppR t 0 n :: st) (pp_z σ t)) : pp_B Y X ds zs cl sl cc nL pc lv (ppI v :: st) σ := by
  obtain ⟨p, l, e, R, s, m, args, below, meth, c, Q, cl0, sl0, A⟩ := Y
  intro H locs ls hK hP hI hS hl
  subst hcl
  subst hsl
  refine va_newaK (atype := .int) (N := n) hB.1 hB.2.1 (hB.2.2.2.2.1 _ harr) (g := F0 m pc ls ((ppI v :: st).map (ppv X.2.2.1))) rfl d rfl hv hn hbytes (Nat.le_trans hroom.1 hB.2.2.2.2.2.2.2.1.1) (Nat.le_trans hroom.2 hB.2.2.2.2.2.2.2.1.2) rfl (fun H1 cA h1 h2 h3 h4 h5 => ?_)
  have hcA : cA = X.2.2.2.1 := Option.some.inj (h5.symm.trans (hK.2 0 _ rfl).2)
  subst hcA
  obtain ⟨X', hX'⟩ : ∃ X' : pp_X, X' = (X.1, X.2.1, fun a b => if a = t then H.size else X.2.2.1 a b, X.2.2.2) := ⟨_, rfl⟩
  have hg : pp_gr [t] X X' := by
    subst hX'
    refine ⟨rfl, rfl, rfl, fun a b h => if_neg (fun q => h (by rw [q]; exact List.mem_singleton.mpr rfl))⟩
  have hlt := pp_P_lt hP
  have had : X'.2.2.1 t 0 = H.size := by subst hX'; exact if_pos rfl
  obtain ⟨e1, e2⟩ := pp_gr_lv hg hf
  have hσ : ∀ a, a ∉ [t] → (∀ j, (pp_z σ t).1 a j = σ.1 a j) ∧ ∀ j, (pp_z σ t).2 a j = σ.2 a j := fun a ha => by
    have : a ≠ t := fun q => ha (by rw [q]; exact List.mem_singleton.mpr rfl)
    exact ⟨fun j => if_neg this, fun j => if_neg this⟩
  have hP0 : pp_P X' ds zs (pp_z σ t) H1 := pp_gr_P hg hf hσ hP (fun q hq _ => h3 q hq)
  have hnew : va_at (X'.1, X'.2.1) pp_cl (X'.2.2.1 t 0, pp_cell X' (pp_z σ t) t 0) H1 := by
    rw [had, pp_cell_i hk]
    have hid : X'.2.2.2 = X.2.2.2 := hg.2.2.1
    show H1[H.size]? = some (vp_cell _ _)
    rw [h1, hid]
    have ef : (fun j => if j < n then (pp_z σ t).1 t (0 + j) else 0) = (fun _ => 0) := by
      funext j
      simp [pp_z]
    rw [ef]
    rfl
  have hP' : pp_P X' (ds ++ [(t, 0)]) zs (pp_z σ t) H1 := ⟨fun q hq => by
    rcases List.mem_append.mp hq with h | h
    · exact hP0.1 q h
    · rw [List.mem_singleton.mp h]; exact hnew, hP0.2⟩
  have hI' : pp_I X' A ((ds ++ [(t, 0)]) ++ pp_zk zs) := by
    refine pp_I_grow hg hf hI hlt (fun q hq => ?_) (fun q hq q' hq' _ => ?_) (fun q hq => ?_)
    · rw [List.mem_singleton.mp hq]; exact Nat.le_of_eq had.symm
    · rw [List.mem_singleton.mp hq, List.mem_singleton.mp hq']
    · rw [List.mem_singleton.mp hq]
      show A (X'.2.2.1 t 0)
      rw [had]
      exact hB.2.2.2.2.2.1 _ hS.1
  have hK' : va_K (X'.1, X'.2.1) pp_cl (pp_ty X') s := by rw [pp_ty_gr hg, hg.1, hg.2.1]; exact hK
  have k1 := kk X' hg H1 locs ls hK' hP' hI' ⟨by rw [h2]; have := hS.1; omega, fun q a1 a2 => (h3 q (Nat.lt_of_lt_of_le a1 hS.1)).trans (hS.2.1 q a1 a2), hS.2.2⟩ (by rw [e1]; exact hl)
  have e3 : (ppR t 0 n :: st).map (ppv X'.2.2.1) = .ref H.size :: st.map (ppv X.2.2.1) := by
    rw [List.map_cons, e2]
    show Value.ref (X'.2.2.1 t 0) :: _ = _
    rw [had]
  rw [e3] at k1
  exact k1
theorem pb_newa_l {v : Int32} {t n : Nat} (hB : pp_Bx Y cc nL own F L mc ms) (hk : pp_k t = (2, n)) (hf : pp_fr [t] ds zs lv st = true) (hv : ¬ v < 0) (hn : v.toNatClampNeg = n) (hbytes : n * componentBytes .long ≤ 536870912) (harr : Cond.arrayClass .long ∈ pp_tb) (hcl : cl + 1 = cl') (hsl : sl + n = sl') (hroom : cl' ≤ mc ∧ sl' ≤ ms) (d : decode cc pc = .ok (.newarray .long, 2)) (kk : ∀ X' : pp_X, pp_gr [t] X X' → pp_B Y X' (ds ++ [(t, 0)]) zs cl' sl' cc nL (pc + 2) lv (ppR t 0 n :: st) (pp_z σ t)) : pp_B Y X ds zs cl sl cc nL pc lv (ppI v :: st) σ := by
  obtain ⟨p, l, e, R, s, m, args, below, meth, c, Q, cl0, sl0, A⟩ := Y
  intro H locs ls hK hP hI hS hl
  subst hcl
  subst hsl
  refine va_newaK (atype := .long) (N := n) hB.1 hB.2.1 (hB.2.2.2.2.1 _ harr) (g := F0 m pc ls ((ppI v :: st).map (ppv X.2.2.1))) rfl d rfl hv hn hbytes (Nat.le_trans hroom.1 hB.2.2.2.2.2.2.2.1.1) (Nat.le_trans hroom.2 hB.2.2.2.2.2.2.2.1.2) rfl (fun H1 cA h1 h2 h3 h4 h5 => ?_)
  have hcA : cA = X.2.2.2.2.1 := Option.some.inj (h5.symm.trans (hK.2 1 _ rfl).2)
  subst hcA
  obtain ⟨X', hX'⟩ : ∃ X' : pp_X, X' = (X.1, X.2.1, fun a b => if a = t then H.size else X.2.2.1 a b, X.2.2.2) := ⟨_, rfl⟩
  have hg : pp_gr [t] X X' := by
    subst hX'
    refine ⟨rfl, rfl, rfl, fun a b h => if_neg (fun q => h (by rw [q]; exact List.mem_singleton.mpr rfl))⟩
  have hlt := pp_P_lt hP
  have had : X'.2.2.1 t 0 = H.size := by subst hX'; exact if_pos rfl
  obtain ⟨e1, e2⟩ := pp_gr_lv hg hf
  have hσ : ∀ a, a ∉ [t] → (∀ j, (pp_z σ t).1 a j = σ.1 a j) ∧ ∀ j, (pp_z σ t).2 a j = σ.2 a j := fun a ha => by
    have : a ≠ t := fun q => ha (by rw [q]; exact List.mem_singleton.mpr rfl)
    exact ⟨fun j => if_neg this, fun j => if_neg this⟩
  have hP0 : pp_P X' ds zs (pp_z σ t) H1 := pp_gr_P hg hf hσ hP (fun q hq _ => h3 q hq)
  have hnew : va_at (X'.1, X'.2.1) pp_cl (X'.2.2.1 t 0, pp_cell X' (pp_z σ t) t 0) H1 := by
    rw [had, pp_cell_l hk]
    have hid : X'.2.2.2 = X.2.2.2 := hg.2.2.1
    show H1[H.size]? = some (vp_cell _ _)
    rw [h1, hid]
    have ef : (fun j => if j < n then (pp_z σ t).2 t (0 + j) else 0) = (fun _ => 0) := by
      funext j
      simp [pp_z]
    rw [ef]
    rfl
  have hP' : pp_P X' (ds ++ [(t, 0)]) zs (pp_z σ t) H1 := ⟨fun q hq => by
    rcases List.mem_append.mp hq with h | h
    · exact hP0.1 q h
    · rw [List.mem_singleton.mp h]; exact hnew, hP0.2⟩
  have hI' : pp_I X' A ((ds ++ [(t, 0)]) ++ pp_zk zs) := by
    refine pp_I_grow hg hf hI hlt (fun q hq => ?_) (fun q hq q' hq' _ => ?_) (fun q hq => ?_)
    · rw [List.mem_singleton.mp hq]; exact Nat.le_of_eq had.symm
    · rw [List.mem_singleton.mp hq, List.mem_singleton.mp hq']
    · rw [List.mem_singleton.mp hq]
      show A (X'.2.2.1 t 0)
      rw [had]
      exact hB.2.2.2.2.2.1 _ hS.1
  have hK' : va_K (X'.1, X'.2.1) pp_cl (pp_ty X') s := by rw [pp_ty_gr hg, hg.1, hg.2.1]; exact hK
  have k1 := kk X' hg H1 locs ls hK' hP' hI' ⟨by rw [h2]; have := hS.1; omega, fun q a1 a2 => (h3 q (Nat.lt_of_lt_of_le a1 hS.1)).trans (hS.2.1 q a1 a2), hS.2.2⟩ (by rw [e1]; exact hl)
  have e3 : (ppR t 0 n :: st).map (ppv X'.2.2.1) = .ref H.size :: st.map (ppv X.2.2.1) := by
    rw [List.map_cons, e2]
    show Value.ref (X'.2.2.1 t 0) :: _ = _
    rw [had]
  rw [e3] at k1
  exact k1
theorem pb_newa_z {v : Int32} {t n : Nat} (hB : pp_Bx Y cc nL own F L mc ms) (hk : pp_k t = (3, n)) (hf : pp_fr [t] ds zs lv st = true) (hv : ¬ v < 0) (hn : v.toNatClampNeg = n) (hbytes : n * componentBytes .boolean ≤ 536870912) (harr : Cond.arrayClass .boolean ∈ pp_tb) (hcl : cl + 1 = cl') (hsl : sl + n = sl') (hroom : cl' ≤ mc ∧ sl' ≤ ms) (d : decode cc pc = .ok (.newarray .boolean, 2)) (kk : ∀ X' : pp_X, pp_gr [t] X X' → pp_B Y X' (ds ++ [(t, 0)]) zs cl' sl' cc nL (pc + 2) lv (ppR t 0 n :: st) (pp_z σ t)) : pp_B Y X ds zs cl sl cc nL pc lv (ppI v :: st) σ := by
  obtain ⟨p, l, e, R, s, m, args, below, meth, c, Q, cl0, sl0, A⟩ := Y
  intro H locs ls hK hP hI hS hl
  subst hcl
  subst hsl
  refine va_newaK (atype := .boolean) (N := n) hB.1 hB.2.1 (hB.2.2.2.2.1 _ harr) (g := F0 m pc ls ((ppI v :: st).map (ppv X.2.2.1))) rfl d rfl hv hn hbytes (Nat.le_trans hroom.1 hB.2.2.2.2.2.2.2.1.1) (Nat.le_trans hroom.2 hB.2.2.2.2.2.2.2.1.2) rfl (fun H1 cA h1 h2 h3 h4 h5 => ?_)
  have hcA : cA = X.2.2.2.2.2.1 := Option.some.inj (h5.symm.trans (hK.2 2 _ rfl).2)
  subst hcA
  obtain ⟨X', hX'⟩ : ∃ X' : pp_X, X' = (X.1, X.2.1, fun a b => if a = t then H.size else X.2.2.1 a b, X.2.2.2) := ⟨_, rfl⟩
  have hg : pp_gr [t] X X' := by
    subst hX'
    refine ⟨rfl, rfl, rfl, fun a b h => if_neg (fun q => h (by rw [q]; exact List.mem_singleton.mpr rfl))⟩
  have hlt := pp_P_lt hP
  have had : X'.2.2.1 t 0 = H.size := by subst hX'; exact if_pos rfl
  obtain ⟨e1, e2⟩ := pp_gr_lv hg hf
  have hσ : ∀ a, a ∉ [t] → (∀ j, (pp_z σ t).1 a j = σ.1 a j) ∧ ∀ j, (pp_z σ t).2 a j = σ.2 a j := fun a ha => by
    have : a ≠ t := fun q => ha (by rw [q]; exact List.mem_singleton.mpr rfl)
    exact ⟨fun j => if_neg this, fun j => if_neg this⟩
  have hP0 : pp_P X' ds zs (pp_z σ t) H1 := pp_gr_P hg hf hσ hP (fun q hq _ => h3 q hq)
  have hnew : va_at (X'.1, X'.2.1) pp_cl (X'.2.2.1 t 0, pp_cell X' (pp_z σ t) t 0) H1 := by
    rw [had, pp_cell_z hk]
    have hid : X'.2.2.2 = X.2.2.2 := hg.2.2.1
    show H1[H.size]? = some (vp_cell _ _)
    rw [h1, hid]
    have ef : (fun j => if j < n then (pp_z σ t).1 t (0 + j) else 0) = (fun _ => 0) := by
      funext j
      simp [pp_z]
    rw [ef]
    rfl
  have hP' : pp_P X' (ds ++ [(t, 0)]) zs (pp_z σ t) H1 := ⟨fun q hq => by
    rcases List.mem_append.mp hq with h | h
    · exact hP0.1 q h
    · rw [List.mem_singleton.mp h]; exact hnew, hP0.2⟩
  have hI' : pp_I X' A ((ds ++ [(t, 0)]) ++ pp_zk zs) := by
    refine pp_I_grow hg hf hI hlt (fun q hq => ?_) (fun q hq q' hq' _ => ?_) (fun q hq => ?_)
    · rw [List.mem_singleton.mp hq]; exact Nat.le_of_eq had.symm
    · rw [List.mem_singleton.mp hq, List.mem_singleton.mp hq']
    · rw [List.mem_singleton.mp hq]
      show A (X'.2.2.1 t 0)
      rw [had]
      exact hB.2.2.2.2.2.1 _ hS.1
  have hK' : va_K (X'.1, X'.2.1) pp_cl (pp_ty X') s := by rw [pp_ty_gr hg, hg.1, hg.2.1]; exact hK
  have k1 := kk X' hg H1 locs ls hK' hP' hI' ⟨by rw [h2]; have := hS.1; omega, fun q a1 a2 => (h3 q (Nat.lt_of_lt_of_le a1 hS.1)).trans (hS.2.1 q a1 a2), hS.2.2⟩ (by rw [e1]; exact hl)
  have e3 : (ppR t 0 n :: st).map (ppv X'.2.2.1) = .ref H.size :: st.map (ppv X.2.2.1) := by
    rw [List.map_cons, e2]
    show Value.ref (X'.2.2.1 t 0) :: _ = _
    rw [had]
  rw [e3] at k1
  exact k1
end PPB
end
section
/-! arrays of arrays, objects, constructors -/
theorem pp_outer (c : ClassId) (N h0 : Nat) : ∀ i : Nat, Jvm.Free.Multi.outerC c N h0 i = arrV c N (fun j => va_rf (if j < i then some (h0 + 1 + j) else none))
  | 0 => by
    show ({ cls := c, slots := Array.replicate N .null, vm := .none } : Cell) = _
    rw [arrV_new]
    refine congrArg (arrV c N) (funext fun j => ?_)
    simp [va_rf]
  | i + 1 => by
    show (Jvm.Free.Multi.outerC c N h0 i).setSlot i (.ref (h0 + 1 + i)) = _
    rw [pp_outer c N h0 i, arrV_store]
    refine congrArg (arrV c N) (funext fun j => ?_)
    by_cases e : j = i
    · subst e
      simp [updV, va_rf]
    · by_cases h : j < i
      · simp [updV, e, h, Nat.lt_succ_of_lt h]
      · simp [updV, e, h, show ¬ j < i + 1 by omega]
section PPB3
variable {Y : pp_Y} {X : pp_X} {ds : List (Nat × Nat)} {zs : List pp_Z} {cl sl cl' sl' : Nat} {cc : ByteArray} {nL : Nat} {own : String} {F L mc ms pc : Nat} {lv lv' : List (Nat × pp_V)} {st : List pp_V} {σ : pp_M}
theorem pb_mna_i {v w : Int32} {t g N n idx : Nat} {nw : List (Nat × Nat)} (hB : pp_Bx Y cc nL own F L mc ms) (ho : pp_e t = (4, N, n, [(2, g, 0, 0)])) (hk : pp_k g = (1, n)) (hpos : 0 < n) (htg : t ≠ g) (hnw : (t, 0) :: (List.range N).map (fun i => (g, i * n)) = nw) (hf : pp_fr [t, g] ds zs lv st = true) (hv : ¬ v < 0) (hn : v.toNatClampNeg = N) (hw : ¬ w < 0) (hm : w.toNatClampNeg = n) (hb1 : N * 4 ≤ 536870912) (hb2 : n * componentBytes .int ≤ 536870912) (hb3 : n ≤ 536870912) (harr : Cond.arrayClass .int ∈ pp_tb) (hlk : Cond.classLink own idx "[[I" ∈ pp_tb) (hcl : cl + (1 + N) = cl') (hsl : sl + (N + N * n) = sl') (hroom : cl' ≤ mc ∧ sl' ≤ ms) (d : decode cc pc = .ok (.multianewarray idx 2, 4)) (kk : ∀ X' : pp_X, pp_gr [t, g] X X' → pp_B Y X' (ds ++ nw) zs cl' sl' cc nL (pc + 4) lv (ppR t 0 N :: st) (pp_z (pp_z σ t) g)) : pp_B Y X ds zs cl sl cc nL pc lv (ppI w :: ppI v :: st) σ := by
  obtain ⟨p, l, e, R, s, m, args, below, meth, c, Q, cl0, sl0, A⟩ := Y
  intro H locs ls hK hP hI hS hl
  subst hcl
  subst hsl
  subst hnw
  have hAo : (Cond.arrayOver (.array .int)).before args s = true := over_moved (Vm.Alike.refl s.vm) hB.2.2.2.2.2.2.2.2.2.2.2.1
  intro T hT Xs
  obtain ⟨vm₁, cA, comp, -, fA, fC, -, -, XF, step⟩ := Xs.multianewarray2F (ty := .int) (n := v) (k := w) (rest := st.map (ppv X.2.2.1)) hB.1 hB.2.2.2.1 (hB.2.2.2.2.1 _ hlk) hAo (hB.2.2.2.2.1 _ harr) (g := F0 m pc ls ((ppI w :: ppI v :: st).map (ppv X.2.2.1))) rfl (by rw [hB.2.1]; exact d) rfl hv hw (by rw [hn]; exact hb1) (by rw [hm]; exact hb2) (by rw [hm]; exact hb3) rfl rfl (by rw [hn]; exact Nat.le_trans hroom.1 hB.2.2.2.2.2.2.2.1.1) (by rw [hn, hm]; exact Nat.le_trans hroom.2 hB.2.2.2.2.2.2.2.1.2)
  rw [hn, hm] at XF step
  have hcA : cA = X.2.2.2.2.2.2.1 := Option.some.inj (fA.symm.trans (hK.2 3 _ rfl).2)
  have hcC : comp = X.2.2.2.1 := Option.some.inj (fC.symm.trans (hK.2 0 _ rfl).2)
  subst hcA
  subst hcC
  generalize hFl : Jvm.Free.Multi.fill (T.setVm vm₁) (X.2.2.2.2.2.2.1) (X.2.2.2.1) N n (defaultValue .int) N = Fl at XF step
  have hTh : (T.setVm vm₁).heap = H := hT
  obtain ⟨f1, f2, -, -⟩ := Jvm.Free.Multi.fill_facts (T.setVm vm₁) (X.2.2.2.2.2.2.1) (X.2.2.2.1) N n (defaultValue .int) N
  rw [hFl, hTh] at f1 f2
  have hold : ∀ x : Nat, x < H.size → Fl.heap[x]? = H[x]? := fun x hx => by
    have := Jvm.Free.Multi.fill_old (T.setVm vm₁) (X.2.2.2.2.2.2.1) (X.2.2.2.1) N n (defaultValue .int) (a := x) (by rw [hTh]; exact hx) N
    rw [hFl, hTh] at this
    exact this
  have hrow : ∀ j : Nat, j < N → Fl.heap[H.size + 1 + j]? = some (Jvm.Free.Multi.innerC (X.2.2.2.1) n (defaultValue .int)) := fun j hj => by
    have := Jvm.Free.Multi.fill_inner (T.setVm vm₁) (X.2.2.2.2.2.2.1) (X.2.2.2.1) N n (defaultValue .int) N j hj
    rw [hFl, hTh] at this
    exact this
  rw [pp_outer] at f2
  obtain ⟨X', hX'⟩ : ∃ X' : pp_X, X' = (X.1, X.2.1, fun a b => if a = t then H.size else if a = g then H.size + 1 + b / n else X.2.2.1 a b, X.2.2.2) := ⟨_, rfl⟩
  have hg : pp_gr [t, g] X X' := by
    subst hX'
    refine ⟨rfl, rfl, rfl, fun a b h => ?_⟩
    show (if a = t then _ else if a = g then _ else _) = _
    rw [if_neg (fun q => h (by rw [q]; exact List.mem_cons_self)), if_neg (fun q => h (by rw [q]; exact List.mem_cons_of_mem _ List.mem_cons_self))]
  have hlt := pp_P_lt hP
  have had : X'.2.2.1 t 0 = H.size := by subst hX'; exact if_pos rfl
  have hag : ∀ i, X'.2.2.1 g (i * n) = H.size + 1 + i := fun i => by
    subst hX'
    show (if g = t then _ else if g = g then _ else _) = _
    rw [if_neg (Ne.symm htg), if_pos rfl, Nat.mul_div_cancel _ hpos]
  obtain ⟨e1, e2⟩ := pp_gr_lv hg hf
  have hσ : ∀ a, a ∉ [t, g] → (∀ j, (pp_z (pp_z σ t) g).1 a j = σ.1 a j) ∧ ∀ j, (pp_z (pp_z σ t) g).2 a j = σ.2 a j := fun a ha => by
    have h1 : a ≠ t := fun q => ha (by rw [q]; exact List.mem_cons_self)
    have h2 : a ≠ g := fun q => ha (by rw [q]; exact List.mem_cons_of_mem _ List.mem_cons_self)
    exact ⟨fun j => by simp [pp_z, h1, h2], fun j => by simp [pp_z, h1, h2]⟩
  have hid : X'.2.2.2 = X.2.2.2 := hg.2.2.1
  have hP0 : pp_P X' ds zs (pp_z (pp_z σ t) g) Fl.heap := pp_gr_P hg hf hσ hP (fun q hq _ => hold q hq)
  have hnewT : va_at (X'.1, X'.2.1) pp_cl (X'.2.2.1 t 0, pp_cell X' (pp_z (pp_z σ t) g) t 0) Fl.heap := by
    rw [had, pp_cell_oi ho]
    show Fl.heap[H.size]? = some (vp_cell _ _)
    rw [f2, hid, vp_cell_q]
    congr 2
    funext i
    rw [hag i]
  have hnewG : ∀ i, i < N → va_at (X'.1, X'.2.1) pp_cl (X'.2.2.1 g (i * n), pp_cell X' (pp_z (pp_z σ t) g) g (i * n)) Fl.heap := fun i hi => by
    rw [hag i, pp_cell_i hk]
    show Fl.heap[H.size + 1 + i]? = some (vp_cell _ _)
    rw [hrow i hi, hid]
    have ef : (fun j => if j < n then (pp_z (pp_z σ t) g).1 g (i * n + j) else 0) = (fun _ => 0) := by
      funext j
      simp [pp_z]
    rw [ef]
    show some ({ cls := _, slots := Array.replicate n (defaultValue .int), vm := .none } : Cell) = _
    rw [arrV_new]
    rfl
  have hmem : ∀ q ∈ ((t, 0) :: (List.range N).map (fun i => (g, i * n)) : List (Nat × Nat)), q = (t, 0) ∨ ∃ i, i < N ∧ q = (g, i * n) := fun q hq => by
    rcases List.mem_cons.mp hq with h | h
    · exact Or.inl h
    · obtain ⟨i, hi, rfl⟩ := List.mem_map.mp h
      exact Or.inr ⟨i, List.mem_range.mp hi, rfl⟩
  have hP' : pp_P X' (ds ++ ((t, 0) :: (List.range N).map (fun i => (g, i * n)))) zs (pp_z (pp_z σ t) g) Fl.heap := ⟨fun q hq => by
    rcases List.mem_append.mp hq with h | h
    · exact hP0.1 q h
    · rcases hmem q h with rfl | ⟨i, hi, rfl⟩
      · exact hnewT
      · exact hnewG i hi, hP0.2⟩
  have hI' : pp_I X' A ((ds ++ ((t, 0) :: (List.range N).map (fun i => (g, i * n)))) ++ pp_zk zs) := by
    refine pp_I_grow hg hf hI hlt (fun q hq => ?_) (fun q hq q' hq' he => ?_) (fun q hq => ?_)
    · rcases hmem q hq with rfl | ⟨i, hi, rfl⟩
      · exact Nat.le_of_eq had.symm
      · show _ ≤ X'.2.2.1 g (i * n)
        rw [hag i]; omega
    · rcases hmem q hq with rfl | ⟨i, hi, rfl⟩ <;> rcases hmem q' hq' with rfl | ⟨j, hj, rfl⟩
      · rfl
      · have he : X'.2.2.1 t 0 = X'.2.2.1 g (j * n) := he
        rw [had, hag] at he; omega
      · have he : X'.2.2.1 g (i * n) = X'.2.2.1 t 0 := he
        rw [had, hag] at he; omega
      · have he : X'.2.2.1 g (i * n) = X'.2.2.1 g (j * n) := he
        rw [hag, hag] at he
        have : i = j := by omega
        rw [this]
    · rcases hmem q hq with rfl | ⟨i, hi, rfl⟩
      · show A (X'.2.2.1 t 0)
        rw [had]; exact hB.2.2.2.2.2.1 _ hS.1
      · show A (X'.2.2.1 g (i * n))
        rw [hag i]; exact hB.2.2.2.2.2.1 _ (by have := hS.1; omega)
  have hK' : va_K (X'.1, X'.2.1) pp_cl (pp_ty X') s := by rw [pp_ty_gr hg, hg.1, hg.2.1]; exact hK
  have k1 := kk X' hg Fl.heap locs ls hK' hP' hI' ⟨by rw [f1]; have := hS.1; omega, fun q a1 a2 => (hold q (Nat.lt_of_lt_of_le a1 hS.1)).trans (hS.2.1 q a1 a2), hS.2.2⟩ (by rw [e1]; exact hl)
  have e3 : (ppR t 0 N :: st).map (ppv X'.2.2.1) = .ref H.size :: st.map (ppv X.2.2.1) := by
    rw [List.map_cons, e2]
    show Value.ref (X'.2.2.1 t 0) :: _ = _
    rw [had]
  rw [e3] at k1
  rw [show cl + 1 + N = cl + (1 + N) by omega, show sl + N + N * n = sl + (N + N * n) by omega] at XF
  obtain ⟨t2, a1, b1⟩ := k1 Fl rfl XF
  refine ⟨t2, step t2 ?_, b1⟩
  have eT : T.heap.size = H.size := by rw [hT]
  rw [eT]
  exact a1
theorem pb_mna_l {v w : Int32} {t g N n idx : Nat} {nw : List (Nat × Nat)} (hB : pp_Bx Y cc nL own F L mc ms) (ho : pp_e t = (5, N, n, [(2, g, 0, 0)])) (hk : pp_k g = (2, n)) (hpos : 0 < n) (htg : t ≠ g) (hnw : (t, 0) :: (List.range N).map (fun i => (g, i * n)) = nw) (hf : pp_fr [t, g] ds zs lv st = true) (hv : ¬ v < 0) (hn : v.toNatClampNeg = N) (hw : ¬ w < 0) (hm : w.toNatClampNeg = n) (hb1 : N * 4 ≤ 536870912) (hb2 : n * componentBytes .long ≤ 536870912) (hb3 : n ≤ 536870912) (harr : Cond.arrayClass .long ∈ pp_tb) (hlk : Cond.classLink own idx "[[J" ∈ pp_tb) (hcl : cl + (1 + N) = cl') (hsl : sl + (N + N * n) = sl') (hroom : cl' ≤ mc ∧ sl' ≤ ms) (d : decode cc pc = .ok (.multianewarray idx 2, 4)) (kk : ∀ X' : pp_X, pp_gr [t, g] X X' → pp_B Y X' (ds ++ nw) zs cl' sl' cc nL (pc + 4) lv (ppR t 0 N :: st) (pp_z (pp_z σ t) g)) : pp_B Y X ds zs cl sl cc nL pc lv (ppI w :: ppI v :: st) σ := by
  obtain ⟨p, l, e, R, s, m, args, below, meth, c, Q, cl0, sl0, A⟩ := Y
  intro H locs ls hK hP hI hS hl
  subst hcl
  subst hsl
  subst hnw
  have hAo : (Cond.arrayOver (.array .long)).before args s = true := over_moved (Vm.Alike.refl s.vm) hB.2.2.2.2.2.2.2.2.2.2.2.2
  intro T hT Xs
  obtain ⟨vm₁, cA, comp, -, fA, fC, -, -, XF, step⟩ := Xs.multianewarray2F (ty := .long) (n := v) (k := w) (rest := st.map (ppv X.2.2.1)) hB.1 hB.2.2.2.1 (hB.2.2.2.2.1 _ hlk) hAo (hB.2.2.2.2.1 _ harr) (g := F0 m pc ls ((ppI w :: ppI v :: st).map (ppv X.2.2.1))) rfl (by rw [hB.2.1]; exact d) rfl hv hw (by rw [hn]; exact hb1) (by rw [hm]; exact hb2) (by rw [hm]; exact hb3) rfl rfl (by rw [hn]; exact Nat.le_trans hroom.1 hB.2.2.2.2.2.2.2.1.1) (by rw [hn, hm]; exact Nat.le_trans hroom.2 hB.2.2.2.2.2.2.2.1.2)
  rw [hn, hm] at XF step
  have hcA : cA = X.2.2.2.2.2.2.2 := Option.some.inj (fA.symm.trans (hK.2 4 _ rfl).2)
  have hcC : comp = X.2.2.2.2.1 := Option.some.inj (fC.symm.trans (hK.2 1 _ rfl).2)
  subst hcA
  subst hcC
  generalize hFl : Jvm.Free.Multi.fill (T.setVm vm₁) (X.2.2.2.2.2.2.2) (X.2.2.2.2.1) N n (defaultValue .long) N = Fl at XF step
  have hTh : (T.setVm vm₁).heap = H := hT
  obtain ⟨f1, f2, -, -⟩ := Jvm.Free.Multi.fill_facts (T.setVm vm₁) (X.2.2.2.2.2.2.2) (X.2.2.2.2.1) N n (defaultValue .long) N
  rw [hFl, hTh] at f1 f2
  have hold : ∀ x : Nat, x < H.size → Fl.heap[x]? = H[x]? := fun x hx => by
    have := Jvm.Free.Multi.fill_old (T.setVm vm₁) (X.2.2.2.2.2.2.2) (X.2.2.2.2.1) N n (defaultValue .long) (a := x) (by rw [hTh]; exact hx) N
    rw [hFl, hTh] at this
    exact this
  have hrow : ∀ j : Nat, j < N → Fl.heap[H.size + 1 + j]? = some (Jvm.Free.Multi.innerC (X.2.2.2.2.1) n (defaultValue .long)) := fun j hj => by
    have := Jvm.Free.Multi.fill_inner (T.setVm vm₁) (X.2.2.2.2.2.2.2) (X.2.2.2.2.1) N n (defaultValue .long) N j hj
    rw [hFl, hTh] at this
    exact this
  rw [pp_outer] at f2
  obtain ⟨X', hX'⟩ : ∃ X' : pp_X, X' = (X.1, X.2.1, fun a b => if a = t then H.size else if a = g then H.size + 1 + b / n else X.2.2.1 a b, X.2.2.2) := ⟨_, rfl⟩
  have hg : pp_gr [t, g] X X' := by
    subst hX'
    refine ⟨rfl, rfl, rfl, fun a b h => ?_⟩
    show (if a = t then _ else if a = g then _ else _) = _
    rw [if_neg (fun q => h (by rw [q]; exact List.mem_cons_self)), if_neg (fun q => h (by rw [q]; exact List.mem_cons_of_mem _ List.mem_cons_self))]
  have hlt := pp_P_lt hP
  have had : X'.2.2.1 t 0 = H.size := by subst hX'; exact if_pos rfl
  have hag : ∀ i, X'.2.2.1 g (i * n) = H.size + 1 + i := fun i => by
    subst hX'
    show (if g = t then _ else if g = g then _ else _) = _
    rw [if_neg (Ne.symm htg), if_pos rfl, Nat.mul_div_cancel _ hpos]
  obtain ⟨e1, e2⟩ := pp_gr_lv hg hf
  have hσ : ∀ a, a ∉ [t, g] → (∀ j, (pp_z (pp_z σ t) g).1 a j = σ.1 a j) ∧ ∀ j, (pp_z (pp_z σ t) g).2 a j = σ.2 a j := fun a ha => by
    have h1 : a ≠ t := fun q => ha (by rw [q]; exact List.mem_cons_self)
    have h2 : a ≠ g := fun q => ha (by rw [q]; exact List.mem_cons_of_mem _ List.mem_cons_self)
    exact ⟨fun j => by simp [pp_z, h1, h2], fun j => by simp [pp_z, h1, h2]⟩
  have hid : X'.2.2.2 = X.2.2.2 := hg.2.2.1
  have hP0 : pp_P X' ds zs (pp_z (pp_z σ t) g) Fl.heap := pp_gr_P hg hf hσ hP (fun q hq _ => hold q hq)
  have hnewT : va_at (X'.1, X'.2.1) pp_cl (X'.2.2.1 t 0, pp_cell X' (pp_z (pp_z σ t) g) t 0) Fl.heap := by
    rw [had, pp_cell_ol ho]
    show Fl.heap[H.size]? = some (vp_cell _ _)
    rw [f2, hid, vp_cell_q]
    congr 2
    funext i
    rw [hag i]
  have hnewG : ∀ i, i < N → va_at (X'.1, X'.2.1) pp_cl (X'.2.2.1 g (i * n), pp_cell X' (pp_z (pp_z σ t) g) g (i * n)) Fl.heap := fun i hi => by
    rw [hag i, pp_cell_l hk]
    show Fl.heap[H.size + 1 + i]? = some (vp_cell _ _)
    rw [hrow i hi, hid]
    have ef : (fun j => if j < n then (pp_z (pp_z σ t) g).2 g (i * n + j) else 0) = (fun _ => 0) := by
      funext j
      simp [pp_z]
    rw [ef]
    show some ({ cls := _, slots := Array.replicate n (defaultValue .long), vm := .none } : Cell) = _
    rw [arrV_new]
    rfl
  have hmem : ∀ q ∈ ((t, 0) :: (List.range N).map (fun i => (g, i * n)) : List (Nat × Nat)), q = (t, 0) ∨ ∃ i, i < N ∧ q = (g, i * n) := fun q hq => by
    rcases List.mem_cons.mp hq with h | h
    · exact Or.inl h
    · obtain ⟨i, hi, rfl⟩ := List.mem_map.mp h
      exact Or.inr ⟨i, List.mem_range.mp hi, rfl⟩
  have hP' : pp_P X' (ds ++ ((t, 0) :: (List.range N).map (fun i => (g, i * n)))) zs (pp_z (pp_z σ t) g) Fl.heap := ⟨fun q hq => by
    rcases List.mem_append.mp hq with h | h
    · exact hP0.1 q h
    · rcases hmem q h with rfl | ⟨i, hi, rfl⟩
      · exact hnewT
      · exact hnewG i hi, hP0.2⟩
  have hI' : pp_I X' A ((ds ++ ((t, 0) :: (List.range N).map (fun i => (g, i * n)))) ++ pp_zk zs) := by
    refine pp_I_grow hg hf hI hlt (fun q hq => ?_) (fun q hq q' hq' he => ?_) (fun q hq => ?_)
    · rcases hmem q hq with rfl | ⟨i, hi, rfl⟩
      · exact Nat.le_of_eq had.symm
      · show _ ≤ X'.2.2.1 g (i * n)
        rw [hag i]; omega
    · rcases hmem q hq with rfl | ⟨i, hi, rfl⟩ <;> rcases hmem q' hq' with rfl | ⟨j, hj, rfl⟩
      · rfl
      · have he : X'.2.2.1 t 0 = X'.2.2.1 g (j * n) := he
        rw [had, hag] at he; omega
      · have he : X'.2.2.1 g (i * n) = X'.2.2.1 t 0 := he
        rw [had, hag] at he; omega
      · have he : X'.2.2.1 g (i * n) = X'.2.2.1 g (j * n) := he
        rw [hag, hag] at he
        have : i = j := by omega
        rw [this]
    · rcases hmem q hq with rfl | ⟨i, hi, rfl⟩
      · show A (X'.2.2.1 t 0)
        rw [had]; exact hB.2.2.2.2.2.1 _ hS.1
      · show A (X'.2.2.1 g (i * n))
        rw [hag i]; exact hB.2.2.2.2.2.1 _ (by have := hS.1; omega)
  have hK' : va_K (X'.1, X'.2.1) pp_cl (pp_ty X') s := by rw [pp_ty_gr hg, hg.1, hg.2.1]; exact hK
  have k1 := kk X' hg Fl.heap locs ls hK' hP' hI' ⟨by rw [f1]; have := hS.1; omega, fun q a1 a2 => (hold q (Nat.lt_of_lt_of_le a1 hS.1)).trans (hS.2.1 q a1 a2), hS.2.2⟩ (by rw [e1]; exact hl)
  have e3 : (ppR t 0 N :: st).map (ppv X'.2.2.1) = .ref H.size :: st.map (ppv X.2.2.1) := by
    rw [List.map_cons, e2]
    show Value.ref (X'.2.2.1 t 0) :: _ = _
    rw [had]
  rw [e3] at k1
  rw [show cl + 1 + N = cl + (1 + N) by omega, show sl + N + N * n = sl + (N + N * n) by omega] at XF
  obtain ⟨t2, a1, b1⟩ := k1 Fl rfl XF
  refine ⟨t2, step t2 ?_, b1⟩
  have eT : T.heap.size = H.size := by rw [hT]
  rw [eT]
  exact a1
end PPB3
end
section
/-! new objects, constructors' contracts -/
def pp_An (X : pp_X) (t sz : Nat) : Nat → Prop := fun q => q = X.2.2.1 t 0 ∨ sz ≤ q
/-- behind a constructor: the object t and what it made, as the cells ds tell, in the memory σ -/
def pp_Qn (X : pp_X) (new : List Nat) (ds : List (Nat × Nat)) (A : Nat → Prop) (σ : pp_M) : Array Value → State → Outcome → State → Prop := fun _ st oc t => oc = .returned none ∧ (∃ X' : pp_X, pp_gr new X X' ∧ (∀ d ∈ ds, va_at (X'.1, X'.2.1) pp_cl (X'.2.2.1 d.1 d.2, pp_cell X' σ d.1 d.2) t.heap) ∧ pp_I X' A ds) ∧ va_K (X.1, X.2.1) pp_cl (pp_ty X) t ∧ va_F A st t
def pp_Pn (X : pp_X) (t ci : Nat) (fs : List (Option pp_V)) (as : List pp_V) (sz : Nat) : Array Value → State → Prop := va_Pc ((ppR t 0 0 :: as).map (ppv X.2.2.1)) (fun U => U.heap.size = sz ∧ va_at (X.1, X.2.1) pp_cl (pp_zc X (t, ci, fs)) U.heap ∧ va_K (X.1, X.2.1) pp_cl (pp_ty X) U ∧ pp_Nw U ∧ pp_Ao U)
def pp_Cn (y : MethodName) (cc : ByteArray) (nL F L mc ms t ci : Nat) (fs : List (Option pp_V)) (as : List pp_V) (new : List Nat) (ds : List (Nat × Nat)) (σ : pp_M) : Prop := ∀ (l : Launch) (X : pp_X) (sz : Nat), Met l y (.code y cc nL none :: pp_tb) { frames := F, cells := mc, slots := ms, locals := L } (pp_Pn X t ci fs as sz) (pp_Qn X new ds (pp_An X t sz) σ) mc ms (pp_An X t sz)
def pp_mx (P : List Nat) (σ σ' : pp_M) : pp_M := (fun a b => if a ∈ P then σ'.1 a b else σ.1 a b, fun a b => if a ∈ P then σ'.2 a b else σ.2 a b)
section PPB4
variable {Y : pp_Y} {X : pp_X} {ds : List (Nat × Nat)} {zs : List pp_Z} {cl sl cl' sl' : Nat} {cc : ByteArray} {nL : Nat} {own : String} {F L mc ms pc : Nat} {lv lv' : List (Nat × pp_V)} {st : List pp_V} {σ : pp_M}
theorem pp_K_gr {new : List Nat} {X X' : pp_X} {s : State} (hg : pp_gr new X X') (hK : va_K (X.1, X.2.1) pp_cl (pp_ty X) s) : va_K (X'.1, X'.2.1) pp_cl (pp_ty X') s := by rw [pp_ty_gr hg, hg.1, hg.2.1]; exact hK
theorem pb_new {t ci N idx : Nat} {C : String} {T : u_T} {ty : Nat → FieldType} {fs : List (Option pp_V)} {z : pp_Z} {zs' : List pp_Z} (hB : pp_Bx Y cc nL own F L mc ms) (hc : pp_cl[ci]? = some (C, T, N)) (hin : ∀ w ∈ u_ws C T N, w ∈ pp_tb) (hty : ∀ k, k < N → parseFieldDescriptor (T k).2.2.1 = some (ty k)) (hlk : Cond.classLink own idx C ∈ pp_tb) (hins : Cond.instantiable C N ∈ pp_tb) (hini : Cond.initialized C ∈ pp_tb) (hfs : ∀ ad j, j < N → defaultValue (ty j) = vp_V (fs.map (pp_zf ad)) j) (hfn : fs.all (pp_on [t]) = true) (hf : pp_fr [t] ds (z :: zs') lv st = true) (hnd : (ds ++ pp_zk (z :: zs')).Nodup) (hcl : cl + 1 = cl') (hsl : sl + N = sl') (hroom : cl' ≤ mc ∧ sl' ≤ ms) (d : decode cc pc = .ok (.new idx, 3)) (kk : ∀ X' : pp_X, pp_gr [t] X X' → pp_B Y X' ds (z :: (t, ci, fs) :: zs') cl' sl' cc nL (pc + 3) lv (ppR t 0 0 :: st) σ) : pp_B Y X ds (z :: zs') cl sl cc nL pc lv st σ := by
  obtain ⟨p, l, e, R, s, m, args, below, meth, c, Q, cl0, sl0, A⟩ := Y
  intro H locs ls hK hP hI hS hl
  subst hcl
  subst hsl
  have hD := pp_I_D (σ := σ) hnd hI
  refine va_new (ty := ty) hB.1 hB.2.1 hB.2.2.2.2.1 hin hty hB.2.2.2.1 (hB.2.2.2.2.1 _ hlk) (hB.2.2.2.2.1 _ hins) (hB.2.2.2.2.1 _ hini) hK (pp_P_ws.mp hP) hD hS hB.2.2.2.2.2.1 hc (fs := fs.map (pp_zf X.2.2.1)) (hfs _) (Nat.le_trans hroom.1 hB.2.2.2.2.2.2.2.1.1) (Nat.le_trans hroom.2 hB.2.2.2.2.2.2.2.1.2) d (fun q H1 hP1 hD1 hS1 => ?_)
  obtain ⟨X', hX'⟩ : ∃ X' : pp_X, X' = (X.1, X.2.1, fun a b => if a = t then q else X.2.2.1 a b, X.2.2.2) := ⟨_, rfl⟩
  have hg : pp_gr [t] X X' := by
    subst hX'
    refine ⟨rfl, rfl, rfl, fun a b h => if_neg (fun x => h (by rw [x]; exact List.mem_singleton.mpr rfl))⟩
  have had : X'.2.2.1 t 0 = q := by subst hX'; exact if_pos rfl
  obtain ⟨e1, e2⟩ := pp_gr_lv hg hf
  have hlen : (pp_ws X ds (z :: zs') σ).length = (pp_ws X ds (z :: zs') σ).length := rfl
  -- every old cell stands in H1
  have hPall : ∀ x ∈ pp_ws X ds (z :: zs') σ ++ [(q, .inr (ci, fs.map (pp_zf X.2.2.1)))], va_at (X.1, X.2.1) pp_cl x H1 := fun x hx => by
    obtain ⟨k, hk⟩ := List.getElem?_of_mem hx
    exact hP1 k x hk
  have hPold : pp_P X ds (z :: zs') σ H1 := ⟨fun d hd => hPall _ (List.mem_append_left _ (List.mem_append_left _ (List.mem_map.mpr ⟨d, hd, rfl⟩))), fun w hw => hPall _ (List.mem_append_left _ (List.mem_append_right _ (List.mem_map.mpr ⟨w, hw, rfl⟩)))⟩
  have hP0 : pp_P X' ds (z :: zs') σ H1 := pp_gr_P hg hf (fun a _ => ⟨fun _ => rfl, fun _ => rfl⟩) hPold (fun _ _ _ => rfl)
  have hzc : pp_zc X' (t, ci, fs) = (q, .inr (ci, fs.map (pp_zf X.2.2.1))) := by
    unfold pp_zc
    rw [had]
    congr 3
    apply List.map_congr_left
    intro v hv
    exact pp_on_eq hg (List.all_eq_true.mp hfn v hv)
  have hnew : va_at (X'.1, X'.2.1) pp_cl (pp_zc X' (t, ci, fs)) H1 := by
    rw [hzc, hg.1, hg.2.1]
    exact hPall _ (List.mem_append_right _ (List.mem_singleton.mpr rfl))
  have hP' : pp_P X' ds (z :: (t, ci, fs) :: zs') σ H1 := ⟨hP0.1, fun w hw => by
    rcases List.mem_cons.mp hw with h | h
    · rw [h]; exact hP0.2 z List.mem_cons_self
    · rcases List.mem_cons.mp h with h | h
      · rw [h]; exact hnew
      · exact hP0.2 w (List.mem_cons_of_mem _ h)⟩
  have hkk := pp_gr_key hg hf
  -- the new address is none of the old ones
  have hqne : ∀ k ∈ ds ++ pp_zk (z :: zs'), X.2.2.1 k.1 k.2 ≠ q := fun k hk hq => by
    obtain ⟨i, hi⟩ := List.getElem?_of_mem hk
    have hil : i < (pp_ws X ds (z :: zs') σ).length := by
      have := (List.getElem?_eq_some_iff.mp hi).1
      unfold pp_ws pp_wd pp_zk at *
      simpa using this
    obtain ⟨x, hx⟩ : ∃ x, (pp_ws X ds (z :: zs') σ)[i]? = some x := ⟨_, List.getElem?_eq_getElem hil⟩
    obtain ⟨k', hk', hx1⟩ := pp_ws_key hx
    rw [hi] at hk'
    cases hk'
    have a1 : (pp_ws X ds (z :: zs') σ ++ [(q, .inr (ci, fs.map (pp_zf X.2.2.1)))])[i]? = some x := by rw [List.getElem?_append_left hil]; exact hx
    have a2 : (pp_ws X ds (z :: zs') σ ++ [(q, .inr (ci, fs.map (pp_zf X.2.2.1)))])[(pp_ws X ds (z :: zs') σ).length]? = some (q, .inr (ci, fs.map (pp_zf X.2.2.1))) := by rw [List.getElem?_append_right (Nat.le_refl _), Nat.sub_self]; rfl
    have := hD1.1 _ _ _ _ a1 a2 (hx1.trans hq)
    omega
  have hAq : A q := by
    have a2 : (pp_ws X ds (z :: zs') σ ++ [(q, .inr (ci, fs.map (pp_zf X.2.2.1)))])[(pp_ws X ds (z :: zs') σ).length]? = some (q, .inr (ci, fs.map (pp_zf X.2.2.1))) := by rw [List.getElem?_append_right (Nat.le_refl _), Nat.sub_self]; rfl
    exact hD1.2 _ _ a2
  have split : ∀ k ∈ ds ++ pp_zk (z :: (t, ci, fs) :: zs'), k ∈ ds ++ pp_zk (z :: zs') ∨ k = (t, 0) := fun k hk => by
    rcases List.mem_append.mp hk with h | h
    · exact Or.inl (List.mem_append_left _ h)
    · rcases List.mem_cons.mp h with h | h
      · exact Or.inl (List.mem_append_right _ (by rw [h]; exact List.mem_cons_self))
      · rcases List.mem_cons.mp h with h | h
        · exact Or.inr h
        · exact Or.inl (List.mem_append_right _ (List.mem_cons_of_mem _ h))
  have hI' : pp_I X' A (ds ++ pp_zk (z :: (t, ci, fs) :: zs')) := by
    refine ⟨fun k hk k' hk' he => ?_, fun k hk => ?_⟩
    · rcases split k hk with h | h <;> rcases split k' hk' with h' | h'
      · exact hI.1 k h k' h' (by rw [← hkk k h, ← hkk k' h']; exact he)
      · subst h'
        rw [hkk k h] at he
        exact absurd (he.trans had) (hqne k h)
      · subst h
        rw [hkk k' h'] at he
        exact absurd (he.symm.trans had) (hqne k' h')
      · rw [h, h']
    · rcases split k hk with h | h
      · rw [hkk k h]; exact hI.2 k h
      · rw [h]
        show A (X'.2.2.1 t 0)
        rw [had]; exact hAq
  have k1 := kk X' hg H1 locs ls (pp_K_gr hg hK) hP' hI' hS1 (by rw [e1]; exact hl)
  have e3 : (ppR t 0 0 :: st).map (ppv X'.2.2.1) = .ref q :: st.map (ppv X.2.2.1) := by
    rw [List.map_cons, e2]
    show Value.ref (X'.2.2.1 t 0) :: _ = _
    rw [had]
  rw [e3] at k1
  exact k1

/-- all its fields stand: the object is one of the world -/
theorem pb_done {t ci N : Nat} {fs : List (Option pp_V)} {ffs : List (Nat × Nat × Nat × Nat)} {σ' σf : pp_M} {new : List Nat} {X0 : pp_X} {p : Program} {l : Launch} {e : Env} {R : Room} {s : State} {m : MethodId} {args : Array Value} {below : List Frame} {meth : Method} {c : Code} {cl0 sl0 : Nat} {A : Nat → Prop} {dsF : List (Nat × Nat)} (hB : pp_Bx (p, l, e, R, s, m, args, below, meth, c, MQ below (pp_Qn X0 new dsF A σf) args s mc ms A, cl0, sl0, A) cc nL own F L mc ms) (hg : pp_gr new X0 X) (he : pp_e t = (0, ci, N, ffs)) (hfs : ∀ ad, fs.map (pp_zf ad) = pp_fl ad σ' t 0 ffs) (hσ : ∀ a, a ≠ t → (∀ j, σ'.1 a j = σ.1 a j) ∧ ∀ j, σ'.2 a j = σ.2 a j) (hnt : ds.all (fun d => !(Nat.beq d.1 t)) = true) (hdsF : ds ++ [(t, 0)] = dsF) (hnd : dsF.Nodup) (hok : pp_ok dsF) (hret : meth.sig.returnType = none)
    (kk : ∀ Γ : pp_G, pp_Fx Γ dsF cc nL own F L → pp_Rt Γ dsF none none σf → pp_E Γ dsF cc nL pc lv st σ') : pp_B (p, l, e, R, s, m, args, below, meth, c, MQ below (pp_Qn X0 new dsF A σf) args s mc ms A, cl0, sl0, A) X ds [(t, ci, fs)] mc ms cc nL pc lv st σ := by
  intro H locs ls hK hP hI hS hl
  subst hdsF
  have hks : ds ++ pp_zk [(t, ci, fs)] = ds ++ [(t, 0)] := rfl
  rw [hks] at hI
  have hP' : ∀ d ∈ ds ++ [(t, 0)], va_at (X.1, X.2.1) pp_cl (X.2.2.1 d.1 d.2, pp_cell X σ' d.1 d.2) H := fun d hd => by
    rcases List.mem_append.mp hd with h | h
    · have hne : d.1 ≠ t := fun q => by
        have := List.all_eq_true.mp hnt d h
        rw [q, Nat.beq_refl] at this
        cases this
      rw [pp_cell_cong (hσ d.1 hne).1 (hσ d.1 hne).2]
      exact hP.1 d h
    · rw [List.mem_singleton.mp h]
      have h0 := hP.2 (t, ci, fs) List.mem_cons_self
      unfold pp_zc at h0
      rw [hfs] at h0
      rw [pp_cell_o he]
      exact h0
  have hw : va_P (X.1, X.2.1) pp_cl (pp_wd X (ds ++ [(t, 0)]) σ') H := fun k q hq => by
    obtain ⟨d, hd, rfl⟩ := List.mem_map.mp (List.mem_of_getElem? hq)
    exact hP' d hd
  have k1 := kk ((p, l, e, R, s, m, args, below, meth, c, MQ below (pp_Qc X (ds ++ [(t, 0)]) A none σf) args s mc ms A, mc, ms, A), X) ⟨hB.1, hB.2.1, hB.2.2.1, hB.2.2.2.1, hB.2.2.2.2.1, hK, ⟨pp_I_inj hnd hI, hok, fun q ⟨d, hd, hq⟩ => by rw [hq]; exact hI.2 d hd⟩, hB.2.2.2.2.2.2.1, hB.2.2.2.2.2.2.2.1, hB.2.2.2.2.2.2.2.2.1, hB.2.2.2.2.2.2.2.2.2.1⟩ ⟨hret, rfl⟩ H locs ls hw hS hl
  intro T hT Xs
  obtain ⟨t2, a1, oc, b1, b2, ⟨c1, c2, c3, c4⟩, b4⟩ := k1 T hT Xs
  refine ⟨t2, a1, oc, b1, b2, ⟨c1, ⟨X, hg, fun d hd => ?_, hI⟩, ?_, c4⟩, b4⟩
  · obtain ⟨k, hk, hk2⟩ := pp_wd_at (X := X) (σ := σf) hd
    exact c2 k _ hk2
  · rw [← hg.1, ← hg.2.1, ← pp_ty_gr hg]; exact c3
/-- a constructor's contract out of the walk of its body -/
theorem pp_metN {y : MethodName} {t ci : Nat} {fs : List (Option pp_V)} {as : List pp_V} {new : List Nat} {σ' : pp_M} (hy : plainName y.cls = true) (hown : y.cls = own) (hname : y.name = "<init>") (hn : pp_cs (ppR t 0 0 :: as) ≤ nL) (hlv : pp_args 0 (ppR t 0 0 :: as) = lv)
    (body : ∀ (p : Program) (l : Launch) (e : Env) (R : Room) (s : State) (m : MethodId) (args : Array Value) (below : List Frame) (meth : Method) (c : Code) (X : pp_X) (A : Nat → Prop), meth.sig.returnType = none → pp_Bx (p, l, e, R, s, m, args, below, meth, c, MQ below (pp_Qn X new ds A σ') args s mc ms A, 0, 0, A) cc nL own F L mc ms → pp_B (p, l, e, R, s, m, args, below, meth, c, MQ below (pp_Qn X new ds A σ') args s mc ms A, 0, 0, A) X [] [(t, ci, fs)] 0 0 cc nL 0 lv [] σ) : pp_Cn y cc nL F L mc ms t ci fs as new ds σ' := by
  intro l X sz
  subst hown
  refine Met.ofW (cc := cc) (maxL := nL) (ret := none) hy rfl ?_
  intro p e s m args below meth c s₁ B hml hv
  obtain ⟨rfl, hsz, hP, hK, hNw, hAo⟩ := hv
  subst hsz
  have hts := atoms_spec (ws := .code y cc nL none :: pp_tb) B.pre
  have hin : meth.name = "<init>" := (name_of_methodNamed B.named B.method).1.trans hname
  rw [lg_entry_eq]
  have hl := lv_entry ((ppR t 0 0 :: as).map (ppv X.2.2.1)) (n := nL) (by rw [pp_sl_len]; exact hn)
  rw [pp_args_eq, hlv] at hl
  exact body p l e _ s m _ below meth c X (pp_An X t s.heap.size) B.returns ⟨B.exec, B.bytes, hml, findClass_of_methodNamed B.named, fun w hw => hts w (List.mem_cons_of_mem _ hw), fun q h => Or.inr h, ⟨Nat.le_refl _, Nat.le_refl _⟩, ⟨Nat.le_refl _, Nat.le_refl _⟩, B.notSynchronized, hNw, hin, hAo⟩ s.heap [] _ hK ⟨fun d hd => absurd hd List.not_mem_nil, fun z hz => by rw [List.mem_singleton.mp hz]; exact hP⟩ ⟨fun d hd d' hd' _ => by
    have h1 : d = (t, 0) := List.mem_singleton.mp hd
    have h2 : d' = (t, 0) := List.mem_singleton.mp hd'
    rw [h1, h2], fun d hd => by
    have h1 : d = (t, 0) := List.mem_singleton.mp hd
    rw [h1]; exact Or.inl rfl⟩ va_S.rf hl
end PPB4
end
section
/-! calling a constructor -/
def pp_MI (y : MethodName) (cc : ByteArray) (nL n : Nat) : Prop := Cond.code y cc nL none ∈ pp_tb ∧ Cond.initialized y.cls ∈ pp_tb ∧ (y.cls ≠ "java/lang/invoke/MethodHandle" ∧ y.cls ≠ "java/lang/invoke/VarHandle" ∧ (parseMethodDescriptor y.desc).map (fun d => d.parameters.length) = some n) ∧ Cond.instanceMethod y ∈ pp_tb ∧ y.name = "<init>"
theorem pp_blindN {X : pp_X} {t ci sz : Nat} {fs : List (Option pp_V)} {as : List pp_V} : FrameBlind (pp_Pn X t ci fs as sz) := fun a U g mk q => ⟨q.1, q.2.1, q.2.2.1, va_K.moved (u := U) (U := U.calling g mk a) (Vm.Alike.refl U.vm) q.2.2.2.1, pp_Nw.same (u := U) (U := U.calling g mk a) rfl q.2.2.2.2.1, pp_Ao.moved (u := U) (U := U.calling g mk a) (Vm.Alike.refl U.vm) q.2.2.2.2.2⟩
section PPB5
variable {Y : pp_Y} {X : pp_X} {ds : List (Nat × Nat)} {cl sl cl' sl' : Nat} {cc : ByteArray} {nL : Nat} {own : String} {F L mc ms pc : Nat} {lv : List (Nat × pp_V)} {σ : pp_M}
theorem pb_init {y : MethodName} {cc' : ByteArray} {nL' F' L' mc' ms' t ci n idx : Nat} {fs : List (Option pp_V)} {as stk rest : List pp_V} {new P : List Nat} {ds' : List (Nat × Nat)} {σ' : pp_M} {z : pp_Z} {zs' : List pp_Z} (hB : pp_Bx Y cc nL own F L mc ms) (hC : pp_Cn y cc' nL' F' L' mc' ms' t ci fs as new ds' σ') (hM : pp_MI y cc' nL' n) (hk : pp_Lk own idx y) (hn : as.length = n) (hst : stk = as.reverse ++ ppR t 0 0 :: rest) (hroom : F' + 1 ≤ F ∧ 8 + (nL' + 11) + L' ≤ L) (hcs : pp_cs rest ≤ 8) (hfr : pp_fr new ds (z :: zs') lv rest = true) (hnt : (t, 0) ∉ ds ++ pp_zk (z :: zs')) (hPy : ds'.all (fun d => P.contains d.1) = true) (hPn : ds.all (fun d => !(P.contains d.1)) = true) (hcl : cl + mc' = cl') (hsl : sl + ms' = sl') (hr2 : cl' ≤ mc ∧ sl' ≤ ms) (d : decode cc pc = .ok (.invokespecial idx, 3)) (kk : ∀ X' : pp_X, pp_gr new X X' → pp_B Y X' (ds ++ ds') (z :: zs') cl' sl' cc nL (pc + 3) lv rest (pp_mx P σ σ')) : pp_B Y X ds (z :: (t, ci, fs) :: zs') cl sl cc nL pc lv stk σ := by
  obtain ⟨p, l, e, R, s, m, args, below, meth, c, Q, cl0, sl0, A⟩ := Y
  intro H locs ls hK hP hI hS hl
  subst hst
  subst hcl
  subst hsl
  obtain ⟨hx, hbc, hml, hown, hts, hA, hrm, hcl0, hlocks, hNw, hin, hAo⟩ := hB
  obtain ⟨m1, m2, m3, m4, m5⟩ := hM
  have hpre : PreS s H (pp_Pn X t ci fs as H.size) (.ref (X.2.2.1 t 0) :: as.map (ppv X.2.2.1)) := ⟨pp_blindN, fun U hU hW => ⟨rfl, by rw [hU], by rw [hU]; exact hP.2 (t, ci, fs) (List.mem_cons_of_mem _ List.mem_cons_self), va_K.moved hW.alike hK, hNw.warm hW, hAo.moved hW.alike⟩⟩
  have hR' : F' + 1 ≤ R.frames ∧ 8 + (nL' + 11) + L' ≤ R.locals := ⟨Nat.le_trans hroom.1 hrm.1, Nat.le_trans hroom.2 hrm.2⟩
  have hcs' : 2 * (F0 m pc ls ((as.reverse ++ ppR t 0 0 :: rest).map (ppv X.2.2.1))).monitorRoom + ((rest.map (ppv X.2.2.1)).map fun v => v.category).sum ≤ 8 := lv_room (by rw [pp_cs_eq]; exact hcs)
  have hf : cl + mc' ≤ R.cells ∧ sl + ms' ≤ R.slots := ⟨Nat.le_trans hr2.1 hcl0.1, Nat.le_trans hr2.2 hcl0.2⟩
  have hrun : va_Run p l e R s m args below meth c H locs cl sl mc' ms' (F0 m pc ls ((as.reverse ++ ppR t 0 0 :: rest).map (ppv X.2.2.1))) (rest.map (ppv X.2.2.1)) (pp_Qn X new ds' (pp_An X t H.size) σ' (Value.ref (X.2.2.1 t 0) :: as.map (ppv X.2.2.1)).toArray) (pp_An X t H.size) := by
    rcases hk with hk | hk
    · exact va_runI (As := as.map (ppv X.2.2.1)) (rest := rest.map (ppv X.2.2.1)) ⟨hx, hbc, hml, hown, hts⟩ (hC l X H.size) ⟨callB_of n hts (pp_goodIn m1) rfl rfl rfl (hts _ m2) (hts _ hk) m3 hR', m5, hts _ m4⟩ hpre rfl (by rw [List.length_map]; exact hn) hl.1 (by simp [ppv, ppR]) hcs' d hf
    · exact va_runIN (As := as.map (ppv X.2.2.1)) (rest := rest.map (ppv X.2.2.1)) ⟨hx, hbc, hml, hown, hts⟩ (hC l X H.size) ⟨⟨⟨rfl, rfl, hR'.1, hR'.2, pay_in hts (pp_goodIn m1), List.mem_cons_self⟩, hts _ m1, hts _ m2, ⟨m3.1, m3.2.1⟩, (fun sig h => by have h2 := m3.2.2; rw [h] at h2; exact (Option.some.inj h2).symm), va_Nw.use rfl (hNw _ hk)⟩, m5, hts _ m4⟩ hpre rfl (by rw [List.length_map]; exact hn) hl.1 (by simp [ppv, ppR]) hcs' d hf
  intro T hT Xs
  obtain ⟨v, st₀, t2, T', L', h0, XF, hL, e1, e2, ⟨hv, ⟨X', hg, hds', hI'⟩, hK2, hz, hkp⟩, stp⟩ := hrun T hT Xs
  cases hv
  rw [h0] at hz hkp
  have hsub : ∀ k ∈ ds ++ pp_zk (z :: zs'), k ∈ ds ++ pp_zk (z :: (t, ci, fs) :: zs') := fun k h => by
    rcases List.mem_append.mp h with h | h
    · exact List.mem_append_left _ h
    · refine List.mem_append_right _ ?_
      rcases List.mem_cons.mp h with h | h
      · rw [h]; exact List.mem_cons_self
      · exact List.mem_cons_of_mem _ (List.mem_cons_of_mem _ h)
  have htin : (t, 0) ∈ ds ++ pp_zk (z :: (t, ci, fs) :: zs') := List.mem_append_right _ (List.mem_cons_of_mem _ List.mem_cons_self)
  have hPs : pp_P X ds (z :: zs') σ H := ⟨hP.1, fun w hw => hP.2 w (by
    rcases List.mem_cons.mp hw with h | h
    · rw [h]; exact List.mem_cons_self
    · exact List.mem_cons_of_mem _ (List.mem_cons_of_mem _ h))⟩
  have hlt := pp_P_lt hPs
  have hne : ∀ k ∈ ds ++ pp_zk (z :: zs'), X.2.2.1 k.1 k.2 ≠ X.2.2.1 t 0 := fun k hk q => hnt (by
    have h9 := hI.1 k (hsub k hk) (t, 0) htin q
    rw [← h9]; exact hk)
  have hold : ∀ q : Nat, q < H.size → (∃ k ∈ ds ++ pp_zk (z :: zs'), q = X.2.2.1 k.1 k.2) → T'.heap[q]? = H[q]? := fun q hq ⟨k, hk, hqk⟩ => by
    rw [e1]
    refine hkp q hq (fun h => ?_)
    rcases h with h | h
    · exact hne k hk (hqk.symm.trans h)
    · omega
  have hP0 : pp_P X' ds (z :: zs') σ T'.heap := pp_gr_P hg hfr (fun a _ => ⟨fun _ => rfl, fun _ => rfl⟩) hPs hold
  have hP' : pp_P X' (ds ++ ds') (z :: zs') (pp_mx P σ σ') T'.heap := ⟨fun k hk => by
    rcases List.mem_append.mp hk with h | h
    · have h9 : k.1 ∉ P := pp_nc (List.all_eq_true.mp hPn k h)
      rw [pp_cell_cong (σ := σ) (fun j => if_neg h9) (fun j => if_neg h9)]
      exact hP0.1 k h
    · have h9 : k.1 ∈ P := List.contains_iff_mem.mp (List.all_eq_true.mp hPy k h)
      rw [pp_cell_cong (σ := σ') (fun j => if_pos h9) (fun j => if_pos h9), e1]
      exact hds' k h, hP0.2⟩
  have hkk := pp_gr_key hg hfr
  have hAn : ∀ q, pp_An X t H.size q → A q := fun q h => by
    rcases h with h | h
    · rw [h]; exact hI.2 (t, 0) htin
    · exact hA q (Nat.le_trans hS.1 h)
  have split : ∀ k ∈ (ds ++ ds') ++ pp_zk (z :: zs'), k ∈ ds ++ pp_zk (z :: zs') ∨ k ∈ ds' := fun k hk => by
    rcases List.mem_append.mp hk with h | h
    · rcases List.mem_append.mp h with h | h
      · exact Or.inl (List.mem_append_left _ h)
      · exact Or.inr h
    · exact Or.inl (List.mem_append_right _ h)
  have hcross : ∀ k ∈ ds ++ pp_zk (z :: zs'), ∀ k' ∈ ds', X'.2.2.1 k.1 k.2 ≠ X'.2.2.1 k'.1 k'.2 := fun k hk k' hk' q => by
    rw [hkk k hk] at q
    rcases hI'.2 k' hk' with h | h
    · exact hne k hk (q.trans h)
    · have := hlt k hk
      omega
  have hI2 : pp_I X' A ((ds ++ ds') ++ pp_zk (z :: zs')) := by
    refine ⟨fun k hk k' hk' he => ?_, fun k hk => ?_⟩
    · rcases split k hk with h | h <;> rcases split k' hk' with h' | h'
      · exact hI.1 k (hsub k h) k' (hsub k' h') (by rw [← hkk k h, ← hkk k' h']; exact he)
      · exact absurd he (hcross k h k' h')
      · exact absurd he.symm (hcross k' h' k h)
      · exact hI'.1 k h k' h' he
    · rcases split k hk with h | h
      · rw [hkk k h]; exact hI.2 k (hsub k h)
      · exact hAn _ (hI'.2 k h)
  obtain ⟨e3, e4⟩ := pp_gr_lv hg hfr
  have k1 := kk X' hg T'.heap (locs ++ L') ls (pp_K_gr hg hK) hP' hI2 ⟨Nat.le_trans hS.1 (by rw [e1]; exact hz), fun q a1 a2 => by rw [e1, hkp q (Nat.lt_of_lt_of_le a1 hS.1) (fun h => a2 (hAn q h))]; exact hS.2.1 q a1 a2, fun q hq => by
    rcases List.mem_append.mp hq with h | h
    · exact hS.2.2 q h
    · exact hAn _ (hL q h)⟩ (by rw [e3]; exact hl)
  rw [e4] at k1
  obtain ⟨t3, a1, b1⟩ := k1 T' rfl XF
  exact ⟨t3, stp t3 a1, b1⟩
end PPB5
end
