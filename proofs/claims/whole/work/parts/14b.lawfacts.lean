theorem ic_6 : Int32.ofInt (6) = (6 : Int32) := by decide
theorem wm_70 : (Cond.classLink "PedlarPackLaw" (7 : Nat) "PedlarPack") ∈ pp_tb := pp_tb_mem (List.mem_of_getElem? (i := 70) (by decide +kernel)) (by decide +kernel)
theorem wm_71 : (Cond.instantiable "PedlarPack" (14 : Nat)) ∈ pp_tb := pp_tb_mem (List.mem_of_getElem? (i := 71) (by decide +kernel)) (by decide +kernel)
theorem wm_72 : (Cond.methodLink "PedlarPackLaw" (9 : Nat) ({ cls := "PedlarPack", name := "<init>", desc := "()V" } : Jvm.MethodName)) ∈ pp_tb := pp_tb_mem (List.mem_of_getElem? (i := 72) (by decide +kernel)) (by decide +kernel)
theorem wm_348 : (Cond.methodLink "PedlarPackLaw" (13 : Nat) ({ cls := "PedlarPack", name := "thing", desc := "(III)I" } : Jvm.MethodName)) ∈ pp_tb := pp_tb_mem (List.mem_of_getElem? (i := 348) (by decide +kernel)) (by decide +kernel)
theorem wm_367 : (Cond.methodLink "PedlarPackLaw" (18 : Nat) ({ cls := "PedlarPack", name := "road", desc := "(III)I" } : Jvm.MethodName)) ∈ pp_tb := pp_tb_mem (List.mem_of_getElem? (i := 367) (by decide +kernel)) (by decide +kernel)
theorem wm_378 : (Cond.methodLink "PedlarPackLaw" (22 : Nat) ({ cls := "PedlarPack", name := "way", desc := "(II)I" } : Jvm.MethodName)) ∈ pp_tb := pp_tb_mem (List.mem_of_getElem? (i := 378) (by decide +kernel)) (by decide +kernel)
theorem wm_382 : (Cond.methodLink "PedlarPackLaw" (27 : Nat) ({ cls := "PedlarPack", name := "set", desc := "(II)I" } : Jvm.MethodName)) ∈ pp_tb := pp_tb_mem (List.mem_of_getElem? (i := 382) (by decide +kernel)) (by decide +kernel)
theorem wm_386 : (Cond.methodLink "PedlarPackLaw" (31 : Nat) ({ cls := "PedlarPack", name := "type", desc := "(I)I" } : Jvm.MethodName)) ∈ pp_tb := pp_tb_mem (List.mem_of_getElem? (i := 386) (by decide +kernel)) (by decide +kernel)
theorem wm_394 : (Cond.methodLink "PedlarPackLaw" (36 : Nat) ({ cls := "PedlarPack", name := "wipe", desc := "()I" } : Jvm.MethodName)) ∈ pp_tb := pp_tb_mem (List.mem_of_getElem? (i := 394) (by decide +kernel)) (by decide +kernel)
theorem wm_398 : (Cond.methodLink "PedlarPackLaw" (41 : Nat) ({ cls := "PedlarPack", name := "fault", desc := "()I" } : Jvm.MethodName)) ∈ pp_tb := pp_tb_mem (List.mem_of_getElem? (i := 398) (by decide +kernel)) (by decide +kernel)
theorem wm_427 : (Cond.methodLink "PedlarPackLaw" (45 : Nat) ({ cls := "PedlarPack", name := "wants", desc := "()I" } : Jvm.MethodName)) ∈ pp_tb := pp_tb_mem (List.mem_of_getElem? (i := 427) (by decide +kernel)) (by decide +kernel)
theorem wm_440 : (Cond.methodLink "PedlarPackLaw" (49 : Nat) ({ cls := "PedlarPack", name := "read", desc := "(II)I" } : Jvm.MethodName)) ∈ pp_tb := pp_tb_mem (List.mem_of_getElem? (i := 440) (by decide +kernel)) (by decide +kernel)
theorem wm_458 : (Cond.methodLink "PedlarPackLaw" (53 : Nat) ({ cls := "PedlarPack", name := "chance", desc := "(III)I" } : Jvm.MethodName)) ∈ pp_tb := pp_tb_mem (List.mem_of_getElem? (i := 458) (by decide +kernel)) (by decide +kernel)
theorem wm_469 : (Cond.methodLink "PedlarPackLaw" (57 : Nat) ({ cls := "PedlarPack", name := "shop", desc := "(II)I" } : Jvm.MethodName)) ∈ pp_tb := pp_tb_mem (List.mem_of_getElem? (i := 469) (by decide +kernel)) (by decide +kernel)
theorem wm_473 : (Cond.methodLink "PedlarPackLaw" (61 : Nat) ({ cls := "PedlarPack", name := "row", desc := "(I)I" } : Jvm.MethodName)) ∈ pp_tb := pp_tb_mem (List.mem_of_getElem? (i := 473) (by decide +kernel)) (by decide +kernel)
theorem wm_480 : (Cond.methodLink "PedlarPackLaw" (65 : Nat) ({ cls := "PedlarPack", name := "pack", desc := "(I)I" } : Jvm.MethodName)) ∈ pp_tb := pp_tb_mem (List.mem_of_getElem? (i := 480) (by decide +kernel)) (by decide +kernel)
theorem wm_488 : (Cond.methodLink "PedlarPackLaw" (69 : Nat) ({ cls := "PedlarPack", name := "judged", desc := "()I" } : Jvm.MethodName)) ∈ pp_tb := pp_tb_mem (List.mem_of_getElem? (i := 488) (by decide +kernel)) (by decide +kernel)
theorem wm_500 : (Cond.methodLink "PedlarPackLaw" (73 : Nat) ({ cls := "PedlarPack", name := "hours", desc := "()I" } : Jvm.MethodName)) ∈ pp_tb := pp_tb_mem (List.mem_of_getElem? (i := 500) (by decide +kernel)) (by decide +kernel)
theorem wm_501 : (Cond.methodLink "PedlarPackLaw" (77 : Nat) ({ cls := "PedlarPack", name := "sold", desc := "(IIIII)J" } : Jvm.MethodName)) ∈ pp_tb := pp_tb_mem (List.mem_of_getElem? (i := 501) (by decide +kernel)) (by decide +kernel)
theorem wm_536 : (Cond.methodLink "PedlarPackLaw" (82 : Nat) ({ cls := "PedlarPack", name := "ask", desc := "(III)I" } : Jvm.MethodName)) ∈ pp_tb := pp_tb_mem (List.mem_of_getElem? (i := 536) (by decide +kernel)) (by decide +kernel)
theorem wm_561 : (Cond.methodLink "PedlarPackLaw" (86 : Nat) ({ cls := "PedlarPack", name := "value", desc := "(IIII)J" } : Jvm.MethodName)) ∈ pp_tb := pp_tb_mem (List.mem_of_getElem? (i := 561) (by decide +kernel)) (by decide +kernel)
theorem wm_565 : (Cond.methodLink "PedlarPackLaw" (91 : Nat) ({ cls := "PedlarPack", name := "gain", desc := "(I)J" } : Jvm.MethodName)) ∈ pp_tb := pp_tb_mem (List.mem_of_getElem? (i := 565) (by decide +kernel)) (by decide +kernel)
theorem wm_582 : (Cond.methodLink "PedlarPackLaw" (96 : Nat) ({ cls := "PedlarPack", name := "best", desc := "(I)I" } : Jvm.MethodName)) ∈ pp_tb := pp_tb_mem (List.mem_of_getElem? (i := 582) (by decide +kernel)) (by decide +kernel)
theorem wm_609 : (Cond.methodLink "PedlarPackLaw" (100 : Nat) ({ cls := "PedlarPack", name := "load", desc := "(II)J" } : Jvm.MethodName)) ∈ pp_tb := pp_tb_mem (List.mem_of_getElem? (i := 609) (by decide +kernel)) (by decide +kernel)
theorem wm_638 : (Cond.methodLink "PedlarPackLaw" (105 : Nat) ({ cls := "PedlarPack", name := "loaded", desc := "(I)I" } : Jvm.MethodName)) ∈ pp_tb := pp_tb_mem (List.mem_of_getElem? (i := 638) (by decide +kernel)) (by decide +kernel)
theorem wm_642 : (Cond.methodLink "PedlarPackLaw" (109 : Nat) ({ cls := "PedlarPack", name := "round", desc := "(I)I" } : Jvm.MethodName)) ∈ pp_tb := pp_tb_mem (List.mem_of_getElem? (i := 642) (by decide +kernel)) (by decide +kernel)
theorem wm_712 : (Cond.methodLink "PedlarPackLaw" (113 : Nat) ({ cls := "PedlarPack", name := "rounds", desc := "(I)J" } : Jvm.MethodName)) ∈ pp_tb := pp_tb_mem (List.mem_of_getElem? (i := 712) (by decide +kernel)) (by decide +kernel)
theorem wm_716 : (Cond.methodLink "PedlarPackLaw" (117 : Nat) ({ cls := "PedlarPack", name := "onward", desc := "(II)I" } : Jvm.MethodName)) ∈ pp_tb := pp_tb_mem (List.mem_of_getElem? (i := 716) (by decide +kernel)) (by decide +kernel)
theorem wm_724 : (Cond.methodLink "PedlarPackLaw" (121 : Nat) ({ cls := "PedlarPack", name := "trust", desc := "(IIIII)I" } : Jvm.MethodName)) ∈ pp_tb := pp_tb_mem (List.mem_of_getElem? (i := 724) (by decide +kernel)) (by decide +kernel)
theorem wm_729 : (Cond.methodLink "PedlarPackLaw" (126 : Nat) ({ cls := "PedlarPack", name := "two", desc := "(I)I" } : Jvm.MethodName)) ∈ pp_tb := pp_tb_mem (List.mem_of_getElem? (i := 729) (by decide +kernel)) (by decide +kernel)
theorem wm_741 : (Cond.methodLink "PedlarPackLaw" (130 : Nat) ({ cls := "PedlarPack", name := "both", desc := "(I)J" } : Jvm.MethodName)) ∈ pp_tb := pp_tb_mem (List.mem_of_getElem? (i := 741) (by decide +kernel)) (by decide +kernel)
theorem wm_745 : (Cond.methodLink "PedlarPackLaw" (134 : Nat) ({ cls := "PedlarPack", name := "brings", desc := "(II)J" } : Jvm.MethodName)) ∈ pp_tb := pp_tb_mem (List.mem_of_getElem? (i := 745) (by decide +kernel)) (by decide +kernel)
theorem wm_749 : (Cond.methodLink "PedlarPackLaw" (138 : Nat) ({ cls := "PedlarPack", name := "straps", desc := "()I" } : Jvm.MethodName)) ∈ pp_tb := pp_tb_mem (List.mem_of_getElem? (i := 749) (by decide +kernel)) (by decide +kernel)
theorem wm_757 : (Cond.methodLink "PedlarPackLaw" (142 : Nat) ({ cls := "PedlarPack", name := "sheet", desc := "(III)I" } : Jvm.MethodName)) ∈ pp_tb := pp_tb_mem (List.mem_of_getElem? (i := 757) (by decide +kernel)) (by decide +kernel)
theorem wm_768 : (Cond.methodLink "PedlarPackLaw" (146 : Nat) ({ cls := "PedlarPack", name := "lose", desc := "(I)I" } : Jvm.MethodName)) ∈ pp_tb := pp_tb_mem (List.mem_of_getElem? (i := 768) (by decide +kernel)) (by decide +kernel)
theorem wm_772 : (Cond.methodLink "PedlarPackLaw" (150 : Nat) ({ cls := "PedlarPack", name := "put", desc := "(IIII)I" } : Jvm.MethodName)) ∈ pp_tb := pp_tb_mem (List.mem_of_getElem? (i := 772) (by decide +kernel)) (by decide +kernel)
theorem wm_786 : (Cond.methodLink "PedlarPackLaw" (155 : Nat) ({ cls := "PedlarPack", name := "get", desc := "(III)I" } : Jvm.MethodName)) ∈ pp_tb := pp_tb_mem (List.mem_of_getElem? (i := 786) (by decide +kernel)) (by decide +kernel)
theorem wm_791 : (Cond.methodLink "PedlarPackLaw" (159 : Nat) ({ cls := "PedlarPack", name := "copy", desc := "(IIIII)I" } : Jvm.MethodName)) ∈ pp_tb := pp_tb_mem (List.mem_of_getElem? (i := 791) (by decide +kernel)) (by decide +kernel)
theorem wm_802 : (Cond.methodLink "PedlarPackLaw" (163 : Nat) ({ cls := "PedlarPack", name := "write", desc := "(I)I" } : Jvm.MethodName)) ∈ pp_tb := pp_tb_mem (List.mem_of_getElem? (i := 802) (by decide +kernel)) (by decide +kernel)
theorem wm_806 : (Cond.methodLink "PedlarPackLaw" (167 : Nat) ({ cls := "PedlarPack", name := "count", desc := "(I)I" } : Jvm.MethodName)) ∈ pp_tb := pp_tb_mem (List.mem_of_getElem? (i := 806) (by decide +kernel)) (by decide +kernel)
theorem wm_819 : (Cond.methodLink "PedlarPackLaw" (171 : Nat) ({ cls := "PedlarPack", name := "digest", desc := "()J" } : Jvm.MethodName)) ∈ pp_tb := pp_tb_mem (List.mem_of_getElem? (i := 819) (by decide +kernel)) (by decide +kernel)
theorem wm_828 : (Cond.classLink "PedlarPackLaw" (10 : Nat) "PedlarPackModel") ∈ pp_tb := pp_tb_mem (List.mem_of_getElem? (i := 828) (by decide +kernel)) (by decide +kernel)
theorem wm_829 : (Cond.instantiable "PedlarPackModel" (48 : Nat)) ∈ pp_tb := pp_tb_mem (List.mem_of_getElem? (i := 829) (by decide +kernel)) (by decide +kernel)
theorem wm_830 : (Cond.methodLink "PedlarPackLaw" (12 : Nat) ({ cls := "PedlarPackModel", name := "<init>", desc := "()V" } : Jvm.MethodName)) ∈ pp_tb := pp_tb_mem (List.mem_of_getElem? (i := 830) (by decide +kernel)) (by decide +kernel)
theorem wm_979 : (Cond.methodLink "PedlarPackLaw" (17 : Nat) ({ cls := "PedlarPackModel", name := "thing", desc := "(III)I" } : Jvm.MethodName)) ∈ pp_tb := pp_tb_mem (List.mem_of_getElem? (i := 979) (by decide +kernel)) (by decide +kernel)
theorem wm_993 : (Cond.methodLink "PedlarPackLaw" (21 : Nat) ({ cls := "PedlarPackModel", name := "road", desc := "(III)I" } : Jvm.MethodName)) ∈ pp_tb := pp_tb_mem (List.mem_of_getElem? (i := 993) (by decide +kernel)) (by decide +kernel)
theorem wm_1000 : (Cond.methodLink "PedlarPackLaw" (26 : Nat) ({ cls := "PedlarPackModel", name := "way", desc := "(II)I" } : Jvm.MethodName)) ∈ pp_tb := pp_tb_mem (List.mem_of_getElem? (i := 1000) (by decide +kernel)) (by decide +kernel)
theorem wm_1008 : (Cond.methodLink "PedlarPackLaw" (30 : Nat) ({ cls := "PedlarPackModel", name := "set", desc := "(II)I" } : Jvm.MethodName)) ∈ pp_tb := pp_tb_mem (List.mem_of_getElem? (i := 1008) (by decide +kernel)) (by decide +kernel)
theorem wm_1012 : (Cond.methodLink "PedlarPackLaw" (35 : Nat) ({ cls := "PedlarPackModel", name := "type", desc := "(I)I" } : Jvm.MethodName)) ∈ pp_tb := pp_tb_mem (List.mem_of_getElem? (i := 1012) (by decide +kernel)) (by decide +kernel)
theorem wm_1016 : (Cond.methodLink "PedlarPackLaw" (40 : Nat) ({ cls := "PedlarPackModel", name := "wipe", desc := "()I" } : Jvm.MethodName)) ∈ pp_tb := pp_tb_mem (List.mem_of_getElem? (i := 1016) (by decide +kernel)) (by decide +kernel)
theorem wm_1020 : (Cond.methodLink "PedlarPackLaw" (44 : Nat) ({ cls := "PedlarPackModel", name := "fault", desc := "()I" } : Jvm.MethodName)) ∈ pp_tb := pp_tb_mem (List.mem_of_getElem? (i := 1020) (by decide +kernel)) (by decide +kernel)
theorem wm_1044 : (Cond.methodLink "PedlarPackLaw" (48 : Nat) ({ cls := "PedlarPackModel", name := "wants", desc := "()I" } : Jvm.MethodName)) ∈ pp_tb := pp_tb_mem (List.mem_of_getElem? (i := 1044) (by decide +kernel)) (by decide +kernel)
theorem wm_1051 : (Cond.methodLink "PedlarPackLaw" (52 : Nat) ({ cls := "PedlarPackModel", name := "read", desc := "(II)I" } : Jvm.MethodName)) ∈ pp_tb := pp_tb_mem (List.mem_of_getElem? (i := 1051) (by decide +kernel)) (by decide +kernel)
theorem wm_1065 : (Cond.methodLink "PedlarPackLaw" (56 : Nat) ({ cls := "PedlarPackModel", name := "chance", desc := "(III)I" } : Jvm.MethodName)) ∈ pp_tb := pp_tb_mem (List.mem_of_getElem? (i := 1065) (by decide +kernel)) (by decide +kernel)
theorem wm_1073 : (Cond.methodLink "PedlarPackLaw" (60 : Nat) ({ cls := "PedlarPackModel", name := "shop", desc := "(II)I" } : Jvm.MethodName)) ∈ pp_tb := pp_tb_mem (List.mem_of_getElem? (i := 1073) (by decide +kernel)) (by decide +kernel)
theorem wm_1077 : (Cond.methodLink "PedlarPackLaw" (64 : Nat) ({ cls := "PedlarPackModel", name := "row", desc := "(I)I" } : Jvm.MethodName)) ∈ pp_tb := pp_tb_mem (List.mem_of_getElem? (i := 1077) (by decide +kernel)) (by decide +kernel)
theorem wm_1081 : (Cond.methodLink "PedlarPackLaw" (68 : Nat) ({ cls := "PedlarPackModel", name := "pack", desc := "(I)I" } : Jvm.MethodName)) ∈ pp_tb := pp_tb_mem (List.mem_of_getElem? (i := 1081) (by decide +kernel)) (by decide +kernel)
theorem wm_1089 : (Cond.methodLink "PedlarPackLaw" (76 : Nat) ({ cls := "PedlarPackModel", name := "hours", desc := "()I" } : Jvm.MethodName)) ∈ pp_tb := pp_tb_mem (List.mem_of_getElem? (i := 1089) (by decide +kernel)) (by decide +kernel)
theorem wm_1116 : (Cond.methodLink "PedlarPackLaw" (72 : Nat) ({ cls := "PedlarPackModel", name := "judged", desc := "()I" } : Jvm.MethodName)) ∈ pp_tb := pp_tb_mem (List.mem_of_getElem? (i := 1116) (by decide +kernel)) (by decide +kernel)
theorem wm_1124 : (Cond.methodLink "PedlarPackLaw" (81 : Nat) ({ cls := "PedlarPackModel", name := "sold", desc := "(IIIII)J" } : Jvm.MethodName)) ∈ pp_tb := pp_tb_mem (List.mem_of_getElem? (i := 1124) (by decide +kernel)) (by decide +kernel)
theorem wm_1135 : (Cond.methodLink "PedlarPackLaw" (85 : Nat) ({ cls := "PedlarPackModel", name := "ask", desc := "(III)I" } : Jvm.MethodName)) ∈ pp_tb := pp_tb_mem (List.mem_of_getElem? (i := 1135) (by decide +kernel)) (by decide +kernel)
theorem wm_1139 : (Cond.methodLink "PedlarPackLaw" (90 : Nat) ({ cls := "PedlarPackModel", name := "value", desc := "(IIII)J" } : Jvm.MethodName)) ∈ pp_tb := pp_tb_mem (List.mem_of_getElem? (i := 1139) (by decide +kernel)) (by decide +kernel)
theorem wm_1143 : (Cond.methodLink "PedlarPackLaw" (95 : Nat) ({ cls := "PedlarPackModel", name := "gain", desc := "(I)J" } : Jvm.MethodName)) ∈ pp_tb := pp_tb_mem (List.mem_of_getElem? (i := 1143) (by decide +kernel)) (by decide +kernel)
theorem wm_1155 : (Cond.methodLink "PedlarPackLaw" (99 : Nat) ({ cls := "PedlarPackModel", name := "best", desc := "(I)I" } : Jvm.MethodName)) ∈ pp_tb := pp_tb_mem (List.mem_of_getElem? (i := 1155) (by decide +kernel)) (by decide +kernel)
theorem wm_1172 : (Cond.methodLink "PedlarPackLaw" (108 : Nat) ({ cls := "PedlarPackModel", name := "loaded", desc := "(I)I" } : Jvm.MethodName)) ∈ pp_tb := pp_tb_mem (List.mem_of_getElem? (i := 1172) (by decide +kernel)) (by decide +kernel)
theorem wm_1184 : (Cond.methodLink "PedlarPackLaw" (104 : Nat) ({ cls := "PedlarPackModel", name := "load", desc := "(II)J" } : Jvm.MethodName)) ∈ pp_tb := pp_tb_mem (List.mem_of_getElem? (i := 1184) (by decide +kernel)) (by decide +kernel)
theorem wm_1196 : (Cond.methodLink "PedlarPackLaw" (112 : Nat) ({ cls := "PedlarPackModel", name := "round", desc := "(I)I" } : Jvm.MethodName)) ∈ pp_tb := pp_tb_mem (List.mem_of_getElem? (i := 1196) (by decide +kernel)) (by decide +kernel)
theorem wm_1219 : (Cond.methodLink "PedlarPackLaw" (116 : Nat) ({ cls := "PedlarPackModel", name := "rounds", desc := "(I)J" } : Jvm.MethodName)) ∈ pp_tb := pp_tb_mem (List.mem_of_getElem? (i := 1219) (by decide +kernel)) (by decide +kernel)
theorem wm_1223 : (Cond.methodLink "PedlarPackLaw" (120 : Nat) ({ cls := "PedlarPackModel", name := "onward", desc := "(II)I" } : Jvm.MethodName)) ∈ pp_tb := pp_tb_mem (List.mem_of_getElem? (i := 1223) (by decide +kernel)) (by decide +kernel)
theorem wm_1227 : (Cond.methodLink "PedlarPackLaw" (125 : Nat) ({ cls := "PedlarPackModel", name := "trust", desc := "(IIIII)I" } : Jvm.MethodName)) ∈ pp_tb := pp_tb_mem (List.mem_of_getElem? (i := 1227) (by decide +kernel)) (by decide +kernel)
theorem wm_1231 : (Cond.methodLink "PedlarPackLaw" (129 : Nat) ({ cls := "PedlarPackModel", name := "two", desc := "(I)I" } : Jvm.MethodName)) ∈ pp_tb := pp_tb_mem (List.mem_of_getElem? (i := 1231) (by decide +kernel)) (by decide +kernel)
theorem wm_1239 : (Cond.methodLink "PedlarPackLaw" (133 : Nat) ({ cls := "PedlarPackModel", name := "both", desc := "(I)J" } : Jvm.MethodName)) ∈ pp_tb := pp_tb_mem (List.mem_of_getElem? (i := 1239) (by decide +kernel)) (by decide +kernel)
theorem wm_1243 : (Cond.methodLink "PedlarPackLaw" (137 : Nat) ({ cls := "PedlarPackModel", name := "brings", desc := "(II)J" } : Jvm.MethodName)) ∈ pp_tb := pp_tb_mem (List.mem_of_getElem? (i := 1243) (by decide +kernel)) (by decide +kernel)
theorem wm_1251 : (Cond.methodLink "PedlarPackLaw" (141 : Nat) ({ cls := "PedlarPackModel", name := "straps", desc := "()I" } : Jvm.MethodName)) ∈ pp_tb := pp_tb_mem (List.mem_of_getElem? (i := 1251) (by decide +kernel)) (by decide +kernel)
theorem wm_1259 : (Cond.methodLink "PedlarPackLaw" (145 : Nat) ({ cls := "PedlarPackModel", name := "sheet", desc := "(III)I" } : Jvm.MethodName)) ∈ pp_tb := pp_tb_mem (List.mem_of_getElem? (i := 1259) (by decide +kernel)) (by decide +kernel)
theorem wm_1263 : (Cond.methodLink "PedlarPackLaw" (149 : Nat) ({ cls := "PedlarPackModel", name := "lose", desc := "(I)I" } : Jvm.MethodName)) ∈ pp_tb := pp_tb_mem (List.mem_of_getElem? (i := 1263) (by decide +kernel)) (by decide +kernel)
theorem wm_1267 : (Cond.methodLink "PedlarPackLaw" (154 : Nat) ({ cls := "PedlarPackModel", name := "put", desc := "(IIII)I" } : Jvm.MethodName)) ∈ pp_tb := pp_tb_mem (List.mem_of_getElem? (i := 1267) (by decide +kernel)) (by decide +kernel)
theorem wm_1279 : (Cond.methodLink "PedlarPackLaw" (158 : Nat) ({ cls := "PedlarPackModel", name := "get", desc := "(III)I" } : Jvm.MethodName)) ∈ pp_tb := pp_tb_mem (List.mem_of_getElem? (i := 1279) (by decide +kernel)) (by decide +kernel)
theorem wm_1284 : (Cond.methodLink "PedlarPackLaw" (162 : Nat) ({ cls := "PedlarPackModel", name := "copy", desc := "(IIIII)I" } : Jvm.MethodName)) ∈ pp_tb := pp_tb_mem (List.mem_of_getElem? (i := 1284) (by decide +kernel)) (by decide +kernel)
theorem wm_1288 : (Cond.methodLink "PedlarPackLaw" (166 : Nat) ({ cls := "PedlarPackModel", name := "write", desc := "(I)I" } : Jvm.MethodName)) ∈ pp_tb := pp_tb_mem (List.mem_of_getElem? (i := 1288) (by decide +kernel)) (by decide +kernel)
theorem wm_1292 : (Cond.methodLink "PedlarPackLaw" (170 : Nat) ({ cls := "PedlarPackModel", name := "count", desc := "(I)I" } : Jvm.MethodName)) ∈ pp_tb := pp_tb_mem (List.mem_of_getElem? (i := 1292) (by decide +kernel)) (by decide +kernel)
theorem wm_1300 : (Cond.methodLink "PedlarPackLaw" (175 : Nat) ({ cls := "PedlarPackModel", name := "digest", desc := "()J" } : Jvm.MethodName)) ∈ pp_tb := pp_tb_mem (List.mem_of_getElem? (i := 1300) (by decide +kernel)) (by decide +kernel)
theorem lk_L_100 : pp_Lk RL 100 yX8_load := Or.inl wm_609
theorem lk_L_104 : pp_Lk RL 104 yX9_load := Or.inl wm_1184
theorem lk_L_105 : pp_Lk RL 105 yX8_loaded := Or.inl wm_638
theorem lk_L_108 : pp_Lk RL 108 yX9_loaded := Or.inl wm_1172
theorem lk_L_109 : pp_Lk RL 109 yX8_round := Or.inl wm_642
theorem lk_L_112 : pp_Lk RL 112 yX9_round := Or.inl wm_1196
theorem lk_L_113 : pp_Lk RL 113 yX8_rounds := Or.inl wm_712
theorem lk_L_116 : pp_Lk RL 116 yX9_rounds := Or.inl wm_1219
theorem lk_L_117 : pp_Lk RL 117 yX8_onward := Or.inl wm_716
theorem lk_L_120 : pp_Lk RL 120 yX9_onward := Or.inl wm_1223
theorem lk_L_121 : pp_Lk RL 121 yX8_trust := Or.inl wm_724
theorem lk_L_125 : pp_Lk RL 125 yX9_trust := Or.inl wm_1227
theorem lk_L_126 : pp_Lk RL 126 yX8_two := Or.inl wm_729
theorem lk_L_129 : pp_Lk RL 129 yX9_two := Or.inl wm_1231
theorem lk_L_13 : pp_Lk RL 13 yX8_thing := Or.inl wm_348
theorem lk_L_130 : pp_Lk RL 130 yX8_both := Or.inl wm_741
theorem lk_L_133 : pp_Lk RL 133 yX9_both := Or.inl wm_1239
theorem lk_L_134 : pp_Lk RL 134 yX8_brings := Or.inl wm_745
theorem lk_L_137 : pp_Lk RL 137 yX9_brings := Or.inl wm_1243
theorem lk_L_138 : pp_Lk RL 138 yX8_straps := Or.inl wm_749
theorem lk_L_141 : pp_Lk RL 141 yX9_straps := Or.inl wm_1251
theorem lk_L_142 : pp_Lk RL 142 yX8_sheet := Or.inl wm_757
theorem lk_L_145 : pp_Lk RL 145 yX9_sheet := Or.inl wm_1259
theorem lk_L_146 : pp_Lk RL 146 yX8_lose := Or.inl wm_768
theorem lk_L_149 : pp_Lk RL 149 yX9_lose := Or.inl wm_1263
theorem lk_L_150 : pp_Lk RL 150 yX8_put := Or.inl wm_772
theorem lk_L_154 : pp_Lk RL 154 yX9_put := Or.inl wm_1267
theorem lk_L_155 : pp_Lk RL 155 yX8_get := Or.inl wm_786
theorem lk_L_158 : pp_Lk RL 158 yX9_get := Or.inl wm_1279
theorem lk_L_159 : pp_Lk RL 159 yX8_copy := Or.inl wm_791
theorem lk_L_162 : pp_Lk RL 162 yX9_copy := Or.inl wm_1284
theorem lk_L_163 : pp_Lk RL 163 yX8_write := Or.inl wm_802
theorem lk_L_166 : pp_Lk RL 166 yX9_write := Or.inl wm_1288
theorem lk_L_167 : pp_Lk RL 167 yX8_count := Or.inl wm_806
theorem lk_L_17 : pp_Lk RL 17 yX9_thing := Or.inl wm_979
theorem lk_L_170 : pp_Lk RL 170 yX9_count := Or.inl wm_1292
theorem lk_L_171 : pp_Lk RL 171 yX8_digest := Or.inl wm_819
theorem lk_L_175 : pp_Lk RL 175 yX9_digest := Or.inl wm_1300
theorem lk_L_18 : pp_Lk RL 18 yX8_road := Or.inl wm_367
theorem lk_L_21 : pp_Lk RL 21 yX9_road := Or.inl wm_993
theorem lk_L_22 : pp_Lk RL 22 yX8_way := Or.inl wm_378
theorem lk_L_26 : pp_Lk RL 26 yX9_way := Or.inl wm_1000
theorem lk_L_27 : pp_Lk RL 27 yX8_set := Or.inl wm_382
theorem lk_L_30 : pp_Lk RL 30 yX9_set := Or.inl wm_1008
theorem lk_L_31 : pp_Lk RL 31 yX8_type := Or.inl wm_386
theorem lk_L_35 : pp_Lk RL 35 yX9_type := Or.inl wm_1012
theorem lk_L_36 : pp_Lk RL 36 yX8_wipe := Or.inl wm_394
theorem lk_L_40 : pp_Lk RL 40 yX9_wipe := Or.inl wm_1016
theorem lk_L_41 : pp_Lk RL 41 yX8_fault := Or.inl wm_398
theorem lk_L_44 : pp_Lk RL 44 yX9_fault := Or.inl wm_1020
theorem lk_L_45 : pp_Lk RL 45 yX8_wants := Or.inl wm_427
theorem lk_L_48 : pp_Lk RL 48 yX9_wants := Or.inl wm_1044
theorem lk_L_49 : pp_Lk RL 49 yX8_read := Or.inl wm_440
theorem lk_L_52 : pp_Lk RL 52 yX9_read := Or.inl wm_1051
theorem lk_L_53 : pp_Lk RL 53 yX8_chance := Or.inl wm_458
theorem lk_L_56 : pp_Lk RL 56 yX9_chance := Or.inl wm_1065
theorem lk_L_57 : pp_Lk RL 57 yX8_shop := Or.inl wm_469
theorem lk_L_60 : pp_Lk RL 60 yX9_shop := Or.inl wm_1073
theorem lk_L_61 : pp_Lk RL 61 yX8_row := Or.inl wm_473
theorem lk_L_64 : pp_Lk RL 64 yX9_row := Or.inl wm_1077
theorem lk_L_65 : pp_Lk RL 65 yX8_pack := Or.inl wm_480
theorem lk_L_68 : pp_Lk RL 68 yX9_pack := Or.inl wm_1081
theorem lk_L_69 : pp_Lk RL 69 yX8_judged := Or.inl wm_488
theorem lk_L_72 : pp_Lk RL 72 yX9_judged := Or.inl wm_1116
theorem lk_L_73 : pp_Lk RL 73 yX8_hours := Or.inl wm_500
theorem lk_L_76 : pp_Lk RL 76 yX9_hours := Or.inl wm_1089
theorem lk_L_77 : pp_Lk RL 77 yX8_sold := Or.inl wm_501
theorem lk_L_81 : pp_Lk RL 81 yX9_sold := Or.inl wm_1124
theorem lk_L_82 : pp_Lk RL 82 yX8_ask := Or.inl wm_536
theorem lk_L_85 : pp_Lk RL 85 yX9_ask := Or.inl wm_1135
theorem lk_L_86 : pp_Lk RL 86 yX8_value := Or.inl wm_561
theorem lk_L_90 : pp_Lk RL 90 yX9_value := Or.inl wm_1139
theorem lk_L_91 : pp_Lk RL 91 yX8_gain := Or.inl wm_565
theorem lk_L_95 : pp_Lk RL 95 yX9_gain := Or.inl wm_1143
theorem lk_L_96 : pp_Lk RL 96 yX8_best := Or.inl wm_582
theorem lk_L_99 : pp_Lk RL 99 yX9_best := Or.inl wm_1155
theorem lk_L_9 : pp_Lk RL 9 yX8_init := Or.inl wm_72
theorem lk_L_12 : pp_Lk RL 12 yX9_init := Or.inl wm_830
