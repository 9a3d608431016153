theorem dX4_chanceOf_0 : decode cX4_chanceOf 0 = .ok (.aload_n 0, 1) := by decide +kernel
theorem dX4_chanceOf_1 : decode cX4_chanceOf 1 = .ok (.getfield 11, 3) := by decide +kernel
theorem dX4_chanceOf_4 : decode cX4_chanceOf 4 = .ok (.iload_n 1, 1) := by decide +kernel
theorem dX4_chanceOf_5 : decode cX4_chanceOf 5 = .ok (.bipush 6, 2) := by decide +kernel
theorem dX4_chanceOf_7 : decode cX4_chanceOf 7 = .ok (.imul, 1) := by decide +kernel
theorem dX4_chanceOf_8 : decode cX4_chanceOf 8 = .ok (.iload_n 2, 1) := by decide +kernel
theorem dX4_chanceOf_9 : decode cX4_chanceOf 9 = .ok (.iadd, 1) := by decide +kernel
theorem dX4_chanceOf_10 : decode cX4_chanceOf 10 = .ok (.aaload, 1) := by decide +kernel
theorem dX4_chanceOf_11 : decode cX4_chanceOf 11 = .ok (.iload_n 3, 1) := by decide +kernel
theorem dX4_chanceOf_12 : decode cX4_chanceOf 12 = .ok (.iaload, 1) := by decide +kernel
theorem dX4_chanceOf_13 : decode cX4_chanceOf 13 = .ok (.istore 4, 2) := by decide +kernel
theorem dX4_chanceOf_15 : decode cX4_chanceOf 15 = .ok (.iload 4, 2) := by decide +kernel
theorem dX4_chanceOf_17 : decode cX4_chanceOf 17 = .ok (.aload_n 0, 1) := by decide +kernel
theorem dX4_chanceOf_18 : decode cX4_chanceOf 18 = .ok (.getfield 16, 3) := by decide +kernel
theorem dX4_chanceOf_21 : decode cX4_chanceOf 21 = .ok (.iload_n 2, 1) := by decide +kernel
theorem dX4_chanceOf_22 : decode cX4_chanceOf 22 = .ok (.iaload, 1) := by decide +kernel
theorem dX4_chanceOf_23 : decode cX4_chanceOf 23 = .ok (.if_icmp .le 15, 3) := by decide +kernel
theorem dX4_chanceOf_26 : decode cX4_chanceOf 26 = .ok (.iload 4, 2) := by decide +kernel
theorem dX4_chanceOf_28 : decode cX4_chanceOf 28 = .ok (.aload_n 0, 1) := by decide +kernel
theorem dX4_chanceOf_29 : decode cX4_chanceOf 29 = .ok (.getfield 16, 3) := by decide +kernel
theorem dX4_chanceOf_32 : decode cX4_chanceOf 32 = .ok (.iload_n 2, 1) := by decide +kernel
theorem dX4_chanceOf_33 : decode cX4_chanceOf 33 = .ok (.iaload, 1) := by decide +kernel
theorem dX4_chanceOf_34 : decode cX4_chanceOf 34 = .ok (.isub, 1) := by decide +kernel
theorem dX4_chanceOf_35 : decode cX4_chanceOf 35 = .ok (.goto 4, 3) := by decide +kernel
theorem dX4_chanceOf_38 : decode cX4_chanceOf 38 = .ok (.iconst 0, 1) := by decide +kernel
theorem dX4_chanceOf_39 : decode cX4_chanceOf 39 = .ok (.ireturn, 1) := by decide +kernel
theorem dX0_meanAsked_0 : decode cX0_meanAsked 0 = .ok (.aload_n 0, 1) := by decide +kernel
theorem dX0_meanAsked_1 : decode cX0_meanAsked 1 = .ok (.getfield 11, 3) := by decide +kernel
theorem dX0_meanAsked_4 : decode cX0_meanAsked 4 = .ok (.iload_n 1, 1) := by decide +kernel
theorem dX0_meanAsked_5 : decode cX0_meanAsked 5 = .ok (.iconst 1, 1) := by decide +kernel
theorem dX0_meanAsked_6 : decode cX0_meanAsked 6 = .ok (.isub, 1) := by decide +kernel
theorem dX0_meanAsked_7 : decode cX0_meanAsked 7 = .ok (.aaload, 1) := by decide +kernel
theorem dX0_meanAsked_8 : decode cX0_meanAsked 8 = .ok (.astore 6, 2) := by decide +kernel
theorem dX0_meanAsked_10 : decode cX0_meanAsked 10 = .ok (.iload_n 3, 1) := by decide +kernel
theorem dX0_meanAsked_11 : decode cX0_meanAsked 11 = .ok (.iconst 5, 1) := by decide +kernel
theorem dX0_meanAsked_12 : decode cX0_meanAsked 12 = .ok (.imul, 1) := by decide +kernel
theorem dX0_meanAsked_13 : decode cX0_meanAsked 13 = .ok (.iload 4, 2) := by decide +kernel
theorem dX0_meanAsked_15 : decode cX0_meanAsked 15 = .ok (.iadd, 1) := by decide +kernel
theorem dX0_meanAsked_16 : decode cX0_meanAsked 16 = .ok (.istore 7, 2) := by decide +kernel
theorem dX0_meanAsked_18 : decode cX0_meanAsked 18 = .ok (.iload 5, 2) := by decide +kernel
theorem dX0_meanAsked_20 : decode cX0_meanAsked 20 = .ok (.iconst 3, 1) := by decide +kernel
theorem dX0_meanAsked_21 : decode cX0_meanAsked 21 = .ok (.if_icmp .ne 9, 3) := by decide +kernel
theorem dX0_meanAsked_24 : decode cX0_meanAsked 24 = .ok (.aload 6, 2) := by decide +kernel
theorem dX0_meanAsked_26 : decode cX0_meanAsked 26 = .ok (.iload 7, 2) := by decide +kernel
theorem dX0_meanAsked_28 : decode cX0_meanAsked 28 = .ok (.laload, 1) := by decide +kernel
theorem dX0_meanAsked_29 : decode cX0_meanAsked 29 = .ok (.lreturn, 1) := by decide +kernel
theorem dX0_meanAsked_30 : decode cX0_meanAsked 30 = .ok (.aload_n 0, 1) := by decide +kernel
theorem dX0_meanAsked_31 : decode cX0_meanAsked 31 = .ok (.getfield 24, 3) := by decide +kernel
theorem dX0_meanAsked_34 : decode cX0_meanAsked 34 = .ok (.iload_n 2, 1) := by decide +kernel
theorem dX0_meanAsked_35 : decode cX0_meanAsked 35 = .ok (.iload_n 3, 1) := by decide +kernel
theorem dX0_meanAsked_36 : decode cX0_meanAsked 36 = .ok (.iload 5, 2) := by decide +kernel
theorem dX0_meanAsked_38 : decode cX0_meanAsked 38 = .ok (.invokevirtual 51, 3) := by decide +kernel
theorem dX0_meanAsked_41 : decode cX0_meanAsked 41 = .ok (.istore 8, 2) := by decide +kernel
theorem dX0_meanAsked_43 : decode cX0_meanAsked 43 = .ok (.aload_n 0, 1) := by decide +kernel
theorem dX0_meanAsked_44 : decode cX0_meanAsked 44 = .ok (.getfield 20, 3) := by decide +kernel
theorem dX0_meanAsked_47 : decode cX0_meanAsked 47 = .ok (.getfield 35, 3) := by decide +kernel
theorem dX0_meanAsked_50 : decode cX0_meanAsked 50 = .ok (.iload_n 3, 1) := by decide +kernel
theorem dX0_meanAsked_51 : decode cX0_meanAsked 51 = .ok (.aaload, 1) := by decide +kernel
theorem dX0_meanAsked_52 : decode cX0_meanAsked 52 = .ok (.iconst 3, 1) := by decide +kernel
theorem dX0_meanAsked_53 : decode cX0_meanAsked 53 = .ok (.iload 5, 2) := by decide +kernel
theorem dX0_meanAsked_55 : decode cX0_meanAsked 55 = .ok (.iadd, 1) := by decide +kernel
theorem dX0_meanAsked_56 : decode cX0_meanAsked 56 = .ok (.iaload, 1) := by decide +kernel
theorem dX0_meanAsked_57 : decode cX0_meanAsked 57 = .ok (.i2l, 1) := by decide +kernel
theorem dX0_meanAsked_58 : decode cX0_meanAsked 58 = .ok (.ldc2_w 41, 3) := by decide +kernel
theorem dX0_meanAsked_61 : decode cX0_meanAsked 61 = .ok (.lmul, 1) := by decide +kernel
theorem dX0_meanAsked_62 : decode cX0_meanAsked 62 = .ok (.aload 6, 2) := by decide +kernel
theorem dX0_meanAsked_64 : decode cX0_meanAsked 64 = .ok (.iload 7, 2) := by decide +kernel
theorem dX0_meanAsked_66 : decode cX0_meanAsked 66 = .ok (.iconst 1, 1) := by decide +kernel
theorem dX0_meanAsked_67 : decode cX0_meanAsked 67 = .ok (.isub, 1) := by decide +kernel
theorem dX0_meanAsked_68 : decode cX0_meanAsked 68 = .ok (.laload, 1) := by decide +kernel
theorem dX0_meanAsked_69 : decode cX0_meanAsked 69 = .ok (.ladd, 1) := by decide +kernel
theorem dX0_meanAsked_70 : decode cX0_meanAsked 70 = .ok (.lstore 9, 2) := by decide +kernel
theorem dX0_meanAsked_72 : decode cX0_meanAsked 72 = .ok (.iload 8, 2) := by decide +kernel
theorem dX0_meanAsked_74 : decode cX0_meanAsked 74 = .ok (.i2l, 1) := by decide +kernel
theorem dX0_meanAsked_75 : decode cX0_meanAsked 75 = .ok (.lload 9, 2) := by decide +kernel
theorem dX0_meanAsked_77 : decode cX0_meanAsked 77 = .ok (.lmul, 1) := by decide +kernel
theorem dX0_meanAsked_78 : decode cX0_meanAsked 78 = .ok (.bipush 16, 2) := by decide +kernel
theorem dX0_meanAsked_80 : decode cX0_meanAsked 80 = .ok (.iload 8, 2) := by decide +kernel
theorem dX0_meanAsked_82 : decode cX0_meanAsked 82 = .ok (.isub, 1) := by decide +kernel
theorem dX0_meanAsked_83 : decode cX0_meanAsked 83 = .ok (.i2l, 1) := by decide +kernel
theorem dX0_meanAsked_84 : decode cX0_meanAsked 84 = .ok (.aload 6, 2) := by decide +kernel
theorem dX0_meanAsked_86 : decode cX0_meanAsked 86 = .ok (.iload 7, 2) := by decide +kernel
theorem dX0_meanAsked_88 : decode cX0_meanAsked 88 = .ok (.laload, 1) := by decide +kernel
theorem dX0_meanAsked_89 : decode cX0_meanAsked 89 = .ok (.lmul, 1) := by decide +kernel
theorem dX0_meanAsked_90 : decode cX0_meanAsked 90 = .ok (.ladd, 1) := by decide +kernel
theorem dX0_meanAsked_91 : decode cX0_meanAsked 91 = .ok (.ldc2_w 57, 3) := by decide +kernel
theorem dX0_meanAsked_94 : decode cX0_meanAsked 94 = .ok (.ldiv, 1) := by decide +kernel
theorem dX0_meanAsked_95 : decode cX0_meanAsked 95 = .ok (.lreturn, 1) := by decide +kernel
theorem dX0_bestLevel_0 : decode cX0_bestLevel 0 = .ok (.iconst 0, 1) := by decide +kernel
theorem dX0_bestLevel_1 : decode cX0_bestLevel 1 = .ok (.istore 5, 2) := by decide +kernel
theorem dX0_bestLevel_3 : decode cX0_bestLevel 3 = .ok (.aload_n 0, 1) := by decide +kernel
theorem dX0_bestLevel_4 : decode cX0_bestLevel 4 = .ok (.iload_n 1, 1) := by decide +kernel
theorem dX0_bestLevel_5 : decode cX0_bestLevel 5 = .ok (.iload_n 2, 1) := by decide +kernel
theorem dX0_bestLevel_6 : decode cX0_bestLevel 6 = .ok (.iload_n 3, 1) := by decide +kernel
theorem dX0_bestLevel_7 : decode cX0_bestLevel 7 = .ok (.iload 4, 2) := by decide +kernel
theorem dX0_bestLevel_9 : decode cX0_bestLevel 9 = .ok (.iconst 0, 1) := by decide +kernel
theorem dX0_bestLevel_10 : decode cX0_bestLevel 10 = .ok (.invokevirtual 47, 3) := by decide +kernel
theorem dX0_bestLevel_13 : decode cX0_bestLevel 13 = .ok (.lstore 6, 2) := by decide +kernel
theorem dX0_bestLevel_15 : decode cX0_bestLevel 15 = .ok (.iconst 1, 1) := by decide +kernel
theorem dX0_bestLevel_16 : decode cX0_bestLevel 16 = .ok (.istore 8, 2) := by decide +kernel
theorem dX0_bestLevel_18 : decode cX0_bestLevel 18 = .ok (.iload 8, 2) := by decide +kernel
theorem dX0_bestLevel_20 : decode cX0_bestLevel 20 = .ok (.iconst 3, 1) := by decide +kernel
theorem dX0_bestLevel_21 : decode cX0_bestLevel 21 = .ok (.if_icmp .gt 38, 3) := by decide +kernel
theorem dX0_bestLevel_24 : decode cX0_bestLevel 24 = .ok (.aload_n 0, 1) := by decide +kernel
theorem dX0_bestLevel_25 : decode cX0_bestLevel 25 = .ok (.iload_n 1, 1) := by decide +kernel
theorem dX0_bestLevel_26 : decode cX0_bestLevel 26 = .ok (.iload_n 2, 1) := by decide +kernel
theorem dX0_bestLevel_27 : decode cX0_bestLevel 27 = .ok (.iload_n 3, 1) := by decide +kernel
theorem dX0_bestLevel_28 : decode cX0_bestLevel 28 = .ok (.iload 4, 2) := by decide +kernel
theorem dX0_bestLevel_30 : decode cX0_bestLevel 30 = .ok (.iload 8, 2) := by decide +kernel
theorem dX0_bestLevel_32 : decode cX0_bestLevel 32 = .ok (.invokevirtual 47, 3) := by decide +kernel
theorem dX0_bestLevel_35 : decode cX0_bestLevel 35 = .ok (.lstore 9, 2) := by decide +kernel
theorem dX0_bestLevel_37 : decode cX0_bestLevel 37 = .ok (.lload 9, 2) := by decide +kernel
theorem dX0_bestLevel_39 : decode cX0_bestLevel 39 = .ok (.lload 6, 2) := by decide +kernel
theorem dX0_bestLevel_41 : decode cX0_bestLevel 41 = .ok (.lcmp, 1) := by decide +kernel
theorem dX0_bestLevel_42 : decode cX0_bestLevel 42 = .ok (.ifCond .le 11, 3) := by decide +kernel
theorem dX0_bestLevel_45 : decode cX0_bestLevel 45 = .ok (.lload 9, 2) := by decide +kernel
theorem dX0_bestLevel_47 : decode cX0_bestLevel 47 = .ok (.lstore 6, 2) := by decide +kernel
theorem dX0_bestLevel_49 : decode cX0_bestLevel 49 = .ok (.iload 8, 2) := by decide +kernel
theorem dX0_bestLevel_51 : decode cX0_bestLevel 51 = .ok (.istore 5, 2) := by decide +kernel
theorem dX0_bestLevel_53 : decode cX0_bestLevel 53 = .ok (.iinc 8 1, 3) := by decide +kernel
theorem dX0_bestLevel_56 : decode cX0_bestLevel 56 = .ok (.goto (-38), 3) := by decide +kernel
theorem dX0_bestLevel_59 : decode cX0_bestLevel 59 = .ok (.iload 5, 2) := by decide +kernel
theorem dX0_bestLevel_61 : decode cX0_bestLevel 61 = .ok (.ireturn, 1) := by decide +kernel
theorem dX0_callAt_0 : decode cX0_callAt 0 = .ok (.iconst 0, 1) := by decide +kernel
theorem dX0_callAt_1 : decode cX0_callAt 1 = .ok (.istore_n 3, 1) := by decide +kernel
theorem dX0_callAt_2 : decode cX0_callAt 2 = .ok (.iload_n 3, 1) := by decide +kernel
theorem dX0_callAt_3 : decode cX0_callAt 3 = .ok (.bipush 6, 2) := by decide +kernel
theorem dX0_callAt_5 : decode cX0_callAt 5 = .ok (.if_icmp .ge 70, 3) := by decide +kernel
theorem dX0_callAt_8 : decode cX0_callAt 8 = .ok (.aload_n 0, 1) := by decide +kernel
theorem dX0_callAt_9 : decode cX0_callAt 9 = .ok (.getfield 11, 3) := by decide +kernel
theorem dX0_callAt_12 : decode cX0_callAt 12 = .ok (.iload_n 1, 1) := by decide +kernel
theorem dX0_callAt_13 : decode cX0_callAt 13 = .ok (.aaload, 1) := by decide +kernel
theorem dX0_callAt_14 : decode cX0_callAt 14 = .ok (.iload_n 3, 1) := by decide +kernel
theorem dX0_callAt_15 : decode cX0_callAt 15 = .ok (.iconst 5, 1) := by decide +kernel
theorem dX0_callAt_16 : decode cX0_callAt 16 = .ok (.imul, 1) := by decide +kernel
theorem dX0_callAt_17 : decode cX0_callAt 17 = .ok (.lconst 0, 1) := by decide +kernel
theorem dX0_callAt_18 : decode cX0_callAt 18 = .ok (.lastore, 1) := by decide +kernel
theorem dX0_callAt_19 : decode cX0_callAt 19 = .ok (.iconst 1, 1) := by decide +kernel
theorem dX0_callAt_20 : decode cX0_callAt 20 = .ok (.istore 4, 2) := by decide +kernel
theorem dX0_callAt_22 : decode cX0_callAt 22 = .ok (.iload 4, 2) := by decide +kernel
theorem dX0_callAt_24 : decode cX0_callAt 24 = .ok (.iconst 5, 1) := by decide +kernel
theorem dX0_callAt_25 : decode cX0_callAt 25 = .ok (.if_icmp .ge 44, 3) := by decide +kernel
theorem dX0_callAt_28 : decode cX0_callAt 28 = .ok (.aload_n 0, 1) := by decide +kernel
theorem dX0_callAt_29 : decode cX0_callAt 29 = .ok (.iload_n 1, 1) := by decide +kernel
theorem dX0_callAt_30 : decode cX0_callAt 30 = .ok (.iload_n 2, 1) := by decide +kernel
theorem dX0_callAt_31 : decode cX0_callAt 31 = .ok (.iload_n 3, 1) := by decide +kernel
theorem dX0_callAt_32 : decode cX0_callAt 32 = .ok (.iload 4, 2) := by decide +kernel
theorem dX0_callAt_34 : decode cX0_callAt 34 = .ok (.invokevirtual 43, 3) := by decide +kernel
theorem dX0_callAt_37 : decode cX0_callAt 37 = .ok (.istore 5, 2) := by decide +kernel
theorem dX0_callAt_39 : decode cX0_callAt 39 = .ok (.aload_n 0, 1) := by decide +kernel
theorem dX0_callAt_40 : decode cX0_callAt 40 = .ok (.getfield 11, 3) := by decide +kernel
theorem dX0_callAt_43 : decode cX0_callAt 43 = .ok (.iload_n 1, 1) := by decide +kernel
theorem dX0_callAt_44 : decode cX0_callAt 44 = .ok (.aaload, 1) := by decide +kernel
theorem dX0_callAt_45 : decode cX0_callAt 45 = .ok (.iload_n 3, 1) := by decide +kernel
theorem dX0_callAt_46 : decode cX0_callAt 46 = .ok (.iconst 5, 1) := by decide +kernel
theorem dX0_callAt_47 : decode cX0_callAt 47 = .ok (.imul, 1) := by decide +kernel
theorem dX0_callAt_48 : decode cX0_callAt 48 = .ok (.iload 4, 2) := by decide +kernel
theorem dX0_callAt_50 : decode cX0_callAt 50 = .ok (.iadd, 1) := by decide +kernel
theorem dX0_callAt_51 : decode cX0_callAt 51 = .ok (.aload_n 0, 1) := by decide +kernel
theorem dX0_callAt_52 : decode cX0_callAt 52 = .ok (.iload_n 1, 1) := by decide +kernel
theorem dX0_callAt_53 : decode cX0_callAt 53 = .ok (.iload_n 2, 1) := by decide +kernel
theorem dX0_callAt_54 : decode cX0_callAt 54 = .ok (.iload_n 3, 1) := by decide +kernel
theorem dX0_callAt_55 : decode cX0_callAt 55 = .ok (.iload 4, 2) := by decide +kernel
theorem dX0_callAt_57 : decode cX0_callAt 57 = .ok (.iload 5, 2) := by decide +kernel
theorem dX0_callAt_59 : decode cX0_callAt 59 = .ok (.invokevirtual 47, 3) := by decide +kernel
theorem dX0_callAt_62 : decode cX0_callAt 62 = .ok (.lastore, 1) := by decide +kernel
theorem dX0_callAt_63 : decode cX0_callAt 63 = .ok (.iinc 4 1, 3) := by decide +kernel
theorem dX0_callAt_66 : decode cX0_callAt 66 = .ok (.goto (-44), 3) := by decide +kernel
theorem dX0_callAt_69 : decode cX0_callAt 69 = .ok (.iinc 3 1, 3) := by decide +kernel
theorem dX0_callAt_72 : decode cX0_callAt 72 = .ok (.goto (-70), 3) := by decide +kernel
theorem dX0_callAt_75 : decode cX0_callAt 75 = .ok (.return_, 1) := by decide +kernel
theorem dX0_comeHome_0 : decode cX0_comeHome 0 = .ok (.iconst 0, 1) := by decide +kernel
theorem dX0_comeHome_1 : decode cX0_comeHome 1 = .ok (.istore_n 1, 1) := by decide +kernel
theorem dX0_comeHome_2 : decode cX0_comeHome 2 = .ok (.iload_n 1, 1) := by decide +kernel
theorem dX0_comeHome_3 : decode cX0_comeHome 3 = .ok (.bipush 6, 2) := by decide +kernel
theorem dX0_comeHome_5 : decode cX0_comeHome 5 = .ok (.if_icmp .ge 71, 3) := by decide +kernel
theorem dX0_comeHome_8 : decode cX0_comeHome 8 = .ok (.aload_n 0, 1) := by decide +kernel
theorem dX0_comeHome_9 : decode cX0_comeHome 9 = .ok (.getfield 20, 3) := by decide +kernel
theorem dX0_comeHome_12 : decode cX0_comeHome 12 = .ok (.getfield 35, 3) := by decide +kernel
theorem dX0_comeHome_15 : decode cX0_comeHome 15 = .ok (.iload_n 1, 1) := by decide +kernel
theorem dX0_comeHome_16 : decode cX0_comeHome 16 = .ok (.aaload, 1) := by decide +kernel
theorem dX0_comeHome_17 : decode cX0_comeHome 17 = .ok (.iconst 0, 1) := by decide +kernel
theorem dX0_comeHome_18 : decode cX0_comeHome 18 = .ok (.iaload, 1) := by decide +kernel
theorem dX0_comeHome_19 : decode cX0_comeHome 19 = .ok (.aload_n 0, 1) := by decide +kernel
theorem dX0_comeHome_20 : decode cX0_comeHome 20 = .ok (.getfield 20, 3) := by decide +kernel
theorem dX0_comeHome_23 : decode cX0_comeHome 23 = .ok (.getfield 35, 3) := by decide +kernel
theorem dX0_comeHome_26 : decode cX0_comeHome 26 = .ok (.iload_n 1, 1) := by decide +kernel
theorem dX0_comeHome_27 : decode cX0_comeHome 27 = .ok (.aaload, 1) := by decide +kernel
theorem dX0_comeHome_28 : decode cX0_comeHome 28 = .ok (.iconst 2, 1) := by decide +kernel
theorem dX0_comeHome_29 : decode cX0_comeHome 29 = .ok (.iaload, 1) := by decide +kernel
theorem dX0_comeHome_30 : decode cX0_comeHome 30 = .ok (.isub, 1) := by decide +kernel
theorem dX0_comeHome_31 : decode cX0_comeHome 31 = .ok (.i2l, 1) := by decide +kernel
theorem dX0_comeHome_32 : decode cX0_comeHome 32 = .ok (.ldc2_w 41, 3) := by decide +kernel
theorem dX0_comeHome_35 : decode cX0_comeHome 35 = .ok (.lmul, 1) := by decide +kernel
theorem dX0_comeHome_36 : decode cX0_comeHome 36 = .ok (.lstore_n 2, 1) := by decide +kernel
theorem dX0_comeHome_37 : decode cX0_comeHome 37 = .ok (.iconst 0, 1) := by decide +kernel
theorem dX0_comeHome_38 : decode cX0_comeHome 38 = .ok (.istore 4, 2) := by decide +kernel
theorem dX0_comeHome_40 : decode cX0_comeHome 40 = .ok (.iload 4, 2) := by decide +kernel
theorem dX0_comeHome_42 : decode cX0_comeHome 42 = .ok (.iconst 5, 1) := by decide +kernel
theorem dX0_comeHome_43 : decode cX0_comeHome 43 = .ok (.if_icmp .ge 27, 3) := by decide +kernel
theorem dX0_comeHome_46 : decode cX0_comeHome 46 = .ok (.aload_n 0, 1) := by decide +kernel
theorem dX0_comeHome_47 : decode cX0_comeHome 47 = .ok (.getfield 11, 3) := by decide +kernel
theorem dX0_comeHome_50 : decode cX0_comeHome 50 = .ok (.iconst 0, 1) := by decide +kernel
theorem dX0_comeHome_51 : decode cX0_comeHome 51 = .ok (.aaload, 1) := by decide +kernel
theorem dX0_comeHome_52 : decode cX0_comeHome 52 = .ok (.iload_n 1, 1) := by decide +kernel
theorem dX0_comeHome_53 : decode cX0_comeHome 53 = .ok (.iconst 5, 1) := by decide +kernel
theorem dX0_comeHome_54 : decode cX0_comeHome 54 = .ok (.imul, 1) := by decide +kernel
theorem dX0_comeHome_55 : decode cX0_comeHome 55 = .ok (.iload 4, 2) := by decide +kernel
theorem dX0_comeHome_57 : decode cX0_comeHome 57 = .ok (.iadd, 1) := by decide +kernel
theorem dX0_comeHome_58 : decode cX0_comeHome 58 = .ok (.iload 4, 2) := by decide +kernel
theorem dX0_comeHome_60 : decode cX0_comeHome 60 = .ok (.i2l, 1) := by decide +kernel
theorem dX0_comeHome_61 : decode cX0_comeHome 61 = .ok (.lload_n 2, 1) := by decide +kernel
theorem dX0_comeHome_62 : decode cX0_comeHome 62 = .ok (.lmul, 1) := by decide +kernel
theorem dX0_comeHome_63 : decode cX0_comeHome 63 = .ok (.lastore, 1) := by decide +kernel
theorem dX0_comeHome_64 : decode cX0_comeHome 64 = .ok (.iinc 4 1, 3) := by decide +kernel
theorem dX0_comeHome_67 : decode cX0_comeHome 67 = .ok (.goto (-27), 3) := by decide +kernel
theorem dX0_comeHome_70 : decode cX0_comeHome 70 = .ok (.iinc 1 1, 3) := by decide +kernel
theorem dX0_comeHome_73 : decode cX0_comeHome 73 = .ok (.goto (-71), 3) := by decide +kernel
theorem dX0_comeHome_76 : decode cX0_comeHome 76 = .ok (.return_, 1) := by decide +kernel
theorem dX0_goAlong_0 : decode cX0_goAlong 0 = .ok (.aload_n 0, 1) := by decide +kernel
theorem dX0_goAlong_1 : decode cX0_goAlong 1 = .ok (.invokevirtual 28, 3) := by decide +kernel
theorem dX0_goAlong_4 : decode cX0_goAlong 4 = .ok (.iconst 1, 1) := by decide +kernel
theorem dX0_goAlong_5 : decode cX0_goAlong 5 = .ok (.istore_n 3, 1) := by decide +kernel
theorem dX0_goAlong_6 : decode cX0_goAlong 6 = .ok (.iload_n 3, 1) := by decide +kernel
theorem dX0_goAlong_7 : decode cX0_goAlong 7 = .ok (.iload_n 2, 1) := by decide +kernel
theorem dX0_goAlong_8 : decode cX0_goAlong 8 = .ok (.if_icmp .gt 19, 3) := by decide +kernel
theorem dX0_goAlong_11 : decode cX0_goAlong 11 = .ok (.aload_n 0, 1) := by decide +kernel
theorem dX0_goAlong_12 : decode cX0_goAlong 12 = .ok (.iload_n 3, 1) := by decide +kernel
theorem dX0_goAlong_13 : decode cX0_goAlong 13 = .ok (.aload_n 1, 1) := by decide +kernel
theorem dX0_goAlong_14 : decode cX0_goAlong 14 = .ok (.iload_n 2, 1) := by decide +kernel
theorem dX0_goAlong_15 : decode cX0_goAlong 15 = .ok (.iload_n 3, 1) := by decide +kernel
theorem dX0_goAlong_16 : decode cX0_goAlong 16 = .ok (.isub, 1) := by decide +kernel
theorem dX0_goAlong_17 : decode cX0_goAlong 17 = .ok (.iaload, 1) := by decide +kernel
theorem dX0_goAlong_18 : decode cX0_goAlong 18 = .ok (.invokevirtual 31, 3) := by decide +kernel
theorem dX0_goAlong_21 : decode cX0_goAlong 21 = .ok (.iinc 3 1, 3) := by decide +kernel
theorem dX0_goAlong_24 : decode cX0_goAlong 24 = .ok (.goto (-18), 3) := by decide +kernel
theorem dX0_goAlong_27 : decode cX0_goAlong 27 = .ok (.return_, 1) := by decide +kernel
theorem dX0_meanSold_0 : decode cX0_meanSold 0 = .ok (.lconst 0, 1) := by decide +kernel
theorem dX0_meanSold_1 : decode cX0_meanSold 1 = .ok (.lstore_n 1, 1) := by decide +kernel
theorem dX0_meanSold_2 : decode cX0_meanSold 2 = .ok (.iconst 1, 1) := by decide +kernel
theorem dX0_meanSold_3 : decode cX0_meanSold 3 = .ok (.istore_n 3, 1) := by decide +kernel
theorem dX0_meanSold_4 : decode cX0_meanSold 4 = .ok (.iload_n 3, 1) := by decide +kernel
theorem dX0_meanSold_5 : decode cX0_meanSold 5 = .ok (.iconst 5, 1) := by decide +kernel
theorem dX0_meanSold_6 : decode cX0_meanSold 6 = .ok (.if_icmp .ge 21, 3) := by decide +kernel
theorem dX0_meanSold_9 : decode cX0_meanSold 9 = .ok (.lload_n 1, 1) := by decide +kernel
theorem dX0_meanSold_10 : decode cX0_meanSold 10 = .ok (.iload_n 3, 1) := by decide +kernel
theorem dX0_meanSold_11 : decode cX0_meanSold 11 = .ok (.i2l, 1) := by decide +kernel
theorem dX0_meanSold_12 : decode cX0_meanSold 12 = .ok (.aload_n 0, 1) := by decide +kernel
theorem dX0_meanSold_13 : decode cX0_meanSold 13 = .ok (.getfield 16, 3) := by decide +kernel
theorem dX0_meanSold_16 : decode cX0_meanSold 16 = .ok (.iload_n 3, 1) := by decide +kernel
theorem dX0_meanSold_17 : decode cX0_meanSold 17 = .ok (.laload, 1) := by decide +kernel
theorem dX0_meanSold_18 : decode cX0_meanSold 18 = .ok (.lmul, 1) := by decide +kernel
theorem dX0_meanSold_19 : decode cX0_meanSold 19 = .ok (.ladd, 1) := by decide +kernel
theorem dX0_meanSold_20 : decode cX0_meanSold 20 = .ok (.lstore_n 1, 1) := by decide +kernel
theorem dX0_meanSold_21 : decode cX0_meanSold 21 = .ok (.iinc 3 1, 3) := by decide +kernel
theorem dX0_meanSold_24 : decode cX0_meanSold 24 = .ok (.goto (-20), 3) := by decide +kernel
theorem dX0_meanSold_27 : decode cX0_meanSold 27 = .ok (.lload_n 1, 1) := by decide +kernel
theorem dX0_meanSold_28 : decode cX0_meanSold 28 = .ok (.lreturn, 1) := by decide +kernel
theorem dX0_sell_0 : decode cX0_sell 0 = .ok (.iconst 0, 1) := by decide +kernel
theorem dX0_sell_1 : decode cX0_sell 1 = .ok (.istore 6, 2) := by decide +kernel
theorem dX0_sell_3 : decode cX0_sell 3 = .ok (.iload 6, 2) := by decide +kernel
theorem dX0_sell_5 : decode cX0_sell 5 = .ok (.iconst 5, 1) := by decide +kernel
theorem dX0_sell_6 : decode cX0_sell 6 = .ok (.if_icmp .ge 28, 3) := by decide +kernel
theorem dX0_sell_9 : decode cX0_sell 9 = .ok (.aload_n 0, 1) := by decide +kernel
theorem dX0_sell_10 : decode cX0_sell 10 = .ok (.getfield 16, 3) := by decide +kernel
theorem dX0_sell_13 : decode cX0_sell 13 = .ok (.iload 6, 2) := by decide +kernel
theorem dX0_sell_15 : decode cX0_sell 15 = .ok (.iload 6, 2) := by decide +kernel
theorem dX0_sell_17 : decode cX0_sell 17 = .ok (.ifCond .ne 9, 3) := by decide +kernel
theorem dX0_sell_20 : decode cX0_sell 20 = .ok (.ldc2_w 41, 3) := by decide +kernel
theorem dX0_sell_23 : decode cX0_sell 23 = .ok (.goto 4, 3) := by decide +kernel
theorem dX0_sell_26 : decode cX0_sell 26 = .ok (.lconst 0, 1) := by decide +kernel
theorem dX0_sell_27 : decode cX0_sell 27 = .ok (.lastore, 1) := by decide +kernel
theorem dX0_sell_28 : decode cX0_sell 28 = .ok (.iinc 6 1, 3) := by decide +kernel
theorem dX0_sell_31 : decode cX0_sell 31 = .ok (.goto (-28), 3) := by decide +kernel
theorem dX0_sell_34 : decode cX0_sell 34 = .ok (.iconst 0, 1) := by decide +kernel
theorem dX0_sell_35 : decode cX0_sell 35 = .ok (.istore 6, 2) := by decide +kernel
theorem dX0_sell_37 : decode cX0_sell 37 = .ok (.iload 6, 2) := by decide +kernel
theorem dX0_sell_39 : decode cX0_sell 39 = .ok (.iload 5, 2) := by decide +kernel
theorem dX0_sell_41 : decode cX0_sell 41 = .ok (.if_icmp .ge 84, 3) := by decide +kernel
theorem dX0_sell_44 : decode cX0_sell 44 = .ok (.aload_n 0, 1) := by decide +kernel
theorem dX0_sell_45 : decode cX0_sell 45 = .ok (.getfield 24, 3) := by decide +kernel
theorem dX0_sell_48 : decode cX0_sell 48 = .ok (.aload 4, 2) := by decide +kernel
theorem dX0_sell_50 : decode cX0_sell 50 = .ok (.iload 6, 2) := by decide +kernel
theorem dX0_sell_52 : decode cX0_sell 52 = .ok (.iaload, 1) := by decide +kernel
theorem dX0_sell_53 : decode cX0_sell 53 = .ok (.iload_n 1, 1) := by decide +kernel
theorem dX0_sell_54 : decode cX0_sell 54 = .ok (.iload_n 3, 1) := by decide +kernel
theorem dX0_sell_55 : decode cX0_sell 55 = .ok (.invokevirtual 51, 3) := by decide +kernel
theorem dX0_sell_58 : decode cX0_sell 58 = .ok (.i2l, 1) := by decide +kernel
theorem dX0_sell_59 : decode cX0_sell 59 = .ok (.lstore 7, 2) := by decide +kernel
theorem dX0_sell_61 : decode cX0_sell 61 = .ok (.iload_n 2, 1) := by decide +kernel
theorem dX0_sell_62 : decode cX0_sell 62 = .ok (.iconst 1, 1) := by decide +kernel
theorem dX0_sell_63 : decode cX0_sell 63 = .ok (.isub, 1) := by decide +kernel
theorem dX0_sell_64 : decode cX0_sell 64 = .ok (.istore 9, 2) := by decide +kernel
theorem dX0_sell_66 : decode cX0_sell 66 = .ok (.iload 9, 2) := by decide +kernel
theorem dX0_sell_68 : decode cX0_sell 68 = .ok (.ifCond .lt 51, 3) := by decide +kernel
theorem dX0_sell_71 : decode cX0_sell 71 = .ok (.aload_n 0, 1) := by decide +kernel
theorem dX0_sell_72 : decode cX0_sell 72 = .ok (.getfield 16, 3) := by decide +kernel
theorem dX0_sell_75 : decode cX0_sell 75 = .ok (.iload 9, 2) := by decide +kernel
theorem dX0_sell_77 : decode cX0_sell 77 = .ok (.laload, 1) := by decide +kernel
theorem dX0_sell_78 : decode cX0_sell 78 = .ok (.lload 7, 2) := by decide +kernel
theorem dX0_sell_80 : decode cX0_sell 80 = .ok (.lmul, 1) := by decide +kernel
theorem dX0_sell_81 : decode cX0_sell 81 = .ok (.ldc2_w 57, 3) := by decide +kernel
theorem dX0_sell_84 : decode cX0_sell 84 = .ok (.ldiv, 1) := by decide +kernel
theorem dX0_sell_85 : decode cX0_sell 85 = .ok (.lstore 10, 2) := by decide +kernel
theorem dX0_sell_87 : decode cX0_sell 87 = .ok (.aload_n 0, 1) := by decide +kernel
theorem dX0_sell_88 : decode cX0_sell 88 = .ok (.getfield 16, 3) := by decide +kernel
theorem dX0_sell_91 : decode cX0_sell 91 = .ok (.iload 9, 2) := by decide +kernel
theorem dX0_sell_93 : decode cX0_sell 93 = .ok (.iconst 1, 1) := by decide +kernel
theorem dX0_sell_94 : decode cX0_sell 94 = .ok (.iadd, 1) := by decide +kernel
theorem dX0_sell_95 : decode cX0_sell 95 = .ok (.dup2, 1) := by decide +kernel
theorem dX0_sell_96 : decode cX0_sell 96 = .ok (.laload, 1) := by decide +kernel
theorem dX0_sell_97 : decode cX0_sell 97 = .ok (.lload 10, 2) := by decide +kernel
theorem dX0_sell_99 : decode cX0_sell 99 = .ok (.ladd, 1) := by decide +kernel
theorem dX0_sell_100 : decode cX0_sell 100 = .ok (.lastore, 1) := by decide +kernel
theorem dX0_sell_101 : decode cX0_sell 101 = .ok (.aload_n 0, 1) := by decide +kernel
theorem dX0_sell_102 : decode cX0_sell 102 = .ok (.getfield 16, 3) := by decide +kernel
theorem dX0_sell_105 : decode cX0_sell 105 = .ok (.iload 9, 2) := by decide +kernel
theorem dX0_sell_107 : decode cX0_sell 107 = .ok (.dup2, 1) := by decide +kernel
theorem dX0_sell_108 : decode cX0_sell 108 = .ok (.laload, 1) := by decide +kernel
theorem dX0_sell_109 : decode cX0_sell 109 = .ok (.lload 10, 2) := by decide +kernel
theorem dX0_sell_111 : decode cX0_sell 111 = .ok (.lsub, 1) := by decide +kernel
theorem dX0_sell_112 : decode cX0_sell 112 = .ok (.lastore, 1) := by decide +kernel
theorem dX0_sell_113 : decode cX0_sell 113 = .ok (.iinc 9 (-1), 3) := by decide +kernel
theorem dX0_sell_116 : decode cX0_sell 116 = .ok (.goto (-50), 3) := by decide +kernel
theorem dX0_sell_119 : decode cX0_sell 119 = .ok (.iinc 6 1, 3) := by decide +kernel
theorem dX0_sell_122 : decode cX0_sell 122 = .ok (.goto (-85), 3) := by decide +kernel
theorem dX0_sell_125 : decode cX0_sell 125 = .ok (.return_, 1) := by decide +kernel
theorem dX8_within_0 : decode cX8_within 0 = .ok (.iload_n 0, 1) := by decide +kernel
theorem dX8_within_1 : decode cX8_within 1 = .ok (.iload_n 1, 1) := by decide +kernel
theorem dX8_within_2 : decode cX8_within 2 = .ok (.if_icmp .lt 12, 3) := by decide +kernel
theorem dX8_within_5 : decode cX8_within 5 = .ok (.iload_n 0, 1) := by decide +kernel
theorem dX8_within_6 : decode cX8_within 6 = .ok (.iload_n 2, 1) := by decide +kernel
theorem dX8_within_7 : decode cX8_within 7 = .ok (.if_icmp .gt 7, 3) := by decide +kernel
theorem dX8_within_10 : decode cX8_within 10 = .ok (.iconst 1, 1) := by decide +kernel
theorem dX8_within_11 : decode cX8_within 11 = .ok (.goto 4, 3) := by decide +kernel
theorem dX8_within_14 : decode cX8_within 14 = .ok (.iconst 0, 1) := by decide +kernel
theorem dX8_within_15 : decode cX8_within 15 = .ok (.ireturn, 1) := by decide +kernel
theorem dX1_mayBe_0 : decode cX1_mayBe 0 = .ok (.iload_n 2, 1) := by decide +kernel
theorem dX1_mayBe_1 : decode cX1_mayBe 1 = .ok (.iconst 1, 1) := by decide +kernel
theorem dX1_mayBe_2 : decode cX1_mayBe 2 = .ok (.if_icmp .ne 11, 3) := by decide +kernel
theorem dX1_mayBe_5 : decode cX1_mayBe 5 = .ok (.iload_n 3, 1) := by decide +kernel
theorem dX1_mayBe_6 : decode cX1_mayBe 6 = .ok (.iconst 1, 1) := by decide +kernel
theorem dX1_mayBe_7 : decode cX1_mayBe 7 = .ok (.bipush 20, 2) := by decide +kernel
theorem dX1_mayBe_9 : decode cX1_mayBe 9 = .ok (.invokestatic 16, 3) := by decide +kernel
theorem dX1_mayBe_12 : decode cX1_mayBe 12 = .ok (.ireturn, 1) := by decide +kernel
theorem dX1_mayBe_13 : decode cX1_mayBe 13 = .ok (.iload_n 2, 1) := by decide +kernel
theorem dX1_mayBe_14 : decode cX1_mayBe 14 = .ok (.iconst 3, 1) := by decide +kernel
theorem dX1_mayBe_15 : decode cX1_mayBe 15 = .ok (.if_icmp .le 16, 3) := by decide +kernel
theorem dX1_mayBe_18 : decode cX1_mayBe 18 = .ok (.aload_n 0, 1) := by decide +kernel
theorem dX1_mayBe_19 : decode cX1_mayBe 19 = .ok (.getfield 11, 3) := by decide +kernel
theorem dX1_mayBe_22 : decode cX1_mayBe 22 = .ok (.iload_n 1, 1) := by decide +kernel
theorem dX1_mayBe_23 : decode cX1_mayBe 23 = .ok (.aaload, 1) := by decide +kernel
theorem dX1_mayBe_24 : decode cX1_mayBe 24 = .ok (.iload_n 2, 1) := by decide +kernel
theorem dX1_mayBe_25 : decode cX1_mayBe 25 = .ok (.iconst 1, 1) := by decide +kernel
theorem dX1_mayBe_26 : decode cX1_mayBe 26 = .ok (.isub, 1) := by decide +kernel
theorem dX1_mayBe_27 : decode cX1_mayBe 27 = .ok (.iaload, 1) := by decide +kernel
theorem dX1_mayBe_28 : decode cX1_mayBe 28 = .ok (.goto 4, 3) := by decide +kernel
theorem dX1_mayBe_31 : decode cX1_mayBe 31 = .ok (.iconst 0, 1) := by decide +kernel
theorem dX1_mayBe_32 : decode cX1_mayBe 32 = .ok (.istore 4, 2) := by decide +kernel
theorem dX1_mayBe_34 : decode cX1_mayBe 34 = .ok (.iload_n 2, 1) := by decide +kernel
theorem dX1_mayBe_35 : decode cX1_mayBe 35 = .ok (.iconst 3, 1) := by decide +kernel
theorem dX1_mayBe_36 : decode cX1_mayBe 36 = .ok (.if_icmp .lt 21, 3) := by decide +kernel
theorem dX1_mayBe_39 : decode cX1_mayBe 39 = .ok (.iload_n 2, 1) := by decide +kernel
theorem dX1_mayBe_40 : decode cX1_mayBe 40 = .ok (.iconst 5, 1) := by decide +kernel
theorem dX1_mayBe_41 : decode cX1_mayBe 41 = .ok (.if_icmp .ge 16, 3) := by decide +kernel
theorem dX1_mayBe_44 : decode cX1_mayBe 44 = .ok (.aload_n 0, 1) := by decide +kernel
theorem dX1_mayBe_45 : decode cX1_mayBe 45 = .ok (.getfield 11, 3) := by decide +kernel
theorem dX1_mayBe_48 : decode cX1_mayBe 48 = .ok (.iload_n 1, 1) := by decide +kernel
theorem dX1_mayBe_49 : decode cX1_mayBe 49 = .ok (.aaload, 1) := by decide +kernel
theorem dX1_mayBe_50 : decode cX1_mayBe 50 = .ok (.iload_n 2, 1) := by decide +kernel
theorem dX1_mayBe_51 : decode cX1_mayBe 51 = .ok (.iconst 1, 1) := by decide +kernel
theorem dX1_mayBe_52 : decode cX1_mayBe 52 = .ok (.iadd, 1) := by decide +kernel
theorem dX1_mayBe_53 : decode cX1_mayBe 53 = .ok (.iaload, 1) := by decide +kernel
theorem dX1_mayBe_54 : decode cX1_mayBe 54 = .ok (.goto 5, 3) := by decide +kernel
theorem dX1_mayBe_57 : decode cX1_mayBe 57 = .ok (.bipush 99, 2) := by decide +kernel
theorem dX1_mayBe_59 : decode cX1_mayBe 59 = .ok (.istore 5, 2) := by decide +kernel
theorem dX1_mayBe_61 : decode cX1_mayBe 61 = .ok (.iload_n 3, 1) := by decide +kernel
theorem dX1_mayBe_62 : decode cX1_mayBe 62 = .ok (.iload 4, 2) := by decide +kernel
theorem dX1_mayBe_64 : decode cX1_mayBe 64 = .ok (.iload 5, 2) := by decide +kernel
theorem dX1_mayBe_66 : decode cX1_mayBe 66 = .ok (.invokestatic 16, 3) := by decide +kernel
theorem dX1_mayBe_69 : decode cX1_mayBe 69 = .ok (.ireturn, 1) := by decide +kernel
theorem dX1_weightOf_0 : decode cX1_weightOf 0 = .ok (.iconst 0, 1) := by decide +kernel
theorem dX1_weightOf_1 : decode cX1_weightOf 1 = .ok (.istore_n 2, 1) := by decide +kernel
theorem dX1_weightOf_2 : decode cX1_weightOf 2 = .ok (.iconst 0, 1) := by decide +kernel
theorem dX1_weightOf_3 : decode cX1_weightOf 3 = .ok (.istore_n 3, 1) := by decide +kernel
theorem dX1_weightOf_4 : decode cX1_weightOf 4 = .ok (.iload_n 3, 1) := by decide +kernel
theorem dX1_weightOf_5 : decode cX1_weightOf 5 = .ok (.bipush 6, 2) := by decide +kernel
theorem dX1_weightOf_7 : decode cX1_weightOf 7 = .ok (.if_icmp .ge 24, 3) := by decide +kernel
theorem dX1_weightOf_10 : decode cX1_weightOf 10 = .ok (.iload_n 2, 1) := by decide +kernel
theorem dX1_weightOf_11 : decode cX1_weightOf 11 = .ok (.aload_n 1, 1) := by decide +kernel
theorem dX1_weightOf_12 : decode cX1_weightOf 12 = .ok (.iload_n 3, 1) := by decide +kernel
theorem dX1_weightOf_13 : decode cX1_weightOf 13 = .ok (.iaload, 1) := by decide +kernel
theorem dX1_weightOf_14 : decode cX1_weightOf 14 = .ok (.aload_n 0, 1) := by decide +kernel
theorem dX1_weightOf_15 : decode cX1_weightOf 15 = .ok (.getfield 11, 3) := by decide +kernel
theorem dX1_weightOf_18 : decode cX1_weightOf 18 = .ok (.iload_n 3, 1) := by decide +kernel
theorem dX1_weightOf_19 : decode cX1_weightOf 19 = .ok (.aaload, 1) := by decide +kernel
theorem dX1_weightOf_20 : decode cX1_weightOf 20 = .ok (.iconst 1, 1) := by decide +kernel
theorem dX1_weightOf_21 : decode cX1_weightOf 21 = .ok (.iaload, 1) := by decide +kernel
theorem dX1_weightOf_22 : decode cX1_weightOf 22 = .ok (.imul, 1) := by decide +kernel
theorem dX1_weightOf_23 : decode cX1_weightOf 23 = .ok (.iadd, 1) := by decide +kernel
theorem dX1_weightOf_24 : decode cX1_weightOf 24 = .ok (.istore_n 2, 1) := by decide +kernel
theorem dX1_weightOf_25 : decode cX1_weightOf 25 = .ok (.iinc 3 1, 3) := by decide +kernel
theorem dX1_weightOf_28 : decode cX1_weightOf 28 = .ok (.goto (-24), 3) := by decide +kernel
theorem dX1_weightOf_31 : decode cX1_weightOf 31 = .ok (.iload_n 2, 1) := by decide +kernel
theorem dX1_weightOf_32 : decode cX1_weightOf 32 = .ok (.ireturn, 1) := by decide +kernel
theorem dX2_findWays_0 : decode cX2_findWays 0 = .ok (.iconst 0, 1) := by decide +kernel
theorem dX2_findWays_1 : decode cX2_findWays 1 = .ok (.istore_n 1, 1) := by decide +kernel
theorem dX2_findWays_2 : decode cX2_findWays 2 = .ok (.iload_n 1, 1) := by decide +kernel
theorem dX2_findWays_3 : decode cX2_findWays 3 = .ok (.bipush 8, 2) := by decide +kernel
theorem dX2_findWays_5 : decode cX2_findWays 5 = .ok (.if_icmp .ge 65, 3) := by decide +kernel
theorem dX2_findWays_8 : decode cX2_findWays 8 = .ok (.iconst 0, 1) := by decide +kernel
theorem dX2_findWays_9 : decode cX2_findWays 9 = .ok (.istore_n 2, 1) := by decide +kernel
theorem dX2_findWays_10 : decode cX2_findWays 10 = .ok (.iload_n 2, 1) := by decide +kernel
theorem dX2_findWays_11 : decode cX2_findWays 11 = .ok (.bipush 8, 2) := by decide +kernel
theorem dX2_findWays_13 : decode cX2_findWays 13 = .ok (.if_icmp .ge 51, 3) := by decide +kernel
theorem dX2_findWays_16 : decode cX2_findWays 16 = .ok (.aload_n 0, 1) := by decide +kernel
theorem dX2_findWays_17 : decode cX2_findWays 17 = .ok (.getfield 16, 3) := by decide +kernel
theorem dX2_findWays_20 : decode cX2_findWays 20 = .ok (.iload_n 1, 1) := by decide +kernel
theorem dX2_findWays_21 : decode cX2_findWays 21 = .ok (.aaload, 1) := by decide +kernel
theorem dX2_findWays_22 : decode cX2_findWays 22 = .ok (.iload_n 2, 1) := by decide +kernel
theorem dX2_findWays_23 : decode cX2_findWays 23 = .ok (.iload_n 1, 1) := by decide +kernel
theorem dX2_findWays_24 : decode cX2_findWays 24 = .ok (.iload_n 2, 1) := by decide +kernel
theorem dX2_findWays_25 : decode cX2_findWays 25 = .ok (.if_icmp .ne 7, 3) := by decide +kernel
theorem dX2_findWays_28 : decode cX2_findWays 28 = .ok (.iconst 0, 1) := by decide +kernel
theorem dX2_findWays_29 : decode cX2_findWays 29 = .ok (.goto 28, 3) := by decide +kernel
theorem dX2_findWays_32 : decode cX2_findWays 32 = .ok (.aload_n 0, 1) := by decide +kernel
theorem dX2_findWays_33 : decode cX2_findWays 33 = .ok (.getfield 11, 3) := by decide +kernel
theorem dX2_findWays_36 : decode cX2_findWays 36 = .ok (.iload_n 1, 1) := by decide +kernel
theorem dX2_findWays_37 : decode cX2_findWays 37 = .ok (.aaload, 1) := by decide +kernel
theorem dX2_findWays_38 : decode cX2_findWays 38 = .ok (.iload_n 2, 1) := by decide +kernel
theorem dX2_findWays_39 : decode cX2_findWays 39 = .ok (.iaload, 1) := by decide +kernel
theorem dX2_findWays_40 : decode cX2_findWays 40 = .ok (.ifCond .le 14, 3) := by decide +kernel
theorem dX2_findWays_43 : decode cX2_findWays 43 = .ok (.aload_n 0, 1) := by decide +kernel
theorem dX2_findWays_44 : decode cX2_findWays 44 = .ok (.getfield 11, 3) := by decide +kernel
theorem dX2_findWays_47 : decode cX2_findWays 47 = .ok (.iload_n 1, 1) := by decide +kernel
theorem dX2_findWays_48 : decode cX2_findWays 48 = .ok (.aaload, 1) := by decide +kernel
theorem dX2_findWays_49 : decode cX2_findWays 49 = .ok (.iload_n 2, 1) := by decide +kernel
theorem dX2_findWays_50 : decode cX2_findWays 50 = .ok (.iaload, 1) := by decide +kernel
theorem dX2_findWays_51 : decode cX2_findWays 51 = .ok (.goto 6, 3) := by decide +kernel
theorem dX2_findWays_54 : decode cX2_findWays 54 = .ok (.sipush 1000, 3) := by decide +kernel
theorem dX2_findWays_57 : decode cX2_findWays 57 = .ok (.iastore, 1) := by decide +kernel
theorem dX2_findWays_58 : decode cX2_findWays 58 = .ok (.iinc 2 1, 3) := by decide +kernel
theorem dX2_findWays_61 : decode cX2_findWays 61 = .ok (.goto (-51), 3) := by decide +kernel
theorem dX2_findWays_64 : decode cX2_findWays 64 = .ok (.iinc 1 1, 3) := by decide +kernel
theorem dX2_findWays_67 : decode cX2_findWays 67 = .ok (.goto (-65), 3) := by decide +kernel
theorem dX2_findWays_70 : decode cX2_findWays 70 = .ok (.iconst 0, 1) := by decide +kernel
theorem dX2_findWays_71 : decode cX2_findWays 71 = .ok (.istore_n 1, 1) := by decide +kernel
theorem dX2_findWays_72 : decode cX2_findWays 72 = .ok (.iload_n 1, 1) := by decide +kernel
theorem dX2_findWays_73 : decode cX2_findWays 73 = .ok (.bipush 8, 2) := by decide +kernel
theorem dX2_findWays_75 : decode cX2_findWays 75 = .ok (.if_icmp .ge 73, 3) := by decide +kernel
theorem dX2_findWays_78 : decode cX2_findWays 78 = .ok (.iconst 0, 1) := by decide +kernel
theorem dX2_findWays_79 : decode cX2_findWays 79 = .ok (.istore_n 2, 1) := by decide +kernel
theorem dX2_findWays_80 : decode cX2_findWays 80 = .ok (.iload_n 2, 1) := by decide +kernel
theorem dX2_findWays_81 : decode cX2_findWays 81 = .ok (.bipush 8, 2) := by decide +kernel
theorem dX2_findWays_83 : decode cX2_findWays 83 = .ok (.if_icmp .ge 59, 3) := by decide +kernel
theorem dX2_findWays_86 : decode cX2_findWays 86 = .ok (.iconst 0, 1) := by decide +kernel
theorem dX2_findWays_87 : decode cX2_findWays 87 = .ok (.istore_n 3, 1) := by decide +kernel
theorem dX2_findWays_88 : decode cX2_findWays 88 = .ok (.iload_n 3, 1) := by decide +kernel
theorem dX2_findWays_89 : decode cX2_findWays 89 = .ok (.bipush 8, 2) := by decide +kernel
theorem dX2_findWays_91 : decode cX2_findWays 91 = .ok (.if_icmp .ge 45, 3) := by decide +kernel
theorem dX2_findWays_94 : decode cX2_findWays 94 = .ok (.aload_n 0, 1) := by decide +kernel
theorem dX2_findWays_95 : decode cX2_findWays 95 = .ok (.getfield 16, 3) := by decide +kernel
theorem dX2_findWays_98 : decode cX2_findWays 98 = .ok (.iload_n 2, 1) := by decide +kernel
theorem dX2_findWays_99 : decode cX2_findWays 99 = .ok (.aaload, 1) := by decide +kernel
theorem dX2_findWays_100 : decode cX2_findWays 100 = .ok (.iload_n 3, 1) := by decide +kernel
theorem dX2_findWays_101 : decode cX2_findWays 101 = .ok (.aload_n 0, 1) := by decide +kernel
theorem dX2_findWays_102 : decode cX2_findWays 102 = .ok (.getfield 16, 3) := by decide +kernel
theorem dX2_findWays_105 : decode cX2_findWays 105 = .ok (.iload_n 2, 1) := by decide +kernel
theorem dX2_findWays_106 : decode cX2_findWays 106 = .ok (.aaload, 1) := by decide +kernel
theorem dX2_findWays_107 : decode cX2_findWays 107 = .ok (.iload_n 3, 1) := by decide +kernel
theorem dX2_findWays_108 : decode cX2_findWays 108 = .ok (.iaload, 1) := by decide +kernel
theorem dX2_findWays_109 : decode cX2_findWays 109 = .ok (.aload_n 0, 1) := by decide +kernel
theorem dX2_findWays_110 : decode cX2_findWays 110 = .ok (.getfield 16, 3) := by decide +kernel
theorem dX2_findWays_113 : decode cX2_findWays 113 = .ok (.iload_n 2, 1) := by decide +kernel
theorem dX2_findWays_114 : decode cX2_findWays 114 = .ok (.aaload, 1) := by decide +kernel
theorem dX2_findWays_115 : decode cX2_findWays 115 = .ok (.iload_n 1, 1) := by decide +kernel
theorem dX2_findWays_116 : decode cX2_findWays 116 = .ok (.iaload, 1) := by decide +kernel
theorem dX2_findWays_117 : decode cX2_findWays 117 = .ok (.aload_n 0, 1) := by decide +kernel
theorem dX2_findWays_118 : decode cX2_findWays 118 = .ok (.getfield 16, 3) := by decide +kernel
theorem dX2_findWays_121 : decode cX2_findWays 121 = .ok (.iload_n 1, 1) := by decide +kernel
theorem dX2_findWays_122 : decode cX2_findWays 122 = .ok (.aaload, 1) := by decide +kernel
theorem dX2_findWays_123 : decode cX2_findWays 123 = .ok (.iload_n 3, 1) := by decide +kernel
theorem dX2_findWays_124 : decode cX2_findWays 124 = .ok (.iaload, 1) := by decide +kernel
theorem dX2_findWays_125 : decode cX2_findWays 125 = .ok (.iadd, 1) := by decide +kernel
theorem dX2_findWays_126 : decode cX2_findWays 126 = .ok (.invokestatic 22, 3) := by decide +kernel
theorem dX2_findWays_129 : decode cX2_findWays 129 = .ok (.iastore, 1) := by decide +kernel
theorem dX2_findWays_130 : decode cX2_findWays 130 = .ok (.iinc 3 1, 3) := by decide +kernel
theorem dX2_findWays_133 : decode cX2_findWays 133 = .ok (.goto (-45), 3) := by decide +kernel
theorem dX2_findWays_136 : decode cX2_findWays 136 = .ok (.iinc 2 1, 3) := by decide +kernel
theorem dX2_findWays_139 : decode cX2_findWays 139 = .ok (.goto (-59), 3) := by decide +kernel
theorem dX2_findWays_142 : decode cX2_findWays 142 = .ok (.iinc 1 1, 3) := by decide +kernel
theorem dX2_findWays_145 : decode cX2_findWays 145 = .ok (.goto (-73), 3) := by decide +kernel
theorem dX2_findWays_148 : decode cX2_findWays 148 = .ok (.return_, 1) := by decide +kernel
theorem dX2_build_0 : decode cX2_build 0 = .ok (.aload_n 0, 1) := by decide +kernel
theorem dX2_build_1 : decode cX2_build 1 = .ok (.getfield 11, 3) := by decide +kernel
theorem dX2_build_4 : decode cX2_build 4 = .ok (.iload_n 1, 1) := by decide +kernel
theorem dX2_build_5 : decode cX2_build 5 = .ok (.aaload, 1) := by decide +kernel
theorem dX2_build_6 : decode cX2_build 6 = .ok (.iload_n 2, 1) := by decide +kernel
theorem dX2_build_7 : decode cX2_build 7 = .ok (.iload_n 3, 1) := by decide +kernel
theorem dX2_build_8 : decode cX2_build 8 = .ok (.iastore, 1) := by decide +kernel
theorem dX2_build_9 : decode cX2_build 9 = .ok (.aload_n 0, 1) := by decide +kernel
theorem dX2_build_10 : decode cX2_build 10 = .ok (.getfield 11, 3) := by decide +kernel
theorem dX2_build_13 : decode cX2_build 13 = .ok (.iload_n 2, 1) := by decide +kernel
theorem dX2_build_14 : decode cX2_build 14 = .ok (.aaload, 1) := by decide +kernel
theorem dX2_build_15 : decode cX2_build 15 = .ok (.iload_n 1, 1) := by decide +kernel
theorem dX2_build_16 : decode cX2_build 16 = .ok (.iload_n 3, 1) := by decide +kernel
theorem dX2_build_17 : decode cX2_build 17 = .ok (.iastore, 1) := by decide +kernel
theorem dX2_build_18 : decode cX2_build 18 = .ok (.aload_n 0, 1) := by decide +kernel
theorem dX2_build_19 : decode cX2_build 19 = .ok (.invokevirtual 19, 3) := by decide +kernel
theorem dX2_build_22 : decode cX2_build 22 = .ok (.return_, 1) := by decide +kernel
theorem dX2_countRoads_0 : decode cX2_countRoads 0 = .ok (.iconst 0, 1) := by decide +kernel
theorem dX2_countRoads_1 : decode cX2_countRoads 1 = .ok (.istore_n 1, 1) := by decide +kernel
theorem dX2_countRoads_2 : decode cX2_countRoads 2 = .ok (.iconst 0, 1) := by decide +kernel
theorem dX2_countRoads_3 : decode cX2_countRoads 3 = .ok (.istore_n 2, 1) := by decide +kernel
theorem dX2_countRoads_4 : decode cX2_countRoads 4 = .ok (.iload_n 2, 1) := by decide +kernel
theorem dX2_countRoads_5 : decode cX2_countRoads 5 = .ok (.bipush 8, 2) := by decide +kernel
theorem dX2_countRoads_7 : decode cX2_countRoads 7 = .ok (.if_icmp .ge 41, 3) := by decide +kernel
theorem dX2_countRoads_10 : decode cX2_countRoads 10 = .ok (.iconst 0, 1) := by decide +kernel
theorem dX2_countRoads_11 : decode cX2_countRoads 11 = .ok (.istore_n 3, 1) := by decide +kernel
theorem dX2_countRoads_12 : decode cX2_countRoads 12 = .ok (.iload_n 3, 1) := by decide +kernel
theorem dX2_countRoads_13 : decode cX2_countRoads 13 = .ok (.iload_n 2, 1) := by decide +kernel
theorem dX2_countRoads_14 : decode cX2_countRoads 14 = .ok (.if_icmp .ge 28, 3) := by decide +kernel
theorem dX2_countRoads_17 : decode cX2_countRoads 17 = .ok (.iload_n 1, 1) := by decide +kernel
theorem dX2_countRoads_18 : decode cX2_countRoads 18 = .ok (.aload_n 0, 1) := by decide +kernel
theorem dX2_countRoads_19 : decode cX2_countRoads 19 = .ok (.getfield 11, 3) := by decide +kernel
theorem dX2_countRoads_22 : decode cX2_countRoads 22 = .ok (.iload_n 2, 1) := by decide +kernel
theorem dX2_countRoads_23 : decode cX2_countRoads 23 = .ok (.aaload, 1) := by decide +kernel
theorem dX2_countRoads_24 : decode cX2_countRoads 24 = .ok (.iload_n 3, 1) := by decide +kernel
theorem dX2_countRoads_25 : decode cX2_countRoads 25 = .ok (.iaload, 1) := by decide +kernel
theorem dX2_countRoads_26 : decode cX2_countRoads 26 = .ok (.ifCond .le 7, 3) := by decide +kernel
theorem dX2_countRoads_29 : decode cX2_countRoads 29 = .ok (.iconst 1, 1) := by decide +kernel
theorem dX2_countRoads_30 : decode cX2_countRoads 30 = .ok (.goto 4, 3) := by decide +kernel
theorem dX2_countRoads_33 : decode cX2_countRoads 33 = .ok (.iconst 0, 1) := by decide +kernel
theorem dX2_countRoads_34 : decode cX2_countRoads 34 = .ok (.iadd, 1) := by decide +kernel
theorem dX2_countRoads_35 : decode cX2_countRoads 35 = .ok (.istore_n 1, 1) := by decide +kernel
theorem dX2_countRoads_36 : decode cX2_countRoads 36 = .ok (.iinc 3 1, 3) := by decide +kernel
theorem dX2_countRoads_39 : decode cX2_countRoads 39 = .ok (.goto (-27), 3) := by decide +kernel
theorem dX2_countRoads_42 : decode cX2_countRoads 42 = .ok (.iinc 2 1, 3) := by decide +kernel
theorem dX2_countRoads_45 : decode cX2_countRoads 45 = .ok (.goto (-41), 3) := by decide +kernel
theorem dX2_countRoads_48 : decode cX2_countRoads 48 = .ok (.iload_n 1, 1) := by decide +kernel
theorem dX2_countRoads_49 : decode cX2_countRoads 49 = .ok (.ireturn, 1) := by decide +kernel
theorem dX2_hoursOf_0 : decode cX2_hoursOf 0 = .ok (.iconst 0, 1) := by decide +kernel
theorem dX2_hoursOf_1 : decode cX2_hoursOf 1 = .ok (.istore_n 3, 1) := by decide +kernel
theorem dX2_hoursOf_2 : decode cX2_hoursOf 2 = .ok (.iconst 0, 1) := by decide +kernel
theorem dX2_hoursOf_3 : decode cX2_hoursOf 3 = .ok (.istore 4, 2) := by decide +kernel
theorem dX2_hoursOf_5 : decode cX2_hoursOf 5 = .ok (.iconst 0, 1) := by decide +kernel
theorem dX2_hoursOf_6 : decode cX2_hoursOf 6 = .ok (.istore 5, 2) := by decide +kernel
theorem dX2_hoursOf_8 : decode cX2_hoursOf 8 = .ok (.iload 5, 2) := by decide +kernel
theorem dX2_hoursOf_10 : decode cX2_hoursOf 10 = .ok (.iload_n 2, 1) := by decide +kernel
theorem dX2_hoursOf_11 : decode cX2_hoursOf 11 = .ok (.if_icmp .ge 30, 3) := by decide +kernel
theorem dX2_hoursOf_14 : decode cX2_hoursOf 14 = .ok (.iload_n 3, 1) := by decide +kernel
theorem dX2_hoursOf_15 : decode cX2_hoursOf 15 = .ok (.aload_n 0, 1) := by decide +kernel
theorem dX2_hoursOf_16 : decode cX2_hoursOf 16 = .ok (.getfield 16, 3) := by decide +kernel
theorem dX2_hoursOf_19 : decode cX2_hoursOf 19 = .ok (.iload 4, 2) := by decide +kernel
theorem dX2_hoursOf_21 : decode cX2_hoursOf 21 = .ok (.aaload, 1) := by decide +kernel
theorem dX2_hoursOf_22 : decode cX2_hoursOf 22 = .ok (.aload_n 1, 1) := by decide +kernel
theorem dX2_hoursOf_23 : decode cX2_hoursOf 23 = .ok (.iload 5, 2) := by decide +kernel
theorem dX2_hoursOf_25 : decode cX2_hoursOf 25 = .ok (.iaload, 1) := by decide +kernel
theorem dX2_hoursOf_26 : decode cX2_hoursOf 26 = .ok (.iaload, 1) := by decide +kernel
theorem dX2_hoursOf_27 : decode cX2_hoursOf 27 = .ok (.iadd, 1) := by decide +kernel
theorem dX2_hoursOf_28 : decode cX2_hoursOf 28 = .ok (.istore_n 3, 1) := by decide +kernel
theorem dX2_hoursOf_29 : decode cX2_hoursOf 29 = .ok (.aload_n 1, 1) := by decide +kernel
theorem dX2_hoursOf_30 : decode cX2_hoursOf 30 = .ok (.iload 5, 2) := by decide +kernel
theorem dX2_hoursOf_32 : decode cX2_hoursOf 32 = .ok (.iaload, 1) := by decide +kernel
theorem dX2_hoursOf_33 : decode cX2_hoursOf 33 = .ok (.istore 4, 2) := by decide +kernel
theorem dX2_hoursOf_35 : decode cX2_hoursOf 35 = .ok (.iinc 5 1, 3) := by decide +kernel
theorem dX2_hoursOf_38 : decode cX2_hoursOf 38 = .ok (.goto (-30), 3) := by decide +kernel
theorem dX2_hoursOf_41 : decode cX2_hoursOf 41 = .ok (.iload_n 3, 1) := by decide +kernel
theorem dX2_hoursOf_42 : decode cX2_hoursOf 42 = .ok (.aload_n 0, 1) := by decide +kernel
theorem dX2_hoursOf_43 : decode cX2_hoursOf 43 = .ok (.getfield 16, 3) := by decide +kernel
theorem dX2_hoursOf_46 : decode cX2_hoursOf 46 = .ok (.iload 4, 2) := by decide +kernel
theorem dX2_hoursOf_48 : decode cX2_hoursOf 48 = .ok (.aaload, 1) := by decide +kernel
theorem dX2_hoursOf_49 : decode cX2_hoursOf 49 = .ok (.iconst 0, 1) := by decide +kernel
theorem dX2_hoursOf_50 : decode cX2_hoursOf 50 = .ok (.iaload, 1) := by decide +kernel
theorem dX2_hoursOf_51 : decode cX2_hoursOf 51 = .ok (.iadd, 1) := by decide +kernel
theorem dX2_hoursOf_52 : decode cX2_hoursOf 52 = .ok (.ireturn, 1) := by decide +kernel
theorem dX3_append_0 : decode cX3_append 0 = .ok (.aload_n 0, 1) := by decide +kernel
theorem dX3_append_1 : decode cX3_append 1 = .ok (.getfield 28, 3) := by decide +kernel
theorem dX3_append_4 : decode cX3_append 4 = .ok (.bipush 40, 2) := by decide +kernel
theorem dX3_append_6 : decode cX3_append 6 = .ok (.if_icmp .lt 5, 3) := by decide +kernel
theorem dX3_append_9 : decode cX3_append 9 = .ok (.iconst 0, 1) := by decide +kernel
theorem dX3_append_10 : decode cX3_append 10 = .ok (.ireturn, 1) := by decide +kernel
theorem dX3_append_11 : decode cX3_append 11 = .ok (.aload_n 0, 1) := by decide +kernel
theorem dX3_append_12 : decode cX3_append 12 = .ok (.getfield 9, 3) := by decide +kernel
theorem dX3_append_15 : decode cX3_append 15 = .ok (.aload_n 0, 1) := by decide +kernel
theorem dX3_append_16 : decode cX3_append 16 = .ok (.getfield 28, 3) := by decide +kernel
theorem dX3_append_19 : decode cX3_append 19 = .ok (.iload_n 1, 1) := by decide +kernel
theorem dX3_append_20 : decode cX3_append 20 = .ok (.iastore, 1) := by decide +kernel
theorem dX3_append_21 : decode cX3_append 21 = .ok (.aload_n 0, 1) := by decide +kernel
theorem dX3_append_22 : decode cX3_append 22 = .ok (.dup, 1) := by decide +kernel
theorem dX3_append_23 : decode cX3_append 23 = .ok (.getfield 28, 3) := by decide +kernel
theorem dX3_append_26 : decode cX3_append 26 = .ok (.iconst 1, 1) := by decide +kernel
theorem dX3_append_27 : decode cX3_append 27 = .ok (.iadd, 1) := by decide +kernel
theorem dX3_append_28 : decode cX3_append 28 = .ok (.putfield 28, 3) := by decide +kernel
theorem dX3_append_31 : decode cX3_append 31 = .ok (.iconst 1, 1) := by decide +kernel
theorem dX3_append_32 : decode cX3_append 32 = .ok (.ireturn, 1) := by decide +kernel
theorem dX3_figureAt_0 : decode cX3_figureAt 0 = .ok (.iload_n 1, 1) := by decide +kernel
theorem dX3_figureAt_1 : decode cX3_figureAt 1 = .ok (.aload_n 0, 1) := by decide +kernel
theorem dX3_figureAt_2 : decode cX3_figureAt 2 = .ok (.getfield 28, 3) := by decide +kernel
theorem dX3_figureAt_5 : decode cX3_figureAt 5 = .ok (.if_icmp .ge 31, 3) := by decide +kernel
theorem dX3_figureAt_8 : decode cX3_figureAt 8 = .ok (.aload_n 0, 1) := by decide +kernel
theorem dX3_figureAt_9 : decode cX3_figureAt 9 = .ok (.getfield 9, 3) := by decide +kernel
theorem dX3_figureAt_12 : decode cX3_figureAt 12 = .ok (.iload_n 1, 1) := by decide +kernel
theorem dX3_figureAt_13 : decode cX3_figureAt 13 = .ok (.iaload, 1) := by decide +kernel
theorem dX3_figureAt_14 : decode cX3_figureAt 14 = .ok (.bipush 48, 2) := by decide +kernel
theorem dX3_figureAt_16 : decode cX3_figureAt 16 = .ok (.bipush 57, 2) := by decide +kernel
theorem dX3_figureAt_18 : decode cX3_figureAt 18 = .ok (.invokestatic 58, 3) := by decide +kernel
theorem dX3_figureAt_21 : decode cX3_figureAt 21 = .ok (.ifCond .eq 15, 3) := by decide +kernel
theorem dX3_figureAt_24 : decode cX3_figureAt 24 = .ok (.aload_n 0, 1) := by decide +kernel
theorem dX3_figureAt_25 : decode cX3_figureAt 25 = .ok (.getfield 9, 3) := by decide +kernel
theorem dX3_figureAt_28 : decode cX3_figureAt 28 = .ok (.iload_n 1, 1) := by decide +kernel
theorem dX3_figureAt_29 : decode cX3_figureAt 29 = .ok (.iaload, 1) := by decide +kernel
theorem dX3_figureAt_30 : decode cX3_figureAt 30 = .ok (.bipush 48, 2) := by decide +kernel
theorem dX3_figureAt_32 : decode cX3_figureAt 32 = .ok (.isub, 1) := by decide +kernel
theorem dX3_figureAt_33 : decode cX3_figureAt 33 = .ok (.goto 4, 3) := by decide +kernel
theorem dX3_figureAt_36 : decode cX3_figureAt 36 = .ok (.iconst (-1), 1) := by decide +kernel
theorem dX3_figureAt_37 : decode cX3_figureAt 37 = .ok (.ireturn, 1) := by decide +kernel
theorem dX3_isAt_0 : decode cX3_isAt 0 = .ok (.iload_n 1, 1) := by decide +kernel
theorem dX3_isAt_1 : decode cX3_isAt 1 = .ok (.aload_n 0, 1) := by decide +kernel
theorem dX3_isAt_2 : decode cX3_isAt 2 = .ok (.getfield 28, 3) := by decide +kernel
theorem dX3_isAt_5 : decode cX3_isAt 5 = .ok (.if_icmp .ge 17, 3) := by decide +kernel
theorem dX3_isAt_8 : decode cX3_isAt 8 = .ok (.aload_n 0, 1) := by decide +kernel
theorem dX3_isAt_9 : decode cX3_isAt 9 = .ok (.getfield 9, 3) := by decide +kernel
theorem dX3_isAt_12 : decode cX3_isAt 12 = .ok (.iload_n 1, 1) := by decide +kernel
theorem dX3_isAt_13 : decode cX3_isAt 13 = .ok (.iaload, 1) := by decide +kernel
theorem dX3_isAt_14 : decode cX3_isAt 14 = .ok (.iload_n 2, 1) := by decide +kernel
theorem dX3_isAt_15 : decode cX3_isAt 15 = .ok (.if_icmp .ne 7, 3) := by decide +kernel
theorem dX3_isAt_18 : decode cX3_isAt 18 = .ok (.iconst 1, 1) := by decide +kernel
theorem dX3_isAt_19 : decode cX3_isAt 19 = .ok (.goto 4, 3) := by decide +kernel
theorem dX3_isAt_22 : decode cX3_isAt 22 = .ok (.iconst 0, 1) := by decide +kernel
theorem dX3_isAt_23 : decode cX3_isAt 23 = .ok (.ireturn, 1) := by decide +kernel
theorem dX3_readChances_0 : decode cX3_readChances 0 = .ok (.iload_n 1, 1) := by decide +kernel
theorem dX3_readChances_1 : decode cX3_readChances 1 = .ok (.istore_n 2, 1) := by decide +kernel
theorem dX3_readChances_2 : decode cX3_readChances 2 = .ok (.bipush 16, 2) := by decide +kernel
theorem dX3_readChances_4 : decode cX3_readChances 4 = .ok (.istore_n 3, 1) := by decide +kernel
theorem dX3_readChances_5 : decode cX3_readChances 5 = .ok (.iconst 0, 1) := by decide +kernel
theorem dX3_readChances_6 : decode cX3_readChances 6 = .ok (.istore 4, 2) := by decide +kernel
theorem dX3_readChances_8 : decode cX3_readChances 8 = .ok (.iload 4, 2) := by decide +kernel
theorem dX3_readChances_10 : decode cX3_readChances 10 = .ok (.iconst 3, 1) := by decide +kernel
theorem dX3_readChances_11 : decode cX3_readChances 11 = .ok (.if_icmp .ge 112, 3) := by decide +kernel
theorem dX3_readChances_14 : decode cX3_readChances 14 = .ok (.iload 4, 2) := by decide +kernel
theorem dX3_readChances_16 : decode cX3_readChances 16 = .ok (.ifCond .le 15, 3) := by decide +kernel
theorem dX3_readChances_19 : decode cX3_readChances 19 = .ok (.aload_n 0, 1) := by decide +kernel
theorem dX3_readChances_20 : decode cX3_readChances 20 = .ok (.iload_n 2, 1) := by decide +kernel
theorem dX3_readChances_21 : decode cX3_readChances 21 = .ok (.bipush 44, 2) := by decide +kernel
theorem dX3_readChances_23 : decode cX3_readChances 23 = .ok (.invokevirtual 48, 3) := by decide +kernel
theorem dX3_readChances_26 : decode cX3_readChances 26 = .ok (.ifCond .ne 5, 3) := by decide +kernel
theorem dX3_readChances_29 : decode cX3_readChances 29 = .ok (.iload_n 2, 1) := by decide +kernel
theorem dX3_readChances_30 : decode cX3_readChances 30 = .ok (.ireturn, 1) := by decide +kernel
theorem dX3_readChances_31 : decode cX3_readChances 31 = .ok (.iload_n 2, 1) := by decide +kernel
theorem dX3_readChances_32 : decode cX3_readChances 32 = .ok (.iload 4, 2) := by decide +kernel
theorem dX3_readChances_34 : decode cX3_readChances 34 = .ok (.ifCond .le 7, 3) := by decide +kernel
theorem dX3_readChances_37 : decode cX3_readChances 37 = .ok (.iconst 1, 1) := by decide +kernel
theorem dX3_readChances_38 : decode cX3_readChances 38 = .ok (.goto 4, 3) := by decide +kernel
theorem dX3_readChances_41 : decode cX3_readChances 41 = .ok (.iconst 0, 1) := by decide +kernel
theorem dX3_readChances_42 : decode cX3_readChances 42 = .ok (.iadd, 1) := by decide +kernel
theorem dX3_readChances_43 : decode cX3_readChances 43 = .ok (.istore_n 2, 1) := by decide +kernel
theorem dX3_readChances_44 : decode cX3_readChances 44 = .ok (.aload_n 0, 1) := by decide +kernel
theorem dX3_readChances_45 : decode cX3_readChances 45 = .ok (.iload_n 2, 1) := by decide +kernel
theorem dX3_readChances_46 : decode cX3_readChances 46 = .ok (.invokevirtual 41, 3) := by decide +kernel
theorem dX3_readChances_49 : decode cX3_readChances 49 = .ok (.istore 5, 2) := by decide +kernel
theorem dX3_readChances_51 : decode cX3_readChances 51 = .ok (.aload_n 0, 1) := by decide +kernel
theorem dX3_readChances_52 : decode cX3_readChances 52 = .ok (.iload_n 2, 1) := by decide +kernel
theorem dX3_readChances_53 : decode cX3_readChances 53 = .ok (.iconst 1, 1) := by decide +kernel
theorem dX3_readChances_54 : decode cX3_readChances 54 = .ok (.iadd, 1) := by decide +kernel
theorem dX3_readChances_55 : decode cX3_readChances 55 = .ok (.invokevirtual 41, 3) := by decide +kernel
theorem dX3_readChances_58 : decode cX3_readChances 58 = .ok (.istore 6, 2) := by decide +kernel
theorem dX3_readChances_60 : decode cX3_readChances 60 = .ok (.iload 5, 2) := by decide +kernel
theorem dX3_readChances_62 : decode cX3_readChances 62 = .ok (.ifCond .lt 18, 3) := by decide +kernel
theorem dX3_readChances_65 : decode cX3_readChances 65 = .ok (.iload 6, 2) := by decide +kernel
theorem dX3_readChances_67 : decode cX3_readChances 67 = .ok (.ifCond .lt 13, 3) := by decide +kernel
theorem dX3_readChances_70 : decode cX3_readChances 70 = .ok (.bipush 10, 2) := by decide +kernel
theorem dX3_readChances_72 : decode cX3_readChances 72 = .ok (.iload 5, 2) := by decide +kernel
theorem dX3_readChances_74 : decode cX3_readChances 74 = .ok (.imul, 1) := by decide +kernel
theorem dX3_readChances_75 : decode cX3_readChances 75 = .ok (.iload 6, 2) := by decide +kernel
theorem dX3_readChances_77 : decode cX3_readChances 77 = .ok (.iadd, 1) := by decide +kernel
theorem dX3_readChances_78 : decode cX3_readChances 78 = .ok (.istore 5, 2) := by decide +kernel
theorem dX3_readChances_80 : decode cX3_readChances 80 = .ok (.iload 5, 2) := by decide +kernel
theorem dX3_readChances_82 : decode cX3_readChances 82 = .ok (.iconst 0, 1) := by decide +kernel
theorem dX3_readChances_83 : decode cX3_readChances 83 = .ok (.iload_n 3, 1) := by decide +kernel
theorem dX3_readChances_84 : decode cX3_readChances 84 = .ok (.invokestatic 58, 3) := by decide +kernel
theorem dX3_readChances_87 : decode cX3_readChances 87 = .ok (.ifCond .ne 5, 3) := by decide +kernel
theorem dX3_readChances_90 : decode cX3_readChances 90 = .ok (.iload_n 2, 1) := by decide +kernel
theorem dX3_readChances_91 : decode cX3_readChances 91 = .ok (.ireturn, 1) := by decide +kernel
theorem dX3_readChances_92 : decode cX3_readChances 92 = .ok (.aload_n 0, 1) := by decide +kernel
theorem dX3_readChances_93 : decode cX3_readChances 93 = .ok (.getfield 15, 3) := by decide +kernel
theorem dX3_readChances_96 : decode cX3_readChances 96 = .ok (.iload 4, 2) := by decide +kernel
theorem dX3_readChances_98 : decode cX3_readChances 98 = .ok (.iload 5, 2) := by decide +kernel
theorem dX3_readChances_100 : decode cX3_readChances 100 = .ok (.iastore, 1) := by decide +kernel
theorem dX3_readChances_101 : decode cX3_readChances 101 = .ok (.iload 5, 2) := by decide +kernel
theorem dX3_readChances_103 : decode cX3_readChances 103 = .ok (.istore_n 3, 1) := by decide +kernel
theorem dX3_readChances_104 : decode cX3_readChances 104 = .ok (.iload_n 2, 1) := by decide +kernel
theorem dX3_readChances_105 : decode cX3_readChances 105 = .ok (.iload 6, 2) := by decide +kernel
theorem dX3_readChances_107 : decode cX3_readChances 107 = .ok (.ifCond .lt 7, 3) := by decide +kernel
theorem dX3_readChances_110 : decode cX3_readChances 110 = .ok (.iconst 2, 1) := by decide +kernel
theorem dX3_readChances_111 : decode cX3_readChances 111 = .ok (.goto 4, 3) := by decide +kernel
theorem dX3_readChances_114 : decode cX3_readChances 114 = .ok (.iconst 1, 1) := by decide +kernel
theorem dX3_readChances_115 : decode cX3_readChances 115 = .ok (.iadd, 1) := by decide +kernel
theorem dX3_readChances_116 : decode cX3_readChances 116 = .ok (.istore_n 2, 1) := by decide +kernel
theorem dX3_readChances_117 : decode cX3_readChances 117 = .ok (.iinc 4 1, 3) := by decide +kernel
theorem dX3_readChances_120 : decode cX3_readChances 120 = .ok (.goto (-112), 3) := by decide +kernel
theorem dX3_readChances_123 : decode cX3_readChances 123 = .ok (.aload_n 0, 1) := by decide +kernel
theorem dX3_readChances_124 : decode cX3_readChances 124 = .ok (.iload_n 2, 1) := by decide +kernel
theorem dX3_readChances_125 : decode cX3_readChances 125 = .ok (.putfield 25, 3) := by decide +kernel
theorem dX3_readChances_128 : decode cX3_readChances 128 = .ok (.iload_n 2, 1) := by decide +kernel
theorem dX3_readChances_129 : decode cX3_readChances 129 = .ok (.aload_n 0, 1) := by decide +kernel
theorem dX3_readChances_130 : decode cX3_readChances 130 = .ok (.getfield 28, 3) := by decide +kernel
theorem dX3_readChances_133 : decode cX3_readChances 133 = .ok (.if_icmp .ge 13, 3) := by decide +kernel
theorem dX3_readChances_136 : decode cX3_readChances 136 = .ok (.aload_n 0, 1) := by decide +kernel
theorem dX3_readChances_137 : decode cX3_readChances 137 = .ok (.iload_n 2, 1) := by decide +kernel
theorem dX3_readChances_138 : decode cX3_readChances 138 = .ok (.bipush 59, 2) := by decide +kernel
theorem dX3_readChances_140 : decode cX3_readChances 140 = .ok (.invokevirtual 48, 3) := by decide +kernel
theorem dX3_readChances_143 : decode cX3_readChances 143 = .ok (.ifCond .eq 7, 3) := by decide +kernel
theorem dX3_readChances_146 : decode cX3_readChances 146 = .ok (.iconst (-1), 1) := by decide +kernel
theorem dX3_readChances_147 : decode cX3_readChances 147 = .ok (.goto 4, 3) := by decide +kernel
theorem dX3_readChances_150 : decode cX3_readChances 150 = .ok (.iload_n 2, 1) := by decide +kernel
theorem dX3_readChances_151 : decode cX3_readChances 151 = .ok (.ireturn, 1) := by decide +kernel
theorem dX8_isFarm_0 : decode cX8_isFarm 0 = .ok (.iload_n 0, 1) := by decide +kernel
theorem dX8_isFarm_1 : decode cX8_isFarm 1 = .ok (.iconst 1, 1) := by decide +kernel
theorem dX8_isFarm_2 : decode cX8_isFarm 2 = .ok (.bipush 7, 2) := by decide +kernel
theorem dX8_isFarm_4 : decode cX8_isFarm 4 = .ok (.invokestatic 95, 3) := by decide +kernel
theorem dX8_isFarm_7 : decode cX8_isFarm 7 = .ok (.ireturn, 1) := by decide +kernel
theorem dX8_isThing_0 : decode cX8_isThing 0 = .ok (.iload_n 0, 1) := by decide +kernel
theorem dX8_isThing_1 : decode cX8_isThing 1 = .ok (.iconst 0, 1) := by decide +kernel
theorem dX8_isThing_2 : decode cX8_isThing 2 = .ok (.iconst 5, 1) := by decide +kernel
theorem dX8_isThing_3 : decode cX8_isThing 3 = .ok (.invokestatic 95, 3) := by decide +kernel
theorem dX8_isThing_6 : decode cX8_isThing 6 = .ok (.ireturn, 1) := by decide +kernel
theorem dX3_readPart_0 : decode cX3_readPart 0 = .ok (.aload_n 0, 1) := by decide +kernel
theorem dX3_readPart_1 : decode cX3_readPart 1 = .ok (.aload_n 0, 1) := by decide +kernel
theorem dX3_readPart_2 : decode cX3_readPart 2 = .ok (.iload_n 1, 1) := by decide +kernel
theorem dX3_readPart_3 : decode cX3_readPart 3 = .ok (.invokevirtual 41, 3) := by decide +kernel
theorem dX3_readPart_6 : decode cX3_readPart 6 = .ok (.putfield 18, 3) := by decide +kernel
theorem dX3_readPart_9 : decode cX3_readPart 9 = .ok (.aload_n 0, 1) := by decide +kernel
theorem dX3_readPart_10 : decode cX3_readPart 10 = .ok (.getfield 18, 3) := by decide +kernel
theorem dX3_readPart_13 : decode cX3_readPart 13 = .ok (.invokestatic 44, 3) := by decide +kernel
theorem dX3_readPart_16 : decode cX3_readPart 16 = .ok (.ifCond .ne 5, 3) := by decide +kernel
theorem dX3_readPart_19 : decode cX3_readPart 19 = .ok (.iload_n 1, 1) := by decide +kernel
theorem dX3_readPart_20 : decode cX3_readPart 20 = .ok (.ireturn, 1) := by decide +kernel
theorem dX3_readPart_21 : decode cX3_readPart 21 = .ok (.aload_n 0, 1) := by decide +kernel
theorem dX3_readPart_22 : decode cX3_readPart 22 = .ok (.iload_n 1, 1) := by decide +kernel
theorem dX3_readPart_23 : decode cX3_readPart 23 = .ok (.iconst 1, 1) := by decide +kernel
theorem dX3_readPart_24 : decode cX3_readPart 24 = .ok (.iadd, 1) := by decide +kernel
theorem dX3_readPart_25 : decode cX3_readPart 25 = .ok (.bipush 58, 2) := by decide +kernel
theorem dX3_readPart_27 : decode cX3_readPart 27 = .ok (.invokevirtual 48, 3) := by decide +kernel
theorem dX3_readPart_30 : decode cX3_readPart 30 = .ok (.ifCond .ne 7, 3) := by decide +kernel
theorem dX3_readPart_33 : decode cX3_readPart 33 = .ok (.iload_n 1, 1) := by decide +kernel
theorem dX3_readPart_34 : decode cX3_readPart 34 = .ok (.iconst 1, 1) := by decide +kernel
theorem dX3_readPart_35 : decode cX3_readPart 35 = .ok (.iadd, 1) := by decide +kernel
theorem dX3_readPart_36 : decode cX3_readPart 36 = .ok (.ireturn, 1) := by decide +kernel
theorem dX3_readPart_37 : decode cX3_readPart 37 = .ok (.aload_n 0, 1) := by decide +kernel
theorem dX3_readPart_38 : decode cX3_readPart 38 = .ok (.aload_n 0, 1) := by decide +kernel
theorem dX3_readPart_39 : decode cX3_readPart 39 = .ok (.iload_n 1, 1) := by decide +kernel
theorem dX3_readPart_40 : decode cX3_readPart 40 = .ok (.iconst 2, 1) := by decide +kernel
theorem dX3_readPart_41 : decode cX3_readPart 41 = .ok (.iadd, 1) := by decide +kernel
theorem dX3_readPart_42 : decode cX3_readPart 42 = .ok (.invokevirtual 41, 3) := by decide +kernel
theorem dX3_readPart_45 : decode cX3_readPart 45 = .ok (.putfield 22, 3) := by decide +kernel
theorem dX3_readPart_48 : decode cX3_readPart 48 = .ok (.aload_n 0, 1) := by decide +kernel
theorem dX3_readPart_49 : decode cX3_readPart 49 = .ok (.getfield 22, 3) := by decide +kernel
theorem dX3_readPart_52 : decode cX3_readPart 52 = .ok (.invokestatic 52, 3) := by decide +kernel
theorem dX3_readPart_55 : decode cX3_readPart 55 = .ok (.ifCond .ne 7, 3) := by decide +kernel
theorem dX3_readPart_58 : decode cX3_readPart 58 = .ok (.iload_n 1, 1) := by decide +kernel
theorem dX3_readPart_59 : decode cX3_readPart 59 = .ok (.iconst 2, 1) := by decide +kernel
theorem dX3_readPart_60 : decode cX3_readPart 60 = .ok (.iadd, 1) := by decide +kernel
theorem dX3_readPart_61 : decode cX3_readPart 61 = .ok (.ireturn, 1) := by decide +kernel
theorem dX3_readPart_62 : decode cX3_readPart 62 = .ok (.aload_n 0, 1) := by decide +kernel
theorem dX3_readPart_63 : decode cX3_readPart 63 = .ok (.iload_n 1, 1) := by decide +kernel
theorem dX3_readPart_64 : decode cX3_readPart 64 = .ok (.iconst 3, 1) := by decide +kernel
theorem dX3_readPart_65 : decode cX3_readPart 65 = .ok (.iadd, 1) := by decide +kernel
theorem dX3_readPart_66 : decode cX3_readPart 66 = .ok (.bipush 61, 2) := by decide +kernel
theorem dX3_readPart_68 : decode cX3_readPart 68 = .ok (.invokevirtual 48, 3) := by decide +kernel
theorem dX3_readPart_71 : decode cX3_readPart 71 = .ok (.ifCond .ne 7, 3) := by decide +kernel
theorem dX3_readPart_74 : decode cX3_readPart 74 = .ok (.iload_n 1, 1) := by decide +kernel
theorem dX3_readPart_75 : decode cX3_readPart 75 = .ok (.iconst 3, 1) := by decide +kernel
theorem dX3_readPart_76 : decode cX3_readPart 76 = .ok (.iadd, 1) := by decide +kernel
theorem dX3_readPart_77 : decode cX3_readPart 77 = .ok (.ireturn, 1) := by decide +kernel
theorem dX3_readPart_78 : decode cX3_readPart 78 = .ok (.aload_n 0, 1) := by decide +kernel
theorem dX3_readPart_79 : decode cX3_readPart 79 = .ok (.iload_n 1, 1) := by decide +kernel
theorem dX3_readPart_80 : decode cX3_readPart 80 = .ok (.iconst 4, 1) := by decide +kernel
theorem dX3_readPart_81 : decode cX3_readPart 81 = .ok (.iadd, 1) := by decide +kernel
theorem dX3_readPart_82 : decode cX3_readPart 82 = .ok (.invokevirtual 55, 3) := by decide +kernel
theorem dX3_readPart_85 : decode cX3_readPart 85 = .ok (.ireturn, 1) := by decide +kernel
theorem dX3_findFault_0 : decode cX3_findFault 0 = .ok (.iconst 0, 1) := by decide +kernel
theorem dX3_findFault_1 : decode cX3_findFault 1 = .ok (.istore_n 1, 1) := by decide +kernel
theorem dX3_findFault_2 : decode cX3_findFault 2 = .ok (.iconst 0, 1) := by decide +kernel
theorem dX3_findFault_3 : decode cX3_findFault 3 = .ok (.istore_n 2, 1) := by decide +kernel
theorem dX3_findFault_4 : decode cX3_findFault 4 = .ok (.iload_n 2, 1) := by decide +kernel
theorem dX3_findFault_5 : decode cX3_findFault 5 = .ok (.bipush 40, 2) := by decide +kernel
theorem dX3_findFault_7 : decode cX3_findFault 7 = .ok (.if_icmp .ge 40, 3) := by decide +kernel
theorem dX3_findFault_10 : decode cX3_findFault 10 = .ok (.aload_n 0, 1) := by decide +kernel
theorem dX3_findFault_11 : decode cX3_findFault 11 = .ok (.iload_n 1, 1) := by decide +kernel
theorem dX3_findFault_12 : decode cX3_findFault 12 = .ok (.invokevirtual 31, 3) := by decide +kernel
theorem dX3_findFault_15 : decode cX3_findFault 15 = .ok (.istore_n 3, 1) := by decide +kernel
theorem dX3_findFault_16 : decode cX3_findFault 16 = .ok (.iload_n 3, 1) := by decide +kernel
theorem dX3_findFault_17 : decode cX3_findFault 17 = .ok (.iconst (-1), 1) := by decide +kernel
theorem dX3_findFault_18 : decode cX3_findFault 18 = .ok (.if_icmp .ne 14, 3) := by decide +kernel
theorem dX3_findFault_21 : decode cX3_findFault 21 = .ok (.aload_n 0, 1) := by decide +kernel
theorem dX3_findFault_22 : decode cX3_findFault 22 = .ok (.getfield 25, 3) := by decide +kernel
theorem dX3_findFault_25 : decode cX3_findFault 25 = .ok (.aload_n 0, 1) := by decide +kernel
theorem dX3_findFault_26 : decode cX3_findFault 26 = .ok (.getfield 28, 3) := by decide +kernel
theorem dX3_findFault_29 : decode cX3_findFault 29 = .ok (.if_icmp .lt 5, 3) := by decide +kernel
theorem dX3_findFault_32 : decode cX3_findFault 32 = .ok (.iload_n 3, 1) := by decide +kernel
theorem dX3_findFault_33 : decode cX3_findFault 33 = .ok (.ireturn, 1) := by decide +kernel
theorem dX3_findFault_34 : decode cX3_findFault 34 = .ok (.aload_n 0, 1) := by decide +kernel
theorem dX3_findFault_35 : decode cX3_findFault 35 = .ok (.getfield 25, 3) := by decide +kernel
theorem dX3_findFault_38 : decode cX3_findFault 38 = .ok (.iconst 1, 1) := by decide +kernel
theorem dX3_findFault_39 : decode cX3_findFault 39 = .ok (.iadd, 1) := by decide +kernel
theorem dX3_findFault_40 : decode cX3_findFault 40 = .ok (.istore_n 1, 1) := by decide +kernel
theorem dX3_findFault_41 : decode cX3_findFault 41 = .ok (.iinc 2 1, 3) := by decide +kernel
theorem dX3_findFault_44 : decode cX3_findFault 44 = .ok (.goto (-40), 3) := by decide +kernel
theorem dX3_findFault_47 : decode cX3_findFault 47 = .ok (.iload_n 1, 1) := by decide +kernel
theorem dX3_findFault_48 : decode cX3_findFault 48 = .ok (.ireturn, 1) := by decide +kernel
theorem dX4_take_0 : decode cX4_take 0 = .ok (.bipush 16, 2) := by decide +kernel
theorem dX4_take_2 : decode cX4_take 2 = .ok (.istore 5, 2) := by decide +kernel
theorem dX4_take_4 : decode cX4_take 4 = .ok (.iconst 0, 1) := by decide +kernel
theorem dX4_take_5 : decode cX4_take 5 = .ok (.istore 6, 2) := by decide +kernel
theorem dX4_take_7 : decode cX4_take 7 = .ok (.iload 6, 2) := by decide +kernel
theorem dX4_take_9 : decode cX4_take 9 = .ok (.iconst 3, 1) := by decide +kernel
theorem dX4_take_10 : decode cX4_take 10 = .ok (.if_icmp .ge 36, 3) := by decide +kernel
theorem dX4_take_13 : decode cX4_take 13 = .ok (.aload_n 3, 1) := by decide +kernel
theorem dX4_take_14 : decode cX4_take 14 = .ok (.iload 4, 2) := by decide +kernel
theorem dX4_take_16 : decode cX4_take 16 = .ok (.iload 6, 2) := by decide +kernel
theorem dX4_take_18 : decode cX4_take 18 = .ok (.iadd, 1) := by decide +kernel
theorem dX4_take_19 : decode cX4_take 19 = .ok (.iaload, 1) := by decide +kernel
theorem dX4_take_20 : decode cX4_take 20 = .ok (.iconst 0, 1) := by decide +kernel
theorem dX4_take_21 : decode cX4_take 21 = .ok (.iload 5, 2) := by decide +kernel
theorem dX4_take_23 : decode cX4_take 23 = .ok (.invokestatic 20, 3) := by decide +kernel
theorem dX4_take_26 : decode cX4_take 26 = .ok (.ifCond .ne 5, 3) := by decide +kernel
theorem dX4_take_29 : decode cX4_take 29 = .ok (.iconst 0, 1) := by decide +kernel
theorem dX4_take_30 : decode cX4_take 30 = .ok (.ireturn, 1) := by decide +kernel
theorem dX4_take_31 : decode cX4_take 31 = .ok (.aload_n 3, 1) := by decide +kernel
theorem dX4_take_32 : decode cX4_take 32 = .ok (.iload 4, 2) := by decide +kernel
theorem dX4_take_34 : decode cX4_take 34 = .ok (.iload 6, 2) := by decide +kernel
theorem dX4_take_36 : decode cX4_take 36 = .ok (.iadd, 1) := by decide +kernel
theorem dX4_take_37 : decode cX4_take 37 = .ok (.iaload, 1) := by decide +kernel
theorem dX4_take_38 : decode cX4_take 38 = .ok (.istore 5, 2) := by decide +kernel
theorem dX4_take_40 : decode cX4_take 40 = .ok (.iinc 6 1, 3) := by decide +kernel
theorem dX4_take_43 : decode cX4_take 43 = .ok (.goto (-36), 3) := by decide +kernel
theorem dX4_take_46 : decode cX4_take 46 = .ok (.iconst 0, 1) := by decide +kernel
theorem dX4_take_47 : decode cX4_take 47 = .ok (.istore 6, 2) := by decide +kernel
theorem dX4_take_49 : decode cX4_take 49 = .ok (.iload 6, 2) := by decide +kernel
theorem dX4_take_51 : decode cX4_take 51 = .ok (.iconst 3, 1) := by decide +kernel
theorem dX4_take_52 : decode cX4_take 52 = .ok (.if_icmp .ge 30, 3) := by decide +kernel
theorem dX4_take_55 : decode cX4_take 55 = .ok (.aload_n 0, 1) := by decide +kernel
theorem dX4_take_56 : decode cX4_take 56 = .ok (.getfield 11, 3) := by decide +kernel
theorem dX4_take_59 : decode cX4_take 59 = .ok (.iload_n 1, 1) := by decide +kernel
theorem dX4_take_60 : decode cX4_take 60 = .ok (.bipush 6, 2) := by decide +kernel
theorem dX4_take_62 : decode cX4_take 62 = .ok (.imul, 1) := by decide +kernel
theorem dX4_take_63 : decode cX4_take 63 = .ok (.iload_n 2, 1) := by decide +kernel
theorem dX4_take_64 : decode cX4_take 64 = .ok (.iadd, 1) := by decide +kernel
theorem dX4_take_65 : decode cX4_take 65 = .ok (.aaload, 1) := by decide +kernel
theorem dX4_take_66 : decode cX4_take 66 = .ok (.iload 6, 2) := by decide +kernel
theorem dX4_take_68 : decode cX4_take 68 = .ok (.aload_n 3, 1) := by decide +kernel
theorem dX4_take_69 : decode cX4_take 69 = .ok (.iload 4, 2) := by decide +kernel
theorem dX4_take_71 : decode cX4_take 71 = .ok (.iload 6, 2) := by decide +kernel
theorem dX4_take_73 : decode cX4_take 73 = .ok (.iadd, 1) := by decide +kernel
theorem dX4_take_74 : decode cX4_take 74 = .ok (.iaload, 1) := by decide +kernel
theorem dX4_take_75 : decode cX4_take 75 = .ok (.iastore, 1) := by decide +kernel
theorem dX4_take_76 : decode cX4_take 76 = .ok (.iinc 6 1, 3) := by decide +kernel
theorem dX4_take_79 : decode cX4_take 79 = .ok (.goto (-30), 3) := by decide +kernel
theorem dX4_take_82 : decode cX4_take 82 = .ok (.iconst 1, 1) := by decide +kernel
theorem dX4_take_83 : decode cX4_take 83 = .ok (.ireturn, 1) := by decide +kernel
theorem dX3_tellTo_0 : decode cX3_tellTo 0 = .ok (.iconst 0, 1) := by decide +kernel
theorem dX3_tellTo_1 : decode cX3_tellTo 1 = .ok (.istore_n 2, 1) := by decide +kernel
theorem dX3_tellTo_2 : decode cX3_tellTo 2 = .ok (.iconst 0, 1) := by decide +kernel
theorem dX3_tellTo_3 : decode cX3_tellTo 3 = .ok (.istore_n 3, 1) := by decide +kernel
theorem dX3_tellTo_4 : decode cX3_tellTo 4 = .ok (.iload_n 2, 1) := by decide +kernel
theorem dX3_tellTo_5 : decode cX3_tellTo 5 = .ok (.bipush 40, 2) := by decide +kernel
theorem dX3_tellTo_7 : decode cX3_tellTo 7 = .ok (.if_icmp .ge 51, 3) := by decide +kernel
theorem dX3_tellTo_10 : decode cX3_tellTo 10 = .ok (.iload_n 3, 1) := by decide +kernel
theorem dX3_tellTo_11 : decode cX3_tellTo 11 = .ok (.aload_n 0, 1) := by decide +kernel
theorem dX3_tellTo_12 : decode cX3_tellTo 12 = .ok (.getfield 28, 3) := by decide +kernel
theorem dX3_tellTo_15 : decode cX3_tellTo 15 = .ok (.if_icmp .ge 43, 3) := by decide +kernel
theorem dX3_tellTo_18 : decode cX3_tellTo 18 = .ok (.aload_n 0, 1) := by decide +kernel
theorem dX3_tellTo_19 : decode cX3_tellTo 19 = .ok (.iload_n 3, 1) := by decide +kernel
theorem dX3_tellTo_20 : decode cX3_tellTo 20 = .ok (.invokevirtual 31, 3) := by decide +kernel
theorem dX3_tellTo_23 : decode cX3_tellTo 23 = .ok (.iconst (-1), 1) := by decide +kernel
theorem dX3_tellTo_24 : decode cX3_tellTo 24 = .ok (.if_icmp .ne 34, 3) := by decide +kernel
theorem dX3_tellTo_27 : decode cX3_tellTo 27 = .ok (.aload_n 1, 1) := by decide +kernel
theorem dX3_tellTo_28 : decode cX3_tellTo 28 = .ok (.aload_n 0, 1) := by decide +kernel
theorem dX3_tellTo_29 : decode cX3_tellTo 29 = .ok (.getfield 18, 3) := by decide +kernel
theorem dX3_tellTo_32 : decode cX3_tellTo 32 = .ok (.aload_n 0, 1) := by decide +kernel
theorem dX3_tellTo_33 : decode cX3_tellTo 33 = .ok (.getfield 22, 3) := by decide +kernel
theorem dX3_tellTo_36 : decode cX3_tellTo 36 = .ok (.aload_n 0, 1) := by decide +kernel
theorem dX3_tellTo_37 : decode cX3_tellTo 37 = .ok (.getfield 15, 3) := by decide +kernel
theorem dX3_tellTo_40 : decode cX3_tellTo 40 = .ok (.iconst 0, 1) := by decide +kernel
theorem dX3_tellTo_41 : decode cX3_tellTo 41 = .ok (.invokevirtual 35, 3) := by decide +kernel
theorem dX3_tellTo_44 : decode cX3_tellTo 44 = .ok (.pop, 1) := by decide +kernel
theorem dX3_tellTo_45 : decode cX3_tellTo 45 = .ok (.iinc 2 1, 3) := by decide +kernel
theorem dX3_tellTo_48 : decode cX3_tellTo 48 = .ok (.aload_n 0, 1) := by decide +kernel
theorem dX3_tellTo_49 : decode cX3_tellTo 49 = .ok (.getfield 25, 3) := by decide +kernel
theorem dX3_tellTo_52 : decode cX3_tellTo 52 = .ok (.iconst 1, 1) := by decide +kernel
theorem dX3_tellTo_53 : decode cX3_tellTo 53 = .ok (.iadd, 1) := by decide +kernel
theorem dX3_tellTo_54 : decode cX3_tellTo 54 = .ok (.istore_n 3, 1) := by decide +kernel
theorem dX3_tellTo_55 : decode cX3_tellTo 55 = .ok (.goto (-51), 3) := by decide +kernel
theorem dX3_tellTo_58 : decode cX3_tellTo 58 = .ok (.iload_n 2, 1) := by decide +kernel
theorem dX3_tellTo_59 : decode cX3_tellTo 59 = .ok (.ireturn, 1) := by decide +kernel
theorem dX4_countChances_0 : decode cX4_countChances 0 = .ok (.iconst 0, 1) := by decide +kernel
theorem dX4_countChances_1 : decode cX4_countChances 1 = .ok (.istore_n 1, 1) := by decide +kernel
theorem dX4_countChances_2 : decode cX4_countChances 2 = .ok (.iconst 1, 1) := by decide +kernel
theorem dX4_countChances_3 : decode cX4_countChances 3 = .ok (.istore_n 2, 1) := by decide +kernel
theorem dX4_countChances_4 : decode cX4_countChances 4 = .ok (.iload_n 2, 1) := by decide +kernel
theorem dX4_countChances_5 : decode cX4_countChances 5 = .ok (.bipush 7, 2) := by decide +kernel
theorem dX4_countChances_7 : decode cX4_countChances 7 = .ok (.if_icmp .gt 57, 3) := by decide +kernel
theorem dX4_countChances_10 : decode cX4_countChances 10 = .ok (.iconst 0, 1) := by decide +kernel
theorem dX4_countChances_11 : decode cX4_countChances 11 = .ok (.istore_n 3, 1) := by decide +kernel
theorem dX4_countChances_12 : decode cX4_countChances 12 = .ok (.iload_n 3, 1) := by decide +kernel
theorem dX4_countChances_13 : decode cX4_countChances 13 = .ok (.bipush 6, 2) := by decide +kernel
theorem dX4_countChances_15 : decode cX4_countChances 15 = .ok (.if_icmp .ge 43, 3) := by decide +kernel
theorem dX4_countChances_18 : decode cX4_countChances 18 = .ok (.iconst 0, 1) := by decide +kernel
theorem dX4_countChances_19 : decode cX4_countChances 19 = .ok (.istore 4, 2) := by decide +kernel
theorem dX4_countChances_21 : decode cX4_countChances 21 = .ok (.iload 4, 2) := by decide +kernel
theorem dX4_countChances_23 : decode cX4_countChances 23 = .ok (.iconst 3, 1) := by decide +kernel
theorem dX4_countChances_24 : decode cX4_countChances 24 = .ok (.if_icmp .ge 28, 3) := by decide +kernel
theorem dX4_countChances_27 : decode cX4_countChances 27 = .ok (.iload_n 1, 1) := by decide +kernel
theorem dX4_countChances_28 : decode cX4_countChances 28 = .ok (.aload_n 0, 1) := by decide +kernel
theorem dX4_countChances_29 : decode cX4_countChances 29 = .ok (.iload_n 2, 1) := by decide +kernel
theorem dX4_countChances_30 : decode cX4_countChances 30 = .ok (.iload_n 3, 1) := by decide +kernel
theorem dX4_countChances_31 : decode cX4_countChances 31 = .ok (.iload 4, 2) := by decide +kernel
theorem dX4_countChances_33 : decode cX4_countChances 33 = .ok (.invokevirtual 24, 3) := by decide +kernel
theorem dX4_countChances_36 : decode cX4_countChances 36 = .ok (.ifCond .le 7, 3) := by decide +kernel
theorem dX4_countChances_39 : decode cX4_countChances 39 = .ok (.iconst 1, 1) := by decide +kernel
theorem dX4_countChances_40 : decode cX4_countChances 40 = .ok (.goto 4, 3) := by decide +kernel
theorem dX4_countChances_43 : decode cX4_countChances 43 = .ok (.iconst 0, 1) := by decide +kernel
theorem dX4_countChances_44 : decode cX4_countChances 44 = .ok (.iadd, 1) := by decide +kernel
theorem dX4_countChances_45 : decode cX4_countChances 45 = .ok (.istore_n 1, 1) := by decide +kernel
theorem dX4_countChances_46 : decode cX4_countChances 46 = .ok (.iinc 4 1, 3) := by decide +kernel
theorem dX4_countChances_49 : decode cX4_countChances 49 = .ok (.goto (-28), 3) := by decide +kernel
theorem dX4_countChances_52 : decode cX4_countChances 52 = .ok (.iinc 3 1, 3) := by decide +kernel
theorem dX4_countChances_55 : decode cX4_countChances 55 = .ok (.goto (-43), 3) := by decide +kernel
theorem dX4_countChances_58 : decode cX4_countChances 58 = .ok (.iinc 2 1, 3) := by decide +kernel
theorem dX4_countChances_61 : decode cX4_countChances 61 = .ok (.goto (-57), 3) := by decide +kernel
theorem dX4_countChances_64 : decode cX4_countChances 64 = .ok (.iload_n 1, 1) := by decide +kernel
theorem dX4_countChances_65 : decode cX4_countChances 65 = .ok (.ireturn, 1) := by decide +kernel
theorem dX5_leastNumber_0 : decode cX5_leastNumber 0 = .ok (.aload_n 0, 1) := by decide +kernel
theorem dX5_leastNumber_1 : decode cX5_leastNumber 1 = .ok (.getfield 40, 3) := by decide +kernel
theorem dX5_leastNumber_4 : decode cX5_leastNumber 4 = .ok (.getfield 44, 3) := by decide +kernel
theorem dX5_leastNumber_7 : decode cX5_leastNumber 7 = .ok (.iload_n 1, 1) := by decide +kernel
theorem dX5_leastNumber_8 : decode cX5_leastNumber 8 = .ok (.aaload, 1) := by decide +kernel
theorem dX5_leastNumber_9 : decode cX5_leastNumber 9 = .ok (.iconst 1, 1) := by decide +kernel
theorem dX5_leastNumber_10 : decode cX5_leastNumber 10 = .ok (.iaload, 1) := by decide +kernel
theorem dX5_leastNumber_11 : decode cX5_leastNumber 11 = .ok (.istore_n 3, 1) := by decide +kernel
theorem dX5_leastNumber_12 : decode cX5_leastNumber 12 = .ok (.iconst 0, 1) := by decide +kernel
theorem dX5_leastNumber_13 : decode cX5_leastNumber 13 = .ok (.istore 4, 2) := by decide +kernel
theorem dX5_leastNumber_15 : decode cX5_leastNumber 15 = .ok (.iload 4, 2) := by decide +kernel
theorem dX5_leastNumber_17 : decode cX5_leastNumber 17 = .ok (.aload_n 0, 1) := by decide +kernel
theorem dX5_leastNumber_18 : decode cX5_leastNumber 18 = .ok (.getfield 16, 3) := by decide +kernel
theorem dX5_leastNumber_21 : decode cX5_leastNumber 21 = .ok (.iload_n 1, 1) := by decide +kernel
theorem dX5_leastNumber_22 : decode cX5_leastNumber 22 = .ok (.iaload, 1) := by decide +kernel
theorem dX5_leastNumber_23 : decode cX5_leastNumber 23 = .ok (.if_icmp .gt 57, 3) := by decide +kernel
theorem dX5_leastNumber_26 : decode cX5_leastNumber 26 = .ok (.iload 4, 2) := by decide +kernel
theorem dX5_leastNumber_28 : decode cX5_leastNumber 28 = .ok (.iload_n 3, 1) := by decide +kernel
theorem dX5_leastNumber_29 : decode cX5_leastNumber 29 = .ok (.imul, 1) := by decide +kernel
theorem dX5_leastNumber_30 : decode cX5_leastNumber 30 = .ok (.iload_n 2, 1) := by decide +kernel
theorem dX5_leastNumber_31 : decode cX5_leastNumber 31 = .ok (.if_icmp .gt 49, 3) := by decide +kernel
theorem dX5_leastNumber_34 : decode cX5_leastNumber 34 = .ok (.aload_n 0, 1) := by decide +kernel
theorem dX5_leastNumber_35 : decode cX5_leastNumber 35 = .ok (.getfield 11, 3) := by decide +kernel
theorem dX5_leastNumber_38 : decode cX5_leastNumber 38 = .ok (.iload_n 1, 1) := by decide +kernel
theorem dX5_leastNumber_39 : decode cX5_leastNumber 39 = .ok (.aaload, 1) := by decide +kernel
theorem dX5_leastNumber_40 : decode cX5_leastNumber 40 = .ok (.iload 4, 2) := by decide +kernel
theorem dX5_leastNumber_42 : decode cX5_leastNumber 42 = .ok (.laload, 1) := by decide +kernel
theorem dX5_leastNumber_43 : decode cX5_leastNumber 43 = .ok (.aload_n 0, 1) := by decide +kernel
theorem dX5_leastNumber_44 : decode cX5_leastNumber 44 = .ok (.getfield 20, 3) := by decide +kernel
theorem dX5_leastNumber_47 : decode cX5_leastNumber 47 = .ok (.iload_n 1, 1) := by decide +kernel
theorem dX5_leastNumber_48 : decode cX5_leastNumber 48 = .ok (.iconst 1, 1) := by decide +kernel
theorem dX5_leastNumber_49 : decode cX5_leastNumber 49 = .ok (.iadd, 1) := by decide +kernel
theorem dX5_leastNumber_50 : decode cX5_leastNumber 50 = .ok (.aaload, 1) := by decide +kernel
theorem dX5_leastNumber_51 : decode cX5_leastNumber 51 = .ok (.iload_n 2, 1) := by decide +kernel
theorem dX5_leastNumber_52 : decode cX5_leastNumber 52 = .ok (.iload 4, 2) := by decide +kernel
theorem dX5_leastNumber_54 : decode cX5_leastNumber 54 = .ok (.iload_n 3, 1) := by decide +kernel
theorem dX5_leastNumber_55 : decode cX5_leastNumber 55 = .ok (.imul, 1) := by decide +kernel
theorem dX5_leastNumber_56 : decode cX5_leastNumber 56 = .ok (.isub, 1) := by decide +kernel
theorem dX5_leastNumber_57 : decode cX5_leastNumber 57 = .ok (.laload, 1) := by decide +kernel
theorem dX5_leastNumber_58 : decode cX5_leastNumber 58 = .ok (.ladd, 1) := by decide +kernel
theorem dX5_leastNumber_59 : decode cX5_leastNumber 59 = .ok (.aload_n 0, 1) := by decide +kernel
theorem dX5_leastNumber_60 : decode cX5_leastNumber 60 = .ok (.getfield 20, 3) := by decide +kernel
theorem dX5_leastNumber_63 : decode cX5_leastNumber 63 = .ok (.iload_n 1, 1) := by decide +kernel
theorem dX5_leastNumber_64 : decode cX5_leastNumber 64 = .ok (.aaload, 1) := by decide +kernel
theorem dX5_leastNumber_65 : decode cX5_leastNumber 65 = .ok (.iload_n 2, 1) := by decide +kernel
theorem dX5_leastNumber_66 : decode cX5_leastNumber 66 = .ok (.laload, 1) := by decide +kernel
theorem dX5_leastNumber_67 : decode cX5_leastNumber 67 = .ok (.lcmp, 1) := by decide +kernel
theorem dX5_leastNumber_68 : decode cX5_leastNumber 68 = .ok (.ifCond .ne 6, 3) := by decide +kernel
theorem dX5_leastNumber_71 : decode cX5_leastNumber 71 = .ok (.iload 4, 2) := by decide +kernel
theorem dX5_leastNumber_73 : decode cX5_leastNumber 73 = .ok (.ireturn, 1) := by decide +kernel
theorem dX5_leastNumber_74 : decode cX5_leastNumber 74 = .ok (.iinc 4 1, 3) := by decide +kernel
theorem dX5_leastNumber_77 : decode cX5_leastNumber 77 = .ok (.goto (-62), 3) := by decide +kernel
theorem dX5_leastNumber_80 : decode cX5_leastNumber 80 = .ok (.iconst 0, 1) := by decide +kernel
theorem dX5_leastNumber_81 : decode cX5_leastNumber 81 = .ok (.ireturn, 1) := by decide +kernel
theorem dX5_fillMost_0 : decode cX5_fillMost 0 = .ok (.aload_n 0, 1) := by decide +kernel
theorem dX5_fillMost_1 : decode cX5_fillMost 1 = .ok (.getfield 40, 3) := by decide +kernel
theorem dX5_fillMost_4 : decode cX5_fillMost 4 = .ok (.getfield 44, 3) := by decide +kernel
theorem dX5_fillMost_7 : decode cX5_fillMost 7 = .ok (.iload_n 1, 1) := by decide +kernel
theorem dX5_fillMost_8 : decode cX5_fillMost 8 = .ok (.aaload, 1) := by decide +kernel
theorem dX5_fillMost_9 : decode cX5_fillMost 9 = .ok (.iconst 1, 1) := by decide +kernel
theorem dX5_fillMost_10 : decode cX5_fillMost 10 = .ok (.iaload, 1) := by decide +kernel
theorem dX5_fillMost_11 : decode cX5_fillMost 11 = .ok (.istore 4, 2) := by decide +kernel
theorem dX5_fillMost_13 : decode cX5_fillMost 13 = .ok (.aload_n 0, 1) := by decide +kernel
theorem dX5_fillMost_14 : decode cX5_fillMost 14 = .ok (.getfield 20, 3) := by decide +kernel
theorem dX5_fillMost_17 : decode cX5_fillMost 17 = .ok (.iload_n 1, 1) := by decide +kernel
theorem dX5_fillMost_18 : decode cX5_fillMost 18 = .ok (.iconst 1, 1) := by decide +kernel
theorem dX5_fillMost_19 : decode cX5_fillMost 19 = .ok (.iadd, 1) := by decide +kernel
theorem dX5_fillMost_20 : decode cX5_fillMost 20 = .ok (.aaload, 1) := by decide +kernel
theorem dX5_fillMost_21 : decode cX5_fillMost 21 = .ok (.astore 5, 2) := by decide +kernel
theorem dX5_fillMost_23 : decode cX5_fillMost 23 = .ok (.iconst 0, 1) := by decide +kernel
theorem dX5_fillMost_24 : decode cX5_fillMost 24 = .ok (.istore 6, 2) := by decide +kernel
theorem dX5_fillMost_26 : decode cX5_fillMost 26 = .ok (.iload 6, 2) := by decide +kernel
theorem dX5_fillMost_28 : decode cX5_fillMost 28 = .ok (.iload_n 2, 1) := by decide +kernel
theorem dX5_fillMost_29 : decode cX5_fillMost 29 = .ok (.if_icmp .gt 80, 3) := by decide +kernel
theorem dX5_fillMost_32 : decode cX5_fillMost 32 = .ok (.aload 5, 2) := by decide +kernel
theorem dX5_fillMost_34 : decode cX5_fillMost 34 = .ok (.iload 6, 2) := by decide +kernel
theorem dX5_fillMost_36 : decode cX5_fillMost 36 = .ok (.laload, 1) := by decide +kernel
theorem dX5_fillMost_37 : decode cX5_fillMost 37 = .ok (.lstore 7, 2) := by decide +kernel
theorem dX5_fillMost_39 : decode cX5_fillMost 39 = .ok (.iconst 1, 1) := by decide +kernel
theorem dX5_fillMost_40 : decode cX5_fillMost 40 = .ok (.istore 9, 2) := by decide +kernel
theorem dX5_fillMost_42 : decode cX5_fillMost 42 = .ok (.iload 9, 2) := by decide +kernel
theorem dX5_fillMost_44 : decode cX5_fillMost 44 = .ok (.iload_n 3, 1) := by decide +kernel
theorem dX5_fillMost_45 : decode cX5_fillMost 45 = .ok (.if_icmp .gt 47, 3) := by decide +kernel
theorem dX5_fillMost_48 : decode cX5_fillMost 48 = .ok (.iload 9, 2) := by decide +kernel
theorem dX5_fillMost_50 : decode cX5_fillMost 50 = .ok (.iload 4, 2) := by decide +kernel
theorem dX5_fillMost_52 : decode cX5_fillMost 52 = .ok (.imul, 1) := by decide +kernel
theorem dX5_fillMost_53 : decode cX5_fillMost 53 = .ok (.iload 6, 2) := by decide +kernel
theorem dX5_fillMost_55 : decode cX5_fillMost 55 = .ok (.if_icmp .gt 37, 3) := by decide +kernel
theorem dX5_fillMost_58 : decode cX5_fillMost 58 = .ok (.lload 7, 2) := by decide +kernel
theorem dX5_fillMost_60 : decode cX5_fillMost 60 = .ok (.aload_n 0, 1) := by decide +kernel
theorem dX5_fillMost_61 : decode cX5_fillMost 61 = .ok (.getfield 11, 3) := by decide +kernel
theorem dX5_fillMost_64 : decode cX5_fillMost 64 = .ok (.iload_n 1, 1) := by decide +kernel
theorem dX5_fillMost_65 : decode cX5_fillMost 65 = .ok (.aaload, 1) := by decide +kernel
theorem dX5_fillMost_66 : decode cX5_fillMost 66 = .ok (.iload 9, 2) := by decide +kernel
theorem dX5_fillMost_68 : decode cX5_fillMost 68 = .ok (.laload, 1) := by decide +kernel
theorem dX5_fillMost_69 : decode cX5_fillMost 69 = .ok (.aload 5, 2) := by decide +kernel
theorem dX5_fillMost_71 : decode cX5_fillMost 71 = .ok (.iload 6, 2) := by decide +kernel
theorem dX5_fillMost_73 : decode cX5_fillMost 73 = .ok (.iload 9, 2) := by decide +kernel
theorem dX5_fillMost_75 : decode cX5_fillMost 75 = .ok (.iload 4, 2) := by decide +kernel
theorem dX5_fillMost_77 : decode cX5_fillMost 77 = .ok (.imul, 1) := by decide +kernel
theorem dX5_fillMost_78 : decode cX5_fillMost 78 = .ok (.isub, 1) := by decide +kernel
theorem dX5_fillMost_79 : decode cX5_fillMost 79 = .ok (.laload, 1) := by decide +kernel
theorem dX5_fillMost_80 : decode cX5_fillMost 80 = .ok (.ladd, 1) := by decide +kernel
theorem dX5_fillMost_81 : decode cX5_fillMost 81 = .ok (.invokestatic 64, 3) := by decide +kernel
theorem dX5_fillMost_84 : decode cX5_fillMost 84 = .ok (.lstore 7, 2) := by decide +kernel
theorem dX5_fillMost_86 : decode cX5_fillMost 86 = .ok (.iinc 9 1, 3) := by decide +kernel
theorem dX5_fillMost_89 : decode cX5_fillMost 89 = .ok (.goto (-47), 3) := by decide +kernel
theorem dX5_fillMost_92 : decode cX5_fillMost 92 = .ok (.aload_n 0, 1) := by decide +kernel
theorem dX5_fillMost_93 : decode cX5_fillMost 93 = .ok (.getfield 20, 3) := by decide +kernel
theorem dX5_fillMost_96 : decode cX5_fillMost 96 = .ok (.iload_n 1, 1) := by decide +kernel
theorem dX5_fillMost_97 : decode cX5_fillMost 97 = .ok (.aaload, 1) := by decide +kernel
theorem dX5_fillMost_98 : decode cX5_fillMost 98 = .ok (.iload 6, 2) := by decide +kernel
theorem dX5_fillMost_100 : decode cX5_fillMost 100 = .ok (.lload 7, 2) := by decide +kernel
theorem dX5_fillMost_102 : decode cX5_fillMost 102 = .ok (.lastore, 1) := by decide +kernel
theorem dX5_fillMost_103 : decode cX5_fillMost 103 = .ok (.iinc 6 1, 3) := by decide +kernel
theorem dX5_fillMost_106 : decode cX5_fillMost 106 = .ok (.goto (-80), 3) := by decide +kernel
theorem dX5_fillMost_109 : decode cX5_fillMost 109 = .ok (.return_, 1) := by decide +kernel
theorem dX5_mostGain_0 : decode cX5_mostGain 0 = .ok (.iconst 5, 1) := by decide +kernel
theorem dX5_mostGain_1 : decode cX5_mostGain 1 = .ok (.istore_n 3, 1) := by decide +kernel
theorem dX5_mostGain_2 : decode cX5_mostGain 2 = .ok (.iload_n 3, 1) := by decide +kernel
theorem dX5_mostGain_3 : decode cX5_mostGain 3 = .ok (.ifCond .lt 30, 3) := by decide +kernel
theorem dX5_mostGain_6 : decode cX5_mostGain 6 = .ok (.aload_n 0, 1) := by decide +kernel
theorem dX5_mostGain_7 : decode cX5_mostGain 7 = .ok (.iload_n 3, 1) := by decide +kernel
theorem dX5_mostGain_8 : decode cX5_mostGain 8 = .ok (.iload_n 1, 1) := by decide +kernel
theorem dX5_mostGain_9 : decode cX5_mostGain 9 = .ok (.iload_n 3, 1) := by decide +kernel
theorem dX5_mostGain_10 : decode cX5_mostGain 10 = .ok (.iload_n 2, 1) := by decide +kernel
theorem dX5_mostGain_11 : decode cX5_mostGain 11 = .ok (.if_icmp .ne 7, 3) := by decide +kernel
theorem dX5_mostGain_14 : decode cX5_mostGain 14 = .ok (.iconst 0, 1) := by decide +kernel
theorem dX5_mostGain_15 : decode cX5_mostGain 15 = .ok (.goto 9, 3) := by decide +kernel
theorem dX5_mostGain_18 : decode cX5_mostGain 18 = .ok (.aload_n 0, 1) := by decide +kernel
theorem dX5_mostGain_19 : decode cX5_mostGain 19 = .ok (.getfield 16, 3) := by decide +kernel
theorem dX5_mostGain_22 : decode cX5_mostGain 22 = .ok (.iload_n 3, 1) := by decide +kernel
theorem dX5_mostGain_23 : decode cX5_mostGain 23 = .ok (.iaload, 1) := by decide +kernel
theorem dX5_mostGain_24 : decode cX5_mostGain 24 = .ok (.invokevirtual 60, 3) := by decide +kernel
theorem dX5_mostGain_27 : decode cX5_mostGain 27 = .ok (.iinc 3 (-1), 3) := by decide +kernel
theorem dX5_mostGain_30 : decode cX5_mostGain 30 = .ok (.goto (-28), 3) := by decide +kernel
theorem dX5_mostGain_33 : decode cX5_mostGain 33 = .ok (.aload_n 0, 1) := by decide +kernel
theorem dX5_mostGain_34 : decode cX5_mostGain 34 = .ok (.getfield 20, 3) := by decide +kernel
theorem dX5_mostGain_37 : decode cX5_mostGain 37 = .ok (.iconst 0, 1) := by decide +kernel
theorem dX5_mostGain_38 : decode cX5_mostGain 38 = .ok (.aaload, 1) := by decide +kernel
theorem dX5_mostGain_39 : decode cX5_mostGain 39 = .ok (.iload_n 1, 1) := by decide +kernel
theorem dX5_mostGain_40 : decode cX5_mostGain 40 = .ok (.laload, 1) := by decide +kernel
theorem dX5_mostGain_41 : decode cX5_mostGain 41 = .ok (.lreturn, 1) := by decide +kernel
theorem dX5_chooseBest_0 : decode cX5_chooseBest 0 = .ok (.aload_n 0, 1) := by decide +kernel
theorem dX5_chooseBest_1 : decode cX5_chooseBest 1 = .ok (.iload_n 1, 1) := by decide +kernel
theorem dX5_chooseBest_2 : decode cX5_chooseBest 2 = .ok (.iconst (-1), 1) := by decide +kernel
theorem dX5_chooseBest_3 : decode cX5_chooseBest 3 = .ok (.invokevirtual 70, 3) := by decide +kernel
theorem dX5_chooseBest_6 : decode cX5_chooseBest 6 = .ok (.lstore_n 2, 1) := by decide +kernel
theorem dX5_chooseBest_7 : decode cX5_chooseBest 7 = .ok (.iconst 0, 1) := by decide +kernel
theorem dX5_chooseBest_8 : decode cX5_chooseBest 8 = .ok (.istore 4, 2) := by decide +kernel
theorem dX5_chooseBest_10 : decode cX5_chooseBest 10 = .ok (.iload 4, 2) := by decide +kernel
theorem dX5_chooseBest_12 : decode cX5_chooseBest 12 = .ok (.iload_n 1, 1) := by decide +kernel
theorem dX5_chooseBest_13 : decode cX5_chooseBest 13 = .ok (.if_icmp .ge 23, 3) := by decide +kernel
theorem dX5_chooseBest_16 : decode cX5_chooseBest 16 = .ok (.aload_n 0, 1) := by decide +kernel
theorem dX5_chooseBest_17 : decode cX5_chooseBest 17 = .ok (.getfield 20, 3) := by decide +kernel
theorem dX5_chooseBest_20 : decode cX5_chooseBest 20 = .ok (.iconst 0, 1) := by decide +kernel
theorem dX5_chooseBest_21 : decode cX5_chooseBest 21 = .ok (.aaload, 1) := by decide +kernel
theorem dX5_chooseBest_22 : decode cX5_chooseBest 22 = .ok (.iload 4, 2) := by decide +kernel
theorem dX5_chooseBest_24 : decode cX5_chooseBest 24 = .ok (.laload, 1) := by decide +kernel
theorem dX5_chooseBest_25 : decode cX5_chooseBest 25 = .ok (.lload_n 2, 1) := by decide +kernel
theorem dX5_chooseBest_26 : decode cX5_chooseBest 26 = .ok (.lcmp, 1) := by decide +kernel
theorem dX5_chooseBest_27 : decode cX5_chooseBest 27 = .ok (.ifCond .ge 9, 3) := by decide +kernel
theorem dX5_chooseBest_30 : decode cX5_chooseBest 30 = .ok (.iinc 4 1, 3) := by decide +kernel
theorem dX5_chooseBest_33 : decode cX5_chooseBest 33 = .ok (.goto (-23), 3) := by decide +kernel
theorem dX5_chooseBest_36 : decode cX5_chooseBest 36 = .ok (.iconst 0, 1) := by decide +kernel
theorem dX5_chooseBest_37 : decode cX5_chooseBest 37 = .ok (.istore 5, 2) := by decide +kernel
theorem dX5_chooseBest_39 : decode cX5_chooseBest 39 = .ok (.iload 5, 2) := by decide +kernel
theorem dX5_chooseBest_41 : decode cX5_chooseBest 41 = .ok (.bipush 6, 2) := by decide +kernel
theorem dX5_chooseBest_43 : decode cX5_chooseBest 43 = .ok (.if_icmp .ge 49, 3) := by decide +kernel
theorem dX5_chooseBest_46 : decode cX5_chooseBest 46 = .ok (.aload_n 0, 1) := by decide +kernel
theorem dX5_chooseBest_47 : decode cX5_chooseBest 47 = .ok (.getfield 27, 3) := by decide +kernel
theorem dX5_chooseBest_50 : decode cX5_chooseBest 50 = .ok (.iload 5, 2) := by decide +kernel
theorem dX5_chooseBest_52 : decode cX5_chooseBest 52 = .ok (.aload_n 0, 1) := by decide +kernel
theorem dX5_chooseBest_53 : decode cX5_chooseBest 53 = .ok (.iload 5, 2) := by decide +kernel
theorem dX5_chooseBest_55 : decode cX5_chooseBest 55 = .ok (.iload 4, 2) := by decide +kernel
theorem dX5_chooseBest_57 : decode cX5_chooseBest 57 = .ok (.invokevirtual 74, 3) := by decide +kernel
theorem dX5_chooseBest_60 : decode cX5_chooseBest 60 = .ok (.iastore, 1) := by decide +kernel
theorem dX5_chooseBest_61 : decode cX5_chooseBest 61 = .ok (.iload 4, 2) := by decide +kernel
theorem dX5_chooseBest_63 : decode cX5_chooseBest 63 = .ok (.aload_n 0, 1) := by decide +kernel
theorem dX5_chooseBest_64 : decode cX5_chooseBest 64 = .ok (.getfield 27, 3) := by decide +kernel
theorem dX5_chooseBest_67 : decode cX5_chooseBest 67 = .ok (.iload 5, 2) := by decide +kernel
theorem dX5_chooseBest_69 : decode cX5_chooseBest 69 = .ok (.iaload, 1) := by decide +kernel
theorem dX5_chooseBest_70 : decode cX5_chooseBest 70 = .ok (.aload_n 0, 1) := by decide +kernel
theorem dX5_chooseBest_71 : decode cX5_chooseBest 71 = .ok (.getfield 40, 3) := by decide +kernel
theorem dX5_chooseBest_74 : decode cX5_chooseBest 74 = .ok (.getfield 44, 3) := by decide +kernel
theorem dX5_chooseBest_77 : decode cX5_chooseBest 77 = .ok (.iload 5, 2) := by decide +kernel
theorem dX5_chooseBest_79 : decode cX5_chooseBest 79 = .ok (.aaload, 1) := by decide +kernel
theorem dX5_chooseBest_80 : decode cX5_chooseBest 80 = .ok (.iconst 1, 1) := by decide +kernel
theorem dX5_chooseBest_81 : decode cX5_chooseBest 81 = .ok (.iaload, 1) := by decide +kernel
theorem dX5_chooseBest_82 : decode cX5_chooseBest 82 = .ok (.imul, 1) := by decide +kernel
theorem dX5_chooseBest_83 : decode cX5_chooseBest 83 = .ok (.isub, 1) := by decide +kernel
theorem dX5_chooseBest_84 : decode cX5_chooseBest 84 = .ok (.istore 4, 2) := by decide +kernel
theorem dX5_chooseBest_86 : decode cX5_chooseBest 86 = .ok (.iinc 5 1, 3) := by decide +kernel
theorem dX5_chooseBest_89 : decode cX5_chooseBest 89 = .ok (.goto (-50), 3) := by decide +kernel
theorem dX5_chooseBest_92 : decode cX5_chooseBest 92 = .ok (.return_, 1) := by decide +kernel
theorem dX5_stepGain_0 : decode cX5_stepGain 0 = .ok (.aload_n 0, 1) := by decide +kernel
theorem dX5_stepGain_1 : decode cX5_stepGain 1 = .ok (.getfield 11, 3) := by decide +kernel
theorem dX5_stepGain_4 : decode cX5_stepGain 4 = .ok (.iload_n 1, 1) := by decide +kernel
theorem dX5_stepGain_5 : decode cX5_stepGain 5 = .ok (.aaload, 1) := by decide +kernel
theorem dX5_stepGain_6 : decode cX5_stepGain 6 = .ok (.iload_n 2, 1) := by decide +kernel
theorem dX5_stepGain_7 : decode cX5_stepGain 7 = .ok (.iconst 1, 1) := by decide +kernel
theorem dX5_stepGain_8 : decode cX5_stepGain 8 = .ok (.iadd, 1) := by decide +kernel
theorem dX5_stepGain_9 : decode cX5_stepGain 9 = .ok (.laload, 1) := by decide +kernel
theorem dX5_stepGain_10 : decode cX5_stepGain 10 = .ok (.aload_n 0, 1) := by decide +kernel
theorem dX5_stepGain_11 : decode cX5_stepGain 11 = .ok (.getfield 11, 3) := by decide +kernel
theorem dX5_stepGain_14 : decode cX5_stepGain 14 = .ok (.iload_n 1, 1) := by decide +kernel
theorem dX5_stepGain_15 : decode cX5_stepGain 15 = .ok (.aaload, 1) := by decide +kernel
theorem dX5_stepGain_16 : decode cX5_stepGain 16 = .ok (.iload_n 2, 1) := by decide +kernel
theorem dX5_stepGain_17 : decode cX5_stepGain 17 = .ok (.laload, 1) := by decide +kernel
theorem dX5_stepGain_18 : decode cX5_stepGain 18 = .ok (.lsub, 1) := by decide +kernel
theorem dX5_stepGain_19 : decode cX5_stepGain 19 = .ok (.lreturn, 1) := by decide +kernel
theorem dX5_nextLoaded_0 : decode cX5_nextLoaded 0 = .ok (.iconst (-1), 1) := by decide +kernel
theorem dX5_nextLoaded_1 : decode cX5_nextLoaded 1 = .ok (.istore_n 2, 1) := by decide +kernel
theorem dX5_nextLoaded_2 : decode cX5_nextLoaded 2 = .ok (.lconst 0, 1) := by decide +kernel
theorem dX5_nextLoaded_3 : decode cX5_nextLoaded 3 = .ok (.lstore_n 3, 1) := by decide +kernel
theorem dX5_nextLoaded_4 : decode cX5_nextLoaded 4 = .ok (.iconst 1, 1) := by decide +kernel
theorem dX5_nextLoaded_5 : decode cX5_nextLoaded 5 = .ok (.istore 5, 2) := by decide +kernel
theorem dX5_nextLoaded_7 : decode cX5_nextLoaded 7 = .ok (.iconst 0, 1) := by decide +kernel
theorem dX5_nextLoaded_8 : decode cX5_nextLoaded 8 = .ok (.istore 6, 2) := by decide +kernel
theorem dX5_nextLoaded_10 : decode cX5_nextLoaded 10 = .ok (.iload 6, 2) := by decide +kernel
theorem dX5_nextLoaded_12 : decode cX5_nextLoaded 12 = .ok (.bipush 6, 2) := by decide +kernel
theorem dX5_nextLoaded_14 : decode cX5_nextLoaded 14 = .ok (.if_icmp .ge 80, 3) := by decide +kernel
theorem dX5_nextLoaded_17 : decode cX5_nextLoaded 17 = .ok (.aload_n 0, 1) := by decide +kernel
theorem dX5_nextLoaded_18 : decode cX5_nextLoaded 18 = .ok (.getfield 40, 3) := by decide +kernel
theorem dX5_nextLoaded_21 : decode cX5_nextLoaded 21 = .ok (.getfield 44, 3) := by decide +kernel
theorem dX5_nextLoaded_24 : decode cX5_nextLoaded 24 = .ok (.iload 6, 2) := by decide +kernel
theorem dX5_nextLoaded_26 : decode cX5_nextLoaded 26 = .ok (.aaload, 1) := by decide +kernel
theorem dX5_nextLoaded_27 : decode cX5_nextLoaded 27 = .ok (.iconst 1, 1) := by decide +kernel
theorem dX5_nextLoaded_28 : decode cX5_nextLoaded 28 = .ok (.iaload, 1) := by decide +kernel
theorem dX5_nextLoaded_29 : decode cX5_nextLoaded 29 = .ok (.istore 7, 2) := by decide +kernel
theorem dX5_nextLoaded_31 : decode cX5_nextLoaded 31 = .ok (.aload_n 0, 1) := by decide +kernel
theorem dX5_nextLoaded_32 : decode cX5_nextLoaded 32 = .ok (.getfield 30, 3) := by decide +kernel
theorem dX5_nextLoaded_35 : decode cX5_nextLoaded 35 = .ok (.iload 6, 2) := by decide +kernel
theorem dX5_nextLoaded_37 : decode cX5_nextLoaded 37 = .ok (.iaload, 1) := by decide +kernel
theorem dX5_nextLoaded_38 : decode cX5_nextLoaded 38 = .ok (.iconst 4, 1) := by decide +kernel
theorem dX5_nextLoaded_39 : decode cX5_nextLoaded 39 = .ok (.if_icmp .ge 49, 3) := by decide +kernel
theorem dX5_nextLoaded_42 : decode cX5_nextLoaded 42 = .ok (.iload 7, 2) := by decide +kernel
theorem dX5_nextLoaded_44 : decode cX5_nextLoaded 44 = .ok (.iload_n 1, 1) := by decide +kernel
theorem dX5_nextLoaded_45 : decode cX5_nextLoaded 45 = .ok (.if_icmp .gt 43, 3) := by decide +kernel
theorem dX5_nextLoaded_48 : decode cX5_nextLoaded 48 = .ok (.aload_n 0, 1) := by decide +kernel
theorem dX5_nextLoaded_49 : decode cX5_nextLoaded 49 = .ok (.iload 6, 2) := by decide +kernel
theorem dX5_nextLoaded_51 : decode cX5_nextLoaded 51 = .ok (.aload_n 0, 1) := by decide +kernel
theorem dX5_nextLoaded_52 : decode cX5_nextLoaded 52 = .ok (.getfield 30, 3) := by decide +kernel
theorem dX5_nextLoaded_55 : decode cX5_nextLoaded 55 = .ok (.iload 6, 2) := by decide +kernel
theorem dX5_nextLoaded_57 : decode cX5_nextLoaded 57 = .ok (.iaload, 1) := by decide +kernel
theorem dX5_nextLoaded_58 : decode cX5_nextLoaded 58 = .ok (.invokevirtual 82, 3) := by decide +kernel
theorem dX5_nextLoaded_61 : decode cX5_nextLoaded 61 = .ok (.lstore 8, 2) := by decide +kernel
theorem dX5_nextLoaded_63 : decode cX5_nextLoaded 63 = .ok (.lload 8, 2) := by decide +kernel
theorem dX5_nextLoaded_65 : decode cX5_nextLoaded 65 = .ok (.iload 5, 2) := by decide +kernel
theorem dX5_nextLoaded_67 : decode cX5_nextLoaded 67 = .ok (.i2l, 1) := by decide +kernel
theorem dX5_nextLoaded_68 : decode cX5_nextLoaded 68 = .ok (.lmul, 1) := by decide +kernel
theorem dX5_nextLoaded_69 : decode cX5_nextLoaded 69 = .ok (.lload_n 3, 1) := by decide +kernel
theorem dX5_nextLoaded_70 : decode cX5_nextLoaded 70 = .ok (.iload 7, 2) := by decide +kernel
theorem dX5_nextLoaded_72 : decode cX5_nextLoaded 72 = .ok (.i2l, 1) := by decide +kernel
theorem dX5_nextLoaded_73 : decode cX5_nextLoaded 73 = .ok (.lmul, 1) := by decide +kernel
theorem dX5_nextLoaded_74 : decode cX5_nextLoaded 74 = .ok (.lcmp, 1) := by decide +kernel
theorem dX5_nextLoaded_75 : decode cX5_nextLoaded 75 = .ok (.ifCond .le 13, 3) := by decide +kernel
theorem dX5_nextLoaded_78 : decode cX5_nextLoaded 78 = .ok (.iload 6, 2) := by decide +kernel
theorem dX5_nextLoaded_80 : decode cX5_nextLoaded 80 = .ok (.istore_n 2, 1) := by decide +kernel
theorem dX5_nextLoaded_81 : decode cX5_nextLoaded 81 = .ok (.lload 8, 2) := by decide +kernel
theorem dX5_nextLoaded_83 : decode cX5_nextLoaded 83 = .ok (.lstore_n 3, 1) := by decide +kernel
theorem dX5_nextLoaded_84 : decode cX5_nextLoaded 84 = .ok (.iload 7, 2) := by decide +kernel
theorem dX5_nextLoaded_86 : decode cX5_nextLoaded 86 = .ok (.istore 5, 2) := by decide +kernel
theorem dX5_nextLoaded_88 : decode cX5_nextLoaded 88 = .ok (.iinc 6 1, 3) := by decide +kernel
theorem dX5_nextLoaded_91 : decode cX5_nextLoaded 91 = .ok (.goto (-81), 3) := by decide +kernel
theorem dX5_nextLoaded_94 : decode cX5_nextLoaded 94 = .ok (.iload_n 2, 1) := by decide +kernel
theorem dX5_nextLoaded_95 : decode cX5_nextLoaded 95 = .ok (.ireturn, 1) := by decide +kernel
theorem dX5_chooseLoaded_0 : decode cX5_chooseLoaded 0 = .ok (.iload_n 1, 1) := by decide +kernel
theorem dX5_chooseLoaded_1 : decode cX5_chooseLoaded 1 = .ok (.istore_n 2, 1) := by decide +kernel
theorem dX5_chooseLoaded_2 : decode cX5_chooseLoaded 2 = .ok (.iconst 0, 1) := by decide +kernel
theorem dX5_chooseLoaded_3 : decode cX5_chooseLoaded 3 = .ok (.istore_n 3, 1) := by decide +kernel
theorem dX5_chooseLoaded_4 : decode cX5_chooseLoaded 4 = .ok (.iload_n 3, 1) := by decide +kernel
theorem dX5_chooseLoaded_5 : decode cX5_chooseLoaded 5 = .ok (.bipush 6, 2) := by decide +kernel
theorem dX5_chooseLoaded_7 : decode cX5_chooseLoaded 7 = .ok (.if_icmp .ge 16, 3) := by decide +kernel
theorem dX5_chooseLoaded_10 : decode cX5_chooseLoaded 10 = .ok (.aload_n 0, 1) := by decide +kernel
theorem dX5_chooseLoaded_11 : decode cX5_chooseLoaded 11 = .ok (.getfield 30, 3) := by decide +kernel
theorem dX5_chooseLoaded_14 : decode cX5_chooseLoaded 14 = .ok (.iload_n 3, 1) := by decide +kernel
theorem dX5_chooseLoaded_15 : decode cX5_chooseLoaded 15 = .ok (.iconst 0, 1) := by decide +kernel
theorem dX5_chooseLoaded_16 : decode cX5_chooseLoaded 16 = .ok (.iastore, 1) := by decide +kernel
theorem dX5_chooseLoaded_17 : decode cX5_chooseLoaded 17 = .ok (.iinc 3 1, 3) := by decide +kernel
theorem dX5_chooseLoaded_20 : decode cX5_chooseLoaded 20 = .ok (.goto (-16), 3) := by decide +kernel
theorem dX5_chooseLoaded_23 : decode cX5_chooseLoaded 23 = .ok (.iconst 0, 1) := by decide +kernel
theorem dX5_chooseLoaded_24 : decode cX5_chooseLoaded 24 = .ok (.istore_n 3, 1) := by decide +kernel
theorem dX5_chooseLoaded_25 : decode cX5_chooseLoaded 25 = .ok (.iload_n 3, 1) := by decide +kernel
theorem dX5_chooseLoaded_26 : decode cX5_chooseLoaded 26 = .ok (.bipush 24, 2) := by decide +kernel
theorem dX5_chooseLoaded_28 : decode cX5_chooseLoaded 28 = .ok (.if_icmp .ge 49, 3) := by decide +kernel
theorem dX5_chooseLoaded_31 : decode cX5_chooseLoaded 31 = .ok (.aload_n 0, 1) := by decide +kernel
theorem dX5_chooseLoaded_32 : decode cX5_chooseLoaded 32 = .ok (.iload_n 2, 1) := by decide +kernel
theorem dX5_chooseLoaded_33 : decode cX5_chooseLoaded 33 = .ok (.invokevirtual 78, 3) := by decide +kernel
theorem dX5_chooseLoaded_36 : decode cX5_chooseLoaded 36 = .ok (.istore 4, 2) := by decide +kernel
theorem dX5_chooseLoaded_38 : decode cX5_chooseLoaded 38 = .ok (.iload 4, 2) := by decide +kernel
theorem dX5_chooseLoaded_40 : decode cX5_chooseLoaded 40 = .ok (.iconst (-1), 1) := by decide +kernel
theorem dX5_chooseLoaded_41 : decode cX5_chooseLoaded 41 = .ok (.if_icmp .ne 4, 3) := by decide +kernel
theorem dX5_chooseLoaded_44 : decode cX5_chooseLoaded 44 = .ok (.return_, 1) := by decide +kernel
theorem dX5_chooseLoaded_45 : decode cX5_chooseLoaded 45 = .ok (.aload_n 0, 1) := by decide +kernel
theorem dX5_chooseLoaded_46 : decode cX5_chooseLoaded 46 = .ok (.getfield 30, 3) := by decide +kernel
theorem dX5_chooseLoaded_49 : decode cX5_chooseLoaded 49 = .ok (.iload 4, 2) := by decide +kernel
theorem dX5_chooseLoaded_51 : decode cX5_chooseLoaded 51 = .ok (.dup2, 1) := by decide +kernel
theorem dX5_chooseLoaded_52 : decode cX5_chooseLoaded 52 = .ok (.iaload, 1) := by decide +kernel
theorem dX5_chooseLoaded_53 : decode cX5_chooseLoaded 53 = .ok (.iconst 1, 1) := by decide +kernel
theorem dX5_chooseLoaded_54 : decode cX5_chooseLoaded 54 = .ok (.iadd, 1) := by decide +kernel
theorem dX5_chooseLoaded_55 : decode cX5_chooseLoaded 55 = .ok (.iastore, 1) := by decide +kernel
theorem dX5_chooseLoaded_56 : decode cX5_chooseLoaded 56 = .ok (.iload_n 2, 1) := by decide +kernel
theorem dX5_chooseLoaded_57 : decode cX5_chooseLoaded 57 = .ok (.aload_n 0, 1) := by decide +kernel
theorem dX5_chooseLoaded_58 : decode cX5_chooseLoaded 58 = .ok (.getfield 40, 3) := by decide +kernel
theorem dX5_chooseLoaded_61 : decode cX5_chooseLoaded 61 = .ok (.getfield 44, 3) := by decide +kernel
theorem dX5_chooseLoaded_64 : decode cX5_chooseLoaded 64 = .ok (.iload 4, 2) := by decide +kernel
theorem dX5_chooseLoaded_66 : decode cX5_chooseLoaded 66 = .ok (.aaload, 1) := by decide +kernel
theorem dX5_chooseLoaded_67 : decode cX5_chooseLoaded 67 = .ok (.iconst 1, 1) := by decide +kernel
theorem dX5_chooseLoaded_68 : decode cX5_chooseLoaded 68 = .ok (.iaload, 1) := by decide +kernel
theorem dX5_chooseLoaded_69 : decode cX5_chooseLoaded 69 = .ok (.isub, 1) := by decide +kernel
theorem dX5_chooseLoaded_70 : decode cX5_chooseLoaded 70 = .ok (.istore_n 2, 1) := by decide +kernel
theorem dX5_chooseLoaded_71 : decode cX5_chooseLoaded 71 = .ok (.iinc 3 1, 3) := by decide +kernel
theorem dX5_chooseLoaded_74 : decode cX5_chooseLoaded 74 = .ok (.goto (-49), 3) := by decide +kernel
theorem dX5_chooseLoaded_77 : decode cX5_chooseLoaded 77 = .ok (.return_, 1) := by decide +kernel
theorem dX5_nextStep_0 : decode cX5_nextStep 0 = .ok (.iconst (-1), 1) := by decide +kernel
theorem dX5_nextStep_1 : decode cX5_nextStep 1 = .ok (.istore_n 1, 1) := by decide +kernel
theorem dX5_nextStep_2 : decode cX5_nextStep 2 = .ok (.lconst 0, 1) := by decide +kernel
theorem dX5_nextStep_3 : decode cX5_nextStep 3 = .ok (.lstore_n 2, 1) := by decide +kernel
theorem dX5_nextStep_4 : decode cX5_nextStep 4 = .ok (.iconst 1, 1) := by decide +kernel
theorem dX5_nextStep_5 : decode cX5_nextStep 5 = .ok (.istore 4, 2) := by decide +kernel
theorem dX5_nextStep_7 : decode cX5_nextStep 7 = .ok (.iconst 0, 1) := by decide +kernel
theorem dX5_nextStep_8 : decode cX5_nextStep 8 = .ok (.istore 5, 2) := by decide +kernel
theorem dX5_nextStep_10 : decode cX5_nextStep 10 = .ok (.iload 5, 2) := by decide +kernel
theorem dX5_nextStep_12 : decode cX5_nextStep 12 = .ok (.bipush 24, 2) := by decide +kernel
theorem dX5_nextStep_14 : decode cX5_nextStep 14 = .ok (.if_icmp .ge 74, 3) := by decide +kernel
theorem dX5_nextStep_17 : decode cX5_nextStep 17 = .ok (.aload_n 0, 1) := by decide +kernel
theorem dX5_nextStep_18 : decode cX5_nextStep 18 = .ok (.getfield 40, 3) := by decide +kernel
theorem dX5_nextStep_21 : decode cX5_nextStep 21 = .ok (.getfield 44, 3) := by decide +kernel
theorem dX5_nextStep_24 : decode cX5_nextStep 24 = .ok (.iload 5, 2) := by decide +kernel
theorem dX5_nextStep_26 : decode cX5_nextStep 26 = .ok (.iconst 4, 1) := by decide +kernel
theorem dX5_nextStep_27 : decode cX5_nextStep 27 = .ok (.idiv, 1) := by decide +kernel
theorem dX5_nextStep_28 : decode cX5_nextStep 28 = .ok (.aaload, 1) := by decide +kernel
theorem dX5_nextStep_29 : decode cX5_nextStep 29 = .ok (.iconst 1, 1) := by decide +kernel
theorem dX5_nextStep_30 : decode cX5_nextStep 30 = .ok (.iaload, 1) := by decide +kernel
theorem dX5_nextStep_31 : decode cX5_nextStep 31 = .ok (.istore 6, 2) := by decide +kernel
theorem dX5_nextStep_33 : decode cX5_nextStep 33 = .ok (.aload_n 0, 1) := by decide +kernel
theorem dX5_nextStep_34 : decode cX5_nextStep 34 = .ok (.iload 5, 2) := by decide +kernel
theorem dX5_nextStep_36 : decode cX5_nextStep 36 = .ok (.iconst 4, 1) := by decide +kernel
theorem dX5_nextStep_37 : decode cX5_nextStep 37 = .ok (.idiv, 1) := by decide +kernel
theorem dX5_nextStep_38 : decode cX5_nextStep 38 = .ok (.iload 5, 2) := by decide +kernel
theorem dX5_nextStep_40 : decode cX5_nextStep 40 = .ok (.iconst 4, 1) := by decide +kernel
theorem dX5_nextStep_41 : decode cX5_nextStep 41 = .ok (.irem, 1) := by decide +kernel
theorem dX5_nextStep_42 : decode cX5_nextStep 42 = .ok (.invokevirtual 82, 3) := by decide +kernel
theorem dX5_nextStep_45 : decode cX5_nextStep 45 = .ok (.lstore 7, 2) := by decide +kernel
theorem dX5_nextStep_47 : decode cX5_nextStep 47 = .ok (.aload_n 0, 1) := by decide +kernel
theorem dX5_nextStep_48 : decode cX5_nextStep 48 = .ok (.getfield 23, 3) := by decide +kernel
theorem dX5_nextStep_51 : decode cX5_nextStep 51 = .ok (.iload 5, 2) := by decide +kernel
theorem dX5_nextStep_53 : decode cX5_nextStep 53 = .ok (.baload, 1) := by decide +kernel
theorem dX5_nextStep_54 : decode cX5_nextStep 54 = .ok (.ifCond .ne 28, 3) := by decide +kernel
theorem dX5_nextStep_57 : decode cX5_nextStep 57 = .ok (.lload 7, 2) := by decide +kernel
theorem dX5_nextStep_59 : decode cX5_nextStep 59 = .ok (.iload 4, 2) := by decide +kernel
theorem dX5_nextStep_61 : decode cX5_nextStep 61 = .ok (.i2l, 1) := by decide +kernel
theorem dX5_nextStep_62 : decode cX5_nextStep 62 = .ok (.lmul, 1) := by decide +kernel
theorem dX5_nextStep_63 : decode cX5_nextStep 63 = .ok (.lload_n 2, 1) := by decide +kernel
theorem dX5_nextStep_64 : decode cX5_nextStep 64 = .ok (.iload 6, 2) := by decide +kernel
theorem dX5_nextStep_66 : decode cX5_nextStep 66 = .ok (.i2l, 1) := by decide +kernel
theorem dX5_nextStep_67 : decode cX5_nextStep 67 = .ok (.lmul, 1) := by decide +kernel
theorem dX5_nextStep_68 : decode cX5_nextStep 68 = .ok (.lcmp, 1) := by decide +kernel
theorem dX5_nextStep_69 : decode cX5_nextStep 69 = .ok (.ifCond .le 13, 3) := by decide +kernel
theorem dX5_nextStep_72 : decode cX5_nextStep 72 = .ok (.iload 5, 2) := by decide +kernel
theorem dX5_nextStep_74 : decode cX5_nextStep 74 = .ok (.istore_n 1, 1) := by decide +kernel
theorem dX5_nextStep_75 : decode cX5_nextStep 75 = .ok (.lload 7, 2) := by decide +kernel
theorem dX5_nextStep_77 : decode cX5_nextStep 77 = .ok (.lstore_n 2, 1) := by decide +kernel
theorem dX5_nextStep_78 : decode cX5_nextStep 78 = .ok (.iload 6, 2) := by decide +kernel
theorem dX5_nextStep_80 : decode cX5_nextStep 80 = .ok (.istore 4, 2) := by decide +kernel
theorem dX5_nextStep_82 : decode cX5_nextStep 82 = .ok (.iinc 5 1, 3) := by decide +kernel
theorem dX5_nextStep_85 : decode cX5_nextStep 85 = .ok (.goto (-75), 3) := by decide +kernel
theorem dX5_nextStep_88 : decode cX5_nextStep 88 = .ok (.iload_n 1, 1) := by decide +kernel
theorem dX5_nextStep_89 : decode cX5_nextStep 89 = .ok (.ireturn, 1) := by decide +kernel
theorem dX5_findBound_0 : decode cX5_findBound 0 = .ok (.iconst 0, 1) := by decide +kernel
theorem dX5_findBound_1 : decode cX5_findBound 1 = .ok (.istore_n 2, 1) := by decide +kernel
theorem dX5_findBound_2 : decode cX5_findBound 2 = .ok (.iload_n 2, 1) := by decide +kernel
theorem dX5_findBound_3 : decode cX5_findBound 3 = .ok (.bipush 24, 2) := by decide +kernel
theorem dX5_findBound_5 : decode cX5_findBound 5 = .ok (.if_icmp .ge 16, 3) := by decide +kernel
theorem dX5_findBound_8 : decode cX5_findBound 8 = .ok (.aload_n 0, 1) := by decide +kernel
theorem dX5_findBound_9 : decode cX5_findBound 9 = .ok (.getfield 23, 3) := by decide +kernel
theorem dX5_findBound_12 : decode cX5_findBound 12 = .ok (.iload_n 2, 1) := by decide +kernel
theorem dX5_findBound_13 : decode cX5_findBound 13 = .ok (.iconst 0, 1) := by decide +kernel
theorem dX5_findBound_14 : decode cX5_findBound 14 = .ok (.bastore, 1) := by decide +kernel
theorem dX5_findBound_15 : decode cX5_findBound 15 = .ok (.iinc 2 1, 3) := by decide +kernel
theorem dX5_findBound_18 : decode cX5_findBound 18 = .ok (.goto (-16), 3) := by decide +kernel
theorem dX5_findBound_21 : decode cX5_findBound 21 = .ok (.aload_n 0, 1) := by decide +kernel
theorem dX5_findBound_22 : decode cX5_findBound 22 = .ok (.lconst 0, 1) := by decide +kernel
theorem dX5_findBound_23 : decode cX5_findBound 23 = .ok (.putfield 33, 3) := by decide +kernel
theorem dX5_findBound_26 : decode cX5_findBound 26 = .ok (.aload_n 0, 1) := by decide +kernel
theorem dX5_findBound_27 : decode cX5_findBound 27 = .ok (.ldc2_w 50, 3) := by decide +kernel
theorem dX5_findBound_30 : decode cX5_findBound 30 = .ok (.putfield 37, 3) := by decide +kernel
theorem dX5_findBound_33 : decode cX5_findBound 33 = .ok (.iload_n 1, 1) := by decide +kernel
theorem dX5_findBound_34 : decode cX5_findBound 34 = .ok (.istore_n 2, 1) := by decide +kernel
theorem dX5_findBound_35 : decode cX5_findBound 35 = .ok (.iconst 0, 1) := by decide +kernel
theorem dX5_findBound_36 : decode cX5_findBound 36 = .ok (.istore_n 3, 1) := by decide +kernel
theorem dX5_findBound_37 : decode cX5_findBound 37 = .ok (.iload_n 3, 1) := by decide +kernel
theorem dX5_findBound_38 : decode cX5_findBound 38 = .ok (.bipush 24, 2) := by decide +kernel
theorem dX5_findBound_40 : decode cX5_findBound 40 = .ok (.if_icmp .ge 118, 3) := by decide +kernel
theorem dX5_findBound_43 : decode cX5_findBound 43 = .ok (.iload_n 2, 1) := by decide +kernel
theorem dX5_findBound_44 : decode cX5_findBound 44 = .ok (.ifCond .le 114, 3) := by decide +kernel
theorem dX5_findBound_47 : decode cX5_findBound 47 = .ok (.aload_n 0, 1) := by decide +kernel
theorem dX5_findBound_48 : decode cX5_findBound 48 = .ok (.invokevirtual 85, 3) := by decide +kernel
theorem dX5_findBound_51 : decode cX5_findBound 51 = .ok (.istore 4, 2) := by decide +kernel
theorem dX5_findBound_53 : decode cX5_findBound 53 = .ok (.iload 4, 2) := by decide +kernel
theorem dX5_findBound_55 : decode cX5_findBound 55 = .ok (.iconst (-1), 1) := by decide +kernel
theorem dX5_findBound_56 : decode cX5_findBound 56 = .ok (.if_icmp .ne 4, 3) := by decide +kernel
theorem dX5_findBound_59 : decode cX5_findBound 59 = .ok (.return_, 1) := by decide +kernel
theorem dX5_findBound_60 : decode cX5_findBound 60 = .ok (.aload_n 0, 1) := by decide +kernel
theorem dX5_findBound_61 : decode cX5_findBound 61 = .ok (.getfield 23, 3) := by decide +kernel
theorem dX5_findBound_64 : decode cX5_findBound 64 = .ok (.iload 4, 2) := by decide +kernel
theorem dX5_findBound_66 : decode cX5_findBound 66 = .ok (.iconst 1, 1) := by decide +kernel
theorem dX5_findBound_67 : decode cX5_findBound 67 = .ok (.bastore, 1) := by decide +kernel
theorem dX5_findBound_68 : decode cX5_findBound 68 = .ok (.aload_n 0, 1) := by decide +kernel
theorem dX5_findBound_69 : decode cX5_findBound 69 = .ok (.iload 4, 2) := by decide +kernel
theorem dX5_findBound_71 : decode cX5_findBound 71 = .ok (.iconst 4, 1) := by decide +kernel
theorem dX5_findBound_72 : decode cX5_findBound 72 = .ok (.idiv, 1) := by decide +kernel
theorem dX5_findBound_73 : decode cX5_findBound 73 = .ok (.iload 4, 2) := by decide +kernel
theorem dX5_findBound_75 : decode cX5_findBound 75 = .ok (.iconst 4, 1) := by decide +kernel
theorem dX5_findBound_76 : decode cX5_findBound 76 = .ok (.irem, 1) := by decide +kernel
theorem dX5_findBound_77 : decode cX5_findBound 77 = .ok (.invokevirtual 82, 3) := by decide +kernel
theorem dX5_findBound_80 : decode cX5_findBound 80 = .ok (.lstore 5, 2) := by decide +kernel
theorem dX5_findBound_82 : decode cX5_findBound 82 = .ok (.aload_n 0, 1) := by decide +kernel
theorem dX5_findBound_83 : decode cX5_findBound 83 = .ok (.getfield 40, 3) := by decide +kernel
theorem dX5_findBound_86 : decode cX5_findBound 86 = .ok (.getfield 44, 3) := by decide +kernel
theorem dX5_findBound_89 : decode cX5_findBound 89 = .ok (.iload 4, 2) := by decide +kernel
theorem dX5_findBound_91 : decode cX5_findBound 91 = .ok (.iconst 4, 1) := by decide +kernel
theorem dX5_findBound_92 : decode cX5_findBound 92 = .ok (.idiv, 1) := by decide +kernel
theorem dX5_findBound_93 : decode cX5_findBound 93 = .ok (.aaload, 1) := by decide +kernel
theorem dX5_findBound_94 : decode cX5_findBound 94 = .ok (.iconst 1, 1) := by decide +kernel
theorem dX5_findBound_95 : decode cX5_findBound 95 = .ok (.iaload, 1) := by decide +kernel
theorem dX5_findBound_96 : decode cX5_findBound 96 = .ok (.istore 7, 2) := by decide +kernel
theorem dX5_findBound_98 : decode cX5_findBound 98 = .ok (.iload 7, 2) := by decide +kernel
theorem dX5_findBound_100 : decode cX5_findBound 100 = .ok (.iload_n 2, 1) := by decide +kernel
theorem dX5_findBound_101 : decode cX5_findBound 101 = .ok (.if_icmp .gt 17, 3) := by decide +kernel
theorem dX5_findBound_104 : decode cX5_findBound 104 = .ok (.aload_n 0, 1) := by decide +kernel
theorem dX5_findBound_105 : decode cX5_findBound 105 = .ok (.dup, 1) := by decide +kernel
theorem dX5_findBound_106 : decode cX5_findBound 106 = .ok (.getfield 33, 3) := by decide +kernel
theorem dX5_findBound_109 : decode cX5_findBound 109 = .ok (.lload 5, 2) := by decide +kernel
theorem dX5_findBound_111 : decode cX5_findBound 111 = .ok (.ladd, 1) := by decide +kernel
theorem dX5_findBound_112 : decode cX5_findBound 112 = .ok (.putfield 33, 3) := by decide +kernel
theorem dX5_findBound_115 : decode cX5_findBound 115 = .ok (.goto 32, 3) := by decide +kernel
theorem dX5_findBound_118 : decode cX5_findBound 118 = .ok (.aload_n 0, 1) := by decide +kernel
theorem dX5_findBound_119 : decode cX5_findBound 119 = .ok (.aload_n 0, 1) := by decide +kernel
theorem dX5_findBound_120 : decode cX5_findBound 120 = .ok (.getfield 33, 3) := by decide +kernel
theorem dX5_findBound_123 : decode cX5_findBound 123 = .ok (.iload 7, 2) := by decide +kernel
theorem dX5_findBound_125 : decode cX5_findBound 125 = .ok (.i2l, 1) := by decide +kernel
theorem dX5_findBound_126 : decode cX5_findBound 126 = .ok (.lmul, 1) := by decide +kernel
theorem dX5_findBound_127 : decode cX5_findBound 127 = .ok (.lload 5, 2) := by decide +kernel
theorem dX5_findBound_129 : decode cX5_findBound 129 = .ok (.iload_n 2, 1) := by decide +kernel
theorem dX5_findBound_130 : decode cX5_findBound 130 = .ok (.i2l, 1) := by decide +kernel
theorem dX5_findBound_131 : decode cX5_findBound 131 = .ok (.lmul, 1) := by decide +kernel
theorem dX5_findBound_132 : decode cX5_findBound 132 = .ok (.ladd, 1) := by decide +kernel
theorem dX5_findBound_133 : decode cX5_findBound 133 = .ok (.putfield 33, 3) := by decide +kernel
theorem dX5_findBound_136 : decode cX5_findBound 136 = .ok (.aload_n 0, 1) := by decide +kernel
theorem dX5_findBound_137 : decode cX5_findBound 137 = .ok (.ldc2_w 50, 3) := by decide +kernel
theorem dX5_findBound_140 : decode cX5_findBound 140 = .ok (.iload 7, 2) := by decide +kernel
theorem dX5_findBound_142 : decode cX5_findBound 142 = .ok (.i2l, 1) := by decide +kernel
theorem dX5_findBound_143 : decode cX5_findBound 143 = .ok (.lmul, 1) := by decide +kernel
theorem dX5_findBound_144 : decode cX5_findBound 144 = .ok (.putfield 37, 3) := by decide +kernel
theorem dX5_findBound_147 : decode cX5_findBound 147 = .ok (.iload_n 2, 1) := by decide +kernel
theorem dX5_findBound_148 : decode cX5_findBound 148 = .ok (.iload 7, 2) := by decide +kernel
theorem dX5_findBound_150 : decode cX5_findBound 150 = .ok (.isub, 1) := by decide +kernel
theorem dX5_findBound_151 : decode cX5_findBound 151 = .ok (.istore_n 2, 1) := by decide +kernel
theorem dX5_findBound_152 : decode cX5_findBound 152 = .ok (.iinc 3 1, 3) := by decide +kernel
theorem dX5_findBound_155 : decode cX5_findBound 155 = .ok (.goto (-118), 3) := by decide +kernel
theorem dX5_findBound_158 : decode cX5_findBound 158 = .ok (.return_, 1) := by decide +kernel
theorem dX5_gainOf_0 : decode cX5_gainOf 0 = .ok (.lconst 0, 1) := by decide +kernel
theorem dX5_gainOf_1 : decode cX5_gainOf 1 = .ok (.lstore_n 2, 1) := by decide +kernel
theorem dX5_gainOf_2 : decode cX5_gainOf 2 = .ok (.iconst 0, 1) := by decide +kernel
theorem dX5_gainOf_3 : decode cX5_gainOf 3 = .ok (.istore 4, 2) := by decide +kernel
theorem dX5_gainOf_5 : decode cX5_gainOf 5 = .ok (.iload 4, 2) := by decide +kernel
theorem dX5_gainOf_7 : decode cX5_gainOf 7 = .ok (.bipush 6, 2) := by decide +kernel
theorem dX5_gainOf_9 : decode cX5_gainOf 9 = .ok (.if_icmp .ge 24, 3) := by decide +kernel
theorem dX5_gainOf_12 : decode cX5_gainOf 12 = .ok (.lload_n 2, 1) := by decide +kernel
theorem dX5_gainOf_13 : decode cX5_gainOf 13 = .ok (.aload_n 0, 1) := by decide +kernel
theorem dX5_gainOf_14 : decode cX5_gainOf 14 = .ok (.getfield 11, 3) := by decide +kernel
theorem dX5_gainOf_17 : decode cX5_gainOf 17 = .ok (.iload 4, 2) := by decide +kernel
theorem dX5_gainOf_19 : decode cX5_gainOf 19 = .ok (.aaload, 1) := by decide +kernel
theorem dX5_gainOf_20 : decode cX5_gainOf 20 = .ok (.aload_n 1, 1) := by decide +kernel
theorem dX5_gainOf_21 : decode cX5_gainOf 21 = .ok (.iload 4, 2) := by decide +kernel
theorem dX5_gainOf_23 : decode cX5_gainOf 23 = .ok (.iaload, 1) := by decide +kernel
theorem dX5_gainOf_24 : decode cX5_gainOf 24 = .ok (.laload, 1) := by decide +kernel
theorem dX5_gainOf_25 : decode cX5_gainOf 25 = .ok (.ladd, 1) := by decide +kernel
theorem dX5_gainOf_26 : decode cX5_gainOf 26 = .ok (.lstore_n 2, 1) := by decide +kernel
theorem dX5_gainOf_27 : decode cX5_gainOf 27 = .ok (.iinc 4 1, 3) := by decide +kernel
theorem dX5_gainOf_30 : decode cX5_gainOf 30 = .ok (.goto (-25), 3) := by decide +kernel
theorem dX5_gainOf_33 : decode cX5_gainOf 33 = .ok (.lload_n 2, 1) := by decide +kernel
theorem dX5_gainOf_34 : decode cX5_gainOf 34 = .ok (.lreturn, 1) := by decide +kernel
theorem dX5_leastBringing_0 : decode cX5_leastBringing 0 = .ok (.iconst (-1), 1) := by decide +kernel
theorem dX5_leastBringing_1 : decode cX5_leastBringing 1 = .ok (.istore_n 2, 1) := by decide +kernel
theorem dX5_leastBringing_2 : decode cX5_leastBringing 2 = .ok (.lconst 0, 1) := by decide +kernel
theorem dX5_leastBringing_3 : decode cX5_leastBringing 3 = .ok (.lstore_n 3, 1) := by decide +kernel
theorem dX5_leastBringing_4 : decode cX5_leastBringing 4 = .ok (.iconst 1, 1) := by decide +kernel
theorem dX5_leastBringing_5 : decode cX5_leastBringing 5 = .ok (.istore 5, 2) := by decide +kernel
theorem dX5_leastBringing_7 : decode cX5_leastBringing 7 = .ok (.aload_n 0, 1) := by decide +kernel
theorem dX5_leastBringing_8 : decode cX5_leastBringing 8 = .ok (.aload_n 0, 1) := by decide +kernel
theorem dX5_leastBringing_9 : decode cX5_leastBringing 9 = .ok (.getfield 27, 3) := by decide +kernel
theorem dX5_leastBringing_12 : decode cX5_leastBringing 12 = .ok (.invokevirtual 52, 3) := by decide +kernel
theorem dX5_leastBringing_15 : decode cX5_leastBringing 15 = .ok (.lstore 6, 2) := by decide +kernel
theorem dX5_leastBringing_17 : decode cX5_leastBringing 17 = .ok (.iconst 0, 1) := by decide +kernel
theorem dX5_leastBringing_18 : decode cX5_leastBringing 18 = .ok (.istore 8, 2) := by decide +kernel
theorem dX5_leastBringing_20 : decode cX5_leastBringing 20 = .ok (.iload 8, 2) := by decide +kernel
theorem dX5_leastBringing_22 : decode cX5_leastBringing 22 = .ok (.bipush 6, 2) := by decide +kernel
theorem dX5_leastBringing_24 : decode cX5_leastBringing 24 = .ok (.if_icmp .ge 78, 3) := by decide +kernel
theorem dX5_leastBringing_27 : decode cX5_leastBringing 27 = .ok (.aload_n 0, 1) := by decide +kernel
theorem dX5_leastBringing_28 : decode cX5_leastBringing 28 = .ok (.getfield 27, 3) := by decide +kernel
theorem dX5_leastBringing_31 : decode cX5_leastBringing 31 = .ok (.iload 8, 2) := by decide +kernel
theorem dX5_leastBringing_33 : decode cX5_leastBringing 33 = .ok (.iaload, 1) := by decide +kernel
theorem dX5_leastBringing_34 : decode cX5_leastBringing 34 = .ok (.aload_n 0, 1) := by decide +kernel
theorem dX5_leastBringing_35 : decode cX5_leastBringing 35 = .ok (.getfield 40, 3) := by decide +kernel
theorem dX5_leastBringing_38 : decode cX5_leastBringing 38 = .ok (.getfield 44, 3) := by decide +kernel
theorem dX5_leastBringing_41 : decode cX5_leastBringing 41 = .ok (.iload 8, 2) := by decide +kernel
theorem dX5_leastBringing_43 : decode cX5_leastBringing 43 = .ok (.aaload, 1) := by decide +kernel
theorem dX5_leastBringing_44 : decode cX5_leastBringing 44 = .ok (.iconst 1, 1) := by decide +kernel
theorem dX5_leastBringing_45 : decode cX5_leastBringing 45 = .ok (.iaload, 1) := by decide +kernel
theorem dX5_leastBringing_46 : decode cX5_leastBringing 46 = .ok (.imul, 1) := by decide +kernel
theorem dX5_leastBringing_47 : decode cX5_leastBringing 47 = .ok (.istore 9, 2) := by decide +kernel
theorem dX5_leastBringing_49 : decode cX5_leastBringing 49 = .ok (.iload 9, 2) := by decide +kernel
theorem dX5_leastBringing_51 : decode cX5_leastBringing 51 = .ok (.ifCond .le 45, 3) := by decide +kernel
theorem dX5_leastBringing_54 : decode cX5_leastBringing 54 = .ok (.lload 6, 2) := by decide +kernel
theorem dX5_leastBringing_56 : decode cX5_leastBringing 56 = .ok (.aload_n 0, 1) := by decide +kernel
theorem dX5_leastBringing_57 : decode cX5_leastBringing 57 = .ok (.iload_n 1, 1) := by decide +kernel
theorem dX5_leastBringing_58 : decode cX5_leastBringing 58 = .ok (.iload 8, 2) := by decide +kernel
theorem dX5_leastBringing_60 : decode cX5_leastBringing 60 = .ok (.invokevirtual 70, 3) := by decide +kernel
theorem dX5_leastBringing_63 : decode cX5_leastBringing 63 = .ok (.lsub, 1) := by decide +kernel
theorem dX5_leastBringing_64 : decode cX5_leastBringing 64 = .ok (.lstore 10, 2) := by decide +kernel
theorem dX5_leastBringing_66 : decode cX5_leastBringing 66 = .ok (.iload_n 2, 1) := by decide +kernel
theorem dX5_leastBringing_67 : decode cX5_leastBringing 67 = .ok (.iconst (-1), 1) := by decide +kernel
theorem dX5_leastBringing_68 : decode cX5_leastBringing 68 = .ok (.if_icmp .eq 18, 3) := by decide +kernel
theorem dX5_leastBringing_71 : decode cX5_leastBringing 71 = .ok (.lload 10, 2) := by decide +kernel
theorem dX5_leastBringing_73 : decode cX5_leastBringing 73 = .ok (.iload 5, 2) := by decide +kernel
theorem dX5_leastBringing_75 : decode cX5_leastBringing 75 = .ok (.i2l, 1) := by decide +kernel
theorem dX5_leastBringing_76 : decode cX5_leastBringing 76 = .ok (.lmul, 1) := by decide +kernel
theorem dX5_leastBringing_77 : decode cX5_leastBringing 77 = .ok (.lload_n 3, 1) := by decide +kernel
theorem dX5_leastBringing_78 : decode cX5_leastBringing 78 = .ok (.iload 9, 2) := by decide +kernel
theorem dX5_leastBringing_80 : decode cX5_leastBringing 80 = .ok (.i2l, 1) := by decide +kernel
theorem dX5_leastBringing_81 : decode cX5_leastBringing 81 = .ok (.lmul, 1) := by decide +kernel
theorem dX5_leastBringing_82 : decode cX5_leastBringing 82 = .ok (.lcmp, 1) := by decide +kernel
theorem dX5_leastBringing_83 : decode cX5_leastBringing 83 = .ok (.ifCond .ge 13, 3) := by decide +kernel
theorem dX5_leastBringing_86 : decode cX5_leastBringing 86 = .ok (.iload 8, 2) := by decide +kernel
theorem dX5_leastBringing_88 : decode cX5_leastBringing 88 = .ok (.istore_n 2, 1) := by decide +kernel
theorem dX5_leastBringing_89 : decode cX5_leastBringing 89 = .ok (.lload 10, 2) := by decide +kernel
theorem dX5_leastBringing_91 : decode cX5_leastBringing 91 = .ok (.lstore_n 3, 1) := by decide +kernel
theorem dX5_leastBringing_92 : decode cX5_leastBringing 92 = .ok (.iload 9, 2) := by decide +kernel
theorem dX5_leastBringing_94 : decode cX5_leastBringing 94 = .ok (.istore 5, 2) := by decide +kernel
theorem dX5_leastBringing_96 : decode cX5_leastBringing 96 = .ok (.iinc 8 1, 3) := by decide +kernel
theorem dX5_leastBringing_99 : decode cX5_leastBringing 99 = .ok (.goto (-79), 3) := by decide +kernel
theorem dX5_leastBringing_102 : decode cX5_leastBringing 102 = .ok (.iload_n 2, 1) := by decide +kernel
theorem dX5_leastBringing_103 : decode cX5_leastBringing 103 = .ok (.ireturn, 1) := by decide +kernel
theorem dX5_peakGain_0 : decode cX5_peakGain 0 = .ok (.aload_n 0, 1) := by decide +kernel
theorem dX5_peakGain_1 : decode cX5_peakGain 1 = .ok (.aload_n 0, 1) := by decide +kernel
theorem dX5_peakGain_2 : decode cX5_peakGain 2 = .ok (.getfield 16, 3) := by decide +kernel
theorem dX5_peakGain_5 : decode cX5_peakGain 5 = .ok (.invokevirtual 52, 3) := by decide +kernel
theorem dX5_peakGain_8 : decode cX5_peakGain 8 = .ok (.lreturn, 1) := by decide +kernel
theorem dX5_peaksFit_0 : decode cX5_peaksFit 0 = .ok (.aload_n 0, 1) := by decide +kernel
theorem dX5_peaksFit_1 : decode cX5_peaksFit 1 = .ok (.getfield 40, 3) := by decide +kernel
theorem dX5_peaksFit_4 : decode cX5_peaksFit 4 = .ok (.aload_n 0, 1) := by decide +kernel
theorem dX5_peaksFit_5 : decode cX5_peaksFit 5 = .ok (.getfield 16, 3) := by decide +kernel
theorem dX5_peaksFit_8 : decode cX5_peaksFit 8 = .ok (.invokevirtual 56, 3) := by decide +kernel
theorem dX5_peaksFit_11 : decode cX5_peaksFit 11 = .ok (.iload_n 1, 1) := by decide +kernel
theorem dX5_peaksFit_12 : decode cX5_peaksFit 12 = .ok (.if_icmp .gt 7, 3) := by decide +kernel
theorem dX5_peaksFit_15 : decode cX5_peaksFit 15 = .ok (.iconst 1, 1) := by decide +kernel
theorem dX5_peaksFit_16 : decode cX5_peaksFit 16 = .ok (.goto 4, 3) := by decide +kernel
theorem dX5_peaksFit_19 : decode cX5_peaksFit 19 = .ok (.iconst 0, 1) := by decide +kernel
theorem dX5_peaksFit_20 : decode cX5_peaksFit 20 = .ok (.ireturn, 1) := by decide +kernel
theorem dX5_weighGains_0 : decode cX5_weighGains 0 = .ok (.iconst 0, 1) := by decide +kernel
theorem dX5_weighGains_1 : decode cX5_weighGains 1 = .ok (.istore_n 2, 1) := by decide +kernel
theorem dX5_weighGains_2 : decode cX5_weighGains 2 = .ok (.iload_n 2, 1) := by decide +kernel
theorem dX5_weighGains_3 : decode cX5_weighGains 3 = .ok (.bipush 6, 2) := by decide +kernel
theorem dX5_weighGains_5 : decode cX5_weighGains 5 = .ok (.if_icmp .ge 95, 3) := by decide +kernel
theorem dX5_weighGains_8 : decode cX5_weighGains 8 = .ok (.aload_n 0, 1) := by decide +kernel
theorem dX5_weighGains_9 : decode cX5_weighGains 9 = .ok (.getfield 16, 3) := by decide +kernel
theorem dX5_weighGains_12 : decode cX5_weighGains 12 = .ok (.iload_n 2, 1) := by decide +kernel
theorem dX5_weighGains_13 : decode cX5_weighGains 13 = .ok (.iconst 0, 1) := by decide +kernel
theorem dX5_weighGains_14 : decode cX5_weighGains 14 = .ok (.iastore, 1) := by decide +kernel
theorem dX5_weighGains_15 : decode cX5_weighGains 15 = .ok (.iconst 0, 1) := by decide +kernel
theorem dX5_weighGains_16 : decode cX5_weighGains 16 = .ok (.istore_n 3, 1) := by decide +kernel
theorem dX5_weighGains_17 : decode cX5_weighGains 17 = .ok (.iload_n 3, 1) := by decide +kernel
theorem dX5_weighGains_18 : decode cX5_weighGains 18 = .ok (.iconst 5, 1) := by decide +kernel
theorem dX5_weighGains_19 : decode cX5_weighGains 19 = .ok (.if_icmp .ge 75, 3) := by decide +kernel
theorem dX5_weighGains_22 : decode cX5_weighGains 22 = .ok (.aload_n 0, 1) := by decide +kernel
theorem dX5_weighGains_23 : decode cX5_weighGains 23 = .ok (.getfield 11, 3) := by decide +kernel
theorem dX5_weighGains_26 : decode cX5_weighGains 26 = .ok (.iload_n 2, 1) := by decide +kernel
theorem dX5_weighGains_27 : decode cX5_weighGains 27 = .ok (.aaload, 1) := by decide +kernel
theorem dX5_weighGains_28 : decode cX5_weighGains 28 = .ok (.iload_n 3, 1) := by decide +kernel
theorem dX5_weighGains_29 : decode cX5_weighGains 29 = .ok (.aload_n 1, 1) := by decide +kernel
theorem dX5_weighGains_30 : decode cX5_weighGains 30 = .ok (.iload_n 2, 1) := by decide +kernel
theorem dX5_weighGains_31 : decode cX5_weighGains 31 = .ok (.iconst 5, 1) := by decide +kernel
theorem dX5_weighGains_32 : decode cX5_weighGains 32 = .ok (.imul, 1) := by decide +kernel
theorem dX5_weighGains_33 : decode cX5_weighGains 33 = .ok (.iload_n 3, 1) := by decide +kernel
theorem dX5_weighGains_34 : decode cX5_weighGains 34 = .ok (.iadd, 1) := by decide +kernel
theorem dX5_weighGains_35 : decode cX5_weighGains 35 = .ok (.laload, 1) := by decide +kernel
theorem dX5_weighGains_36 : decode cX5_weighGains 36 = .ok (.iload_n 3, 1) := by decide +kernel
theorem dX5_weighGains_37 : decode cX5_weighGains 37 = .ok (.aload_n 0, 1) := by decide +kernel
theorem dX5_weighGains_38 : decode cX5_weighGains 38 = .ok (.getfield 40, 3) := by decide +kernel
theorem dX5_weighGains_41 : decode cX5_weighGains 41 = .ok (.getfield 44, 3) := by decide +kernel
theorem dX5_weighGains_44 : decode cX5_weighGains 44 = .ok (.iload_n 2, 1) := by decide +kernel
theorem dX5_weighGains_45 : decode cX5_weighGains 45 = .ok (.aaload, 1) := by decide +kernel
theorem dX5_weighGains_46 : decode cX5_weighGains 46 = .ok (.iconst 0, 1) := by decide +kernel
theorem dX5_weighGains_47 : decode cX5_weighGains 47 = .ok (.iaload, 1) := by decide +kernel
theorem dX5_weighGains_48 : decode cX5_weighGains 48 = .ok (.imul, 1) := by decide +kernel
theorem dX5_weighGains_49 : decode cX5_weighGains 49 = .ok (.i2l, 1) := by decide +kernel
theorem dX5_weighGains_50 : decode cX5_weighGains 50 = .ok (.ldc2_w 50, 3) := by decide +kernel
theorem dX5_weighGains_53 : decode cX5_weighGains 53 = .ok (.lmul, 1) := by decide +kernel
theorem dX5_weighGains_54 : decode cX5_weighGains 54 = .ok (.lsub, 1) := by decide +kernel
theorem dX5_weighGains_55 : decode cX5_weighGains 55 = .ok (.lastore, 1) := by decide +kernel
theorem dX5_weighGains_56 : decode cX5_weighGains 56 = .ok (.aload_n 0, 1) := by decide +kernel
theorem dX5_weighGains_57 : decode cX5_weighGains 57 = .ok (.getfield 11, 3) := by decide +kernel
theorem dX5_weighGains_60 : decode cX5_weighGains 60 = .ok (.iload_n 2, 1) := by decide +kernel
theorem dX5_weighGains_61 : decode cX5_weighGains 61 = .ok (.aaload, 1) := by decide +kernel
theorem dX5_weighGains_62 : decode cX5_weighGains 62 = .ok (.iload_n 3, 1) := by decide +kernel
theorem dX5_weighGains_63 : decode cX5_weighGains 63 = .ok (.laload, 1) := by decide +kernel
theorem dX5_weighGains_64 : decode cX5_weighGains 64 = .ok (.aload_n 0, 1) := by decide +kernel
theorem dX5_weighGains_65 : decode cX5_weighGains 65 = .ok (.getfield 11, 3) := by decide +kernel
theorem dX5_weighGains_68 : decode cX5_weighGains 68 = .ok (.iload_n 2, 1) := by decide +kernel
theorem dX5_weighGains_69 : decode cX5_weighGains 69 = .ok (.aaload, 1) := by decide +kernel
theorem dX5_weighGains_70 : decode cX5_weighGains 70 = .ok (.aload_n 0, 1) := by decide +kernel
theorem dX5_weighGains_71 : decode cX5_weighGains 71 = .ok (.getfield 16, 3) := by decide +kernel
theorem dX5_weighGains_74 : decode cX5_weighGains 74 = .ok (.iload_n 2, 1) := by decide +kernel
theorem dX5_weighGains_75 : decode cX5_weighGains 75 = .ok (.iaload, 1) := by decide +kernel
theorem dX5_weighGains_76 : decode cX5_weighGains 76 = .ok (.laload, 1) := by decide +kernel
theorem dX5_weighGains_77 : decode cX5_weighGains 77 = .ok (.lcmp, 1) := by decide +kernel
theorem dX5_weighGains_78 : decode cX5_weighGains 78 = .ok (.ifCond .le 10, 3) := by decide +kernel
theorem dX5_weighGains_81 : decode cX5_weighGains 81 = .ok (.aload_n 0, 1) := by decide +kernel
theorem dX5_weighGains_82 : decode cX5_weighGains 82 = .ok (.getfield 16, 3) := by decide +kernel
theorem dX5_weighGains_85 : decode cX5_weighGains 85 = .ok (.iload_n 2, 1) := by decide +kernel
theorem dX5_weighGains_86 : decode cX5_weighGains 86 = .ok (.iload_n 3, 1) := by decide +kernel
theorem dX5_weighGains_87 : decode cX5_weighGains 87 = .ok (.iastore, 1) := by decide +kernel
theorem dX5_weighGains_88 : decode cX5_weighGains 88 = .ok (.iinc 3 1, 3) := by decide +kernel
theorem dX5_weighGains_91 : decode cX5_weighGains 91 = .ok (.goto (-74), 3) := by decide +kernel
theorem dX5_weighGains_94 : decode cX5_weighGains 94 = .ok (.iinc 2 1, 3) := by decide +kernel
theorem dX5_weighGains_97 : decode cX5_weighGains 97 = .ok (.goto (-95), 3) := by decide +kernel
theorem dX5_weighGains_100 : decode cX5_weighGains 100 = .ok (.return_, 1) := by decide +kernel
theorem dX6_isBetter_0 : decode cX6_isBetter 0 = .ok (.lload_n 3, 1) := by decide +kernel
theorem dX6_isBetter_1 : decode cX6_isBetter 1 = .ok (.aload_n 0, 1) := by decide +kernel
theorem dX6_isBetter_2 : decode cX6_isBetter 2 = .ok (.getfield 9, 3) := by decide +kernel
theorem dX6_isBetter_5 : decode cX6_isBetter 5 = .ok (.iload_n 1, 1) := by decide +kernel
theorem dX6_isBetter_6 : decode cX6_isBetter 6 = .ok (.laload, 1) := by decide +kernel
theorem dX6_isBetter_7 : decode cX6_isBetter 7 = .ok (.lcmp, 1) := by decide +kernel
theorem dX6_isBetter_8 : decode cX6_isBetter 8 = .ok (.ifCond .gt 24, 3) := by decide +kernel
theorem dX6_isBetter_11 : decode cX6_isBetter 11 = .ok (.lload_n 3, 1) := by decide +kernel
theorem dX6_isBetter_12 : decode cX6_isBetter 12 = .ok (.aload_n 0, 1) := by decide +kernel
theorem dX6_isBetter_13 : decode cX6_isBetter 13 = .ok (.getfield 9, 3) := by decide +kernel
theorem dX6_isBetter_16 : decode cX6_isBetter 16 = .ok (.iload_n 1, 1) := by decide +kernel
theorem dX6_isBetter_17 : decode cX6_isBetter 17 = .ok (.laload, 1) := by decide +kernel
theorem dX6_isBetter_18 : decode cX6_isBetter 18 = .ok (.lcmp, 1) := by decide +kernel
theorem dX6_isBetter_19 : decode cX6_isBetter 19 = .ok (.ifCond .ne 17, 3) := by decide +kernel
theorem dX6_isBetter_22 : decode cX6_isBetter 22 = .ok (.iload_n 2, 1) := by decide +kernel
theorem dX6_isBetter_23 : decode cX6_isBetter 23 = .ok (.aload_n 0, 1) := by decide +kernel
theorem dX6_isBetter_24 : decode cX6_isBetter 24 = .ok (.getfield 15, 3) := by decide +kernel
theorem dX6_isBetter_27 : decode cX6_isBetter 27 = .ok (.iload_n 1, 1) := by decide +kernel
theorem dX6_isBetter_28 : decode cX6_isBetter 28 = .ok (.iaload, 1) := by decide +kernel
theorem dX6_isBetter_29 : decode cX6_isBetter 29 = .ok (.if_icmp .ge 7, 3) := by decide +kernel
theorem dX6_isBetter_32 : decode cX6_isBetter 32 = .ok (.iconst 1, 1) := by decide +kernel
theorem dX6_isBetter_33 : decode cX6_isBetter 33 = .ok (.goto 4, 3) := by decide +kernel
theorem dX6_isBetter_36 : decode cX6_isBetter 36 = .ok (.iconst 0, 1) := by decide +kernel
theorem dX6_isBetter_37 : decode cX6_isBetter 37 = .ok (.ireturn, 1) := by decide +kernel
theorem dX6_bestSet_0 : decode cX6_bestSet 0 = .ok (.iconst 0, 1) := by decide +kernel
theorem dX6_bestSet_1 : decode cX6_bestSet 1 = .ok (.istore_n 1, 1) := by decide +kernel
theorem dX6_bestSet_2 : decode cX6_bestSet 2 = .ok (.iconst 1, 1) := by decide +kernel
theorem dX6_bestSet_3 : decode cX6_bestSet 3 = .ok (.istore_n 2, 1) := by decide +kernel
theorem dX6_bestSet_4 : decode cX6_bestSet 4 = .ok (.iload_n 2, 1) := by decide +kernel
theorem dX6_bestSet_5 : decode cX6_bestSet 5 = .ok (.sipush 128, 3) := by decide +kernel
theorem dX6_bestSet_8 : decode cX6_bestSet 8 = .ok (.if_icmp .ge 44, 3) := by decide +kernel
theorem dX6_bestSet_11 : decode cX6_bestSet 11 = .ok (.aload_n 0, 1) := by decide +kernel
theorem dX6_bestSet_12 : decode cX6_bestSet 12 = .ok (.getfield 9, 3) := by decide +kernel
theorem dX6_bestSet_15 : decode cX6_bestSet 15 = .ok (.iload_n 2, 1) := by decide +kernel
theorem dX6_bestSet_16 : decode cX6_bestSet 16 = .ok (.laload, 1) := by decide +kernel
theorem dX6_bestSet_17 : decode cX6_bestSet 17 = .ok (.ldc2_w 75, 3) := by decide +kernel
theorem dX6_bestSet_20 : decode cX6_bestSet 20 = .ok (.lcmp, 1) := by decide +kernel
theorem dX6_bestSet_21 : decode cX6_bestSet 21 = .ok (.ifCond .eq 25, 3) := by decide +kernel
theorem dX6_bestSet_24 : decode cX6_bestSet 24 = .ok (.aload_n 0, 1) := by decide +kernel
theorem dX6_bestSet_25 : decode cX6_bestSet 25 = .ok (.iload_n 1, 1) := by decide +kernel
theorem dX6_bestSet_26 : decode cX6_bestSet 26 = .ok (.aload_n 0, 1) := by decide +kernel
theorem dX6_bestSet_27 : decode cX6_bestSet 27 = .ok (.getfield 15, 3) := by decide +kernel
theorem dX6_bestSet_30 : decode cX6_bestSet 30 = .ok (.iload_n 2, 1) := by decide +kernel
theorem dX6_bestSet_31 : decode cX6_bestSet 31 = .ok (.iaload, 1) := by decide +kernel
theorem dX6_bestSet_32 : decode cX6_bestSet 32 = .ok (.aload_n 0, 1) := by decide +kernel
theorem dX6_bestSet_33 : decode cX6_bestSet 33 = .ok (.getfield 9, 3) := by decide +kernel
theorem dX6_bestSet_36 : decode cX6_bestSet 36 = .ok (.iload_n 2, 1) := by decide +kernel
theorem dX6_bestSet_37 : decode cX6_bestSet 37 = .ok (.laload, 1) := by decide +kernel
theorem dX6_bestSet_38 : decode cX6_bestSet 38 = .ok (.invokevirtual 118, 3) := by decide +kernel
theorem dX6_bestSet_41 : decode cX6_bestSet 41 = .ok (.ifCond .eq 5, 3) := by decide +kernel
theorem dX6_bestSet_44 : decode cX6_bestSet 44 = .ok (.iload_n 2, 1) := by decide +kernel
theorem dX6_bestSet_45 : decode cX6_bestSet 45 = .ok (.istore_n 1, 1) := by decide +kernel
theorem dX6_bestSet_46 : decode cX6_bestSet 46 = .ok (.iinc 2 1, 3) := by decide +kernel
theorem dX6_bestSet_49 : decode cX6_bestSet 49 = .ok (.goto (-45), 3) := by decide +kernel
theorem dX6_bestSet_52 : decode cX6_bestSet 52 = .ok (.iload_n 1, 1) := by decide +kernel
theorem dX6_bestSet_53 : decode cX6_bestSet 53 = .ok (.ireturn, 1) := by decide +kernel
theorem dX6_bitOf_0 : decode cX6_bitOf 0 = .ok (.iconst 1, 1) := by decide +kernel
theorem dX6_bitOf_1 : decode cX6_bitOf 1 = .ok (.iload_n 0, 1) := by decide +kernel
theorem dX6_bitOf_2 : decode cX6_bitOf 2 = .ok (.iconst 1, 1) := by decide +kernel
theorem dX6_bitOf_3 : decode cX6_bitOf 3 = .ok (.isub, 1) := by decide +kernel
theorem dX6_bitOf_4 : decode cX6_bitOf 4 = .ok (.ishl, 1) := by decide +kernel
theorem dX6_bitOf_5 : decode cX6_bitOf 5 = .ok (.ireturn, 1) := by decide +kernel
theorem dX6_clear_0 : decode cX6_clear 0 = .ok (.iconst 0, 1) := by decide +kernel
theorem dX6_clear_1 : decode cX6_clear 1 = .ok (.istore_n 1, 1) := by decide +kernel
theorem dX6_clear_2 : decode cX6_clear 2 = .ok (.iload_n 1, 1) := by decide +kernel
theorem dX6_clear_3 : decode cX6_clear 3 = .ok (.sipush 128, 3) := by decide +kernel
theorem dX6_clear_6 : decode cX6_clear 6 = .ok (.if_icmp .ge 25, 3) := by decide +kernel
theorem dX6_clear_9 : decode cX6_clear 9 = .ok (.aload_n 0, 1) := by decide +kernel
theorem dX6_clear_10 : decode cX6_clear 10 = .ok (.getfield 9, 3) := by decide +kernel
theorem dX6_clear_13 : decode cX6_clear 13 = .ok (.iload_n 1, 1) := by decide +kernel
theorem dX6_clear_14 : decode cX6_clear 14 = .ok (.ldc2_w 75, 3) := by decide +kernel
theorem dX6_clear_17 : decode cX6_clear 17 = .ok (.lastore, 1) := by decide +kernel
theorem dX6_clear_18 : decode cX6_clear 18 = .ok (.aload_n 0, 1) := by decide +kernel
theorem dX6_clear_19 : decode cX6_clear 19 = .ok (.getfield 15, 3) := by decide +kernel
theorem dX6_clear_22 : decode cX6_clear 22 = .ok (.iload_n 1, 1) := by decide +kernel
theorem dX6_clear_23 : decode cX6_clear 23 = .ok (.iconst 0, 1) := by decide +kernel
theorem dX6_clear_24 : decode cX6_clear 24 = .ok (.iastore, 1) := by decide +kernel
theorem dX6_clear_25 : decode cX6_clear 25 = .ok (.iinc 1 1, 3) := by decide +kernel
theorem dX6_clear_28 : decode cX6_clear 28 = .ok (.goto (-26), 3) := by decide +kernel
theorem dX6_clear_31 : decode cX6_clear 31 = .ok (.aload_n 0, 1) := by decide +kernel
theorem dX6_clear_32 : decode cX6_clear 32 = .ok (.getfield 53, 3) := by decide +kernel
theorem dX6_clear_35 : decode cX6_clear 35 = .ok (.invokevirtual 77, 3) := by decide +kernel
theorem dX6_clear_38 : decode cX6_clear 38 = .ok (.return_, 1) := by decide +kernel
theorem dX6_keep_0 : decode cX6_keep 0 = .ok (.aload_n 0, 1) := by decide +kernel
theorem dX6_keep_1 : decode cX6_keep 1 = .ok (.iload_n 1, 1) := by decide +kernel
theorem dX6_keep_2 : decode cX6_keep 2 = .ok (.iload_n 2, 1) := by decide +kernel
theorem dX6_keep_3 : decode cX6_keep 3 = .ok (.lload_n 3, 1) := by decide +kernel
theorem dX6_keep_4 : decode cX6_keep 4 = .ok (.invokevirtual 118, 3) := by decide +kernel
theorem dX6_keep_7 : decode cX6_keep 7 = .ok (.ifCond .eq 17, 3) := by decide +kernel
theorem dX6_keep_10 : decode cX6_keep 10 = .ok (.aload_n 0, 1) := by decide +kernel
theorem dX6_keep_11 : decode cX6_keep 11 = .ok (.getfield 9, 3) := by decide +kernel
theorem dX6_keep_14 : decode cX6_keep 14 = .ok (.iload_n 1, 1) := by decide +kernel
theorem dX6_keep_15 : decode cX6_keep 15 = .ok (.lload_n 3, 1) := by decide +kernel
theorem dX6_keep_16 : decode cX6_keep 16 = .ok (.lastore, 1) := by decide +kernel
theorem dX6_keep_17 : decode cX6_keep 17 = .ok (.aload_n 0, 1) := by decide +kernel
theorem dX6_keep_18 : decode cX6_keep 18 = .ok (.getfield 15, 3) := by decide +kernel
theorem dX6_keep_21 : decode cX6_keep 21 = .ok (.iload_n 1, 1) := by decide +kernel
theorem dX6_keep_22 : decode cX6_keep 22 = .ok (.iload_n 2, 1) := by decide +kernel
theorem dX6_keep_23 : decode cX6_keep 23 = .ok (.iastore, 1) := by decide +kernel
theorem dX6_keep_24 : decode cX6_keep 24 = .ok (.return_, 1) := by decide +kernel
theorem dX6_valueOfPack_0 : decode cX6_valueOfPack 0 = .ok (.lconst 0, 1) := by decide +kernel
theorem dX6_valueOfPack_1 : decode cX6_valueOfPack 1 = .ok (.lstore_n 2, 1) := by decide +kernel
theorem dX6_valueOfPack_2 : decode cX6_valueOfPack 2 = .ok (.iconst 0, 1) := by decide +kernel
theorem dX6_valueOfPack_3 : decode cX6_valueOfPack 3 = .ok (.istore 4, 2) := by decide +kernel
theorem dX6_valueOfPack_5 : decode cX6_valueOfPack 5 = .ok (.iload 4, 2) := by decide +kernel
theorem dX6_valueOfPack_7 : decode cX6_valueOfPack 7 = .ok (.bipush 6, 2) := by decide +kernel
theorem dX6_valueOfPack_9 : decode cX6_valueOfPack 9 = .ok (.if_icmp .ge 26, 3) := by decide +kernel
theorem dX6_valueOfPack_12 : decode cX6_valueOfPack 12 = .ok (.lload_n 2, 1) := by decide +kernel
theorem dX6_valueOfPack_13 : decode cX6_valueOfPack 13 = .ok (.aload_n 1, 1) := by decide +kernel
theorem dX6_valueOfPack_14 : decode cX6_valueOfPack 14 = .ok (.iload 4, 2) := by decide +kernel
theorem dX6_valueOfPack_16 : decode cX6_valueOfPack 16 = .ok (.iconst 5, 1) := by decide +kernel
theorem dX6_valueOfPack_17 : decode cX6_valueOfPack 17 = .ok (.imul, 1) := by decide +kernel
theorem dX6_valueOfPack_18 : decode cX6_valueOfPack 18 = .ok (.aload_n 0, 1) := by decide +kernel
theorem dX6_valueOfPack_19 : decode cX6_valueOfPack 19 = .ok (.getfield 61, 3) := by decide +kernel
theorem dX6_valueOfPack_22 : decode cX6_valueOfPack 22 = .ok (.iload 4, 2) := by decide +kernel
theorem dX6_valueOfPack_24 : decode cX6_valueOfPack 24 = .ok (.iaload, 1) := by decide +kernel
theorem dX6_valueOfPack_25 : decode cX6_valueOfPack 25 = .ok (.iadd, 1) := by decide +kernel
theorem dX6_valueOfPack_26 : decode cX6_valueOfPack 26 = .ok (.laload, 1) := by decide +kernel
theorem dX6_valueOfPack_27 : decode cX6_valueOfPack 27 = .ok (.ladd, 1) := by decide +kernel
theorem dX6_valueOfPack_28 : decode cX6_valueOfPack 28 = .ok (.lstore_n 2, 1) := by decide +kernel
theorem dX6_valueOfPack_29 : decode cX6_valueOfPack 29 = .ok (.iinc 4 1, 3) := by decide +kernel
theorem dX6_valueOfPack_32 : decode cX6_valueOfPack 32 = .ok (.goto (-27), 3) := by decide +kernel
theorem dX6_valueOfPack_35 : decode cX6_valueOfPack 35 = .ok (.lload_n 2, 1) := by decide +kernel
theorem dX6_valueOfPack_36 : decode cX6_valueOfPack 36 = .ok (.lreturn, 1) := by decide +kernel
theorem dX6_judge_0 : decode cX6_judge 0 = .ok (.aload_n 0, 1) := by decide +kernel
theorem dX6_judge_1 : decode cX6_judge 1 = .ok (.getfield 53, 3) := by decide +kernel
theorem dX6_judge_4 : decode cX6_judge 4 = .ok (.getfield 96, 3) := by decide +kernel
theorem dX6_judge_7 : decode cX6_judge 7 = .ok (.iload_n 1, 1) := by decide +kernel
theorem dX6_judge_8 : decode cX6_judge 8 = .ok (.aaload, 1) := by decide +kernel
theorem dX6_judge_9 : decode cX6_judge 9 = .ok (.astore 4, 2) := by decide +kernel
theorem dX6_judge_11 : decode cX6_judge 11 = .ok (.aload_n 0, 1) := by decide +kernel
theorem dX6_judge_12 : decode cX6_judge 12 = .ok (.getfield 23, 3) := by decide +kernel
theorem dX6_judge_15 : decode cX6_judge 15 = .ok (.ifCond .eq 16, 3) := by decide +kernel
theorem dX6_judge_18 : decode cX6_judge 18 = .ok (.aload_n 0, 1) := by decide +kernel
theorem dX6_judge_19 : decode cX6_judge 19 = .ok (.iload_n 2, 1) := by decide +kernel
theorem dX6_judge_20 : decode cX6_judge 20 = .ok (.iload_n 3, 1) := by decide +kernel
theorem dX6_judge_21 : decode cX6_judge 21 = .ok (.aload_n 0, 1) := by decide +kernel
theorem dX6_judge_22 : decode cX6_judge 22 = .ok (.aload 4, 2) := by decide +kernel
theorem dX6_judge_24 : decode cX6_judge 24 = .ok (.invokevirtual 100, 3) := by decide +kernel
theorem dX6_judge_27 : decode cX6_judge 27 = .ok (.invokevirtual 104, 3) := by decide +kernel
theorem dX6_judge_30 : decode cX6_judge 30 = .ok (.return_, 1) := by decide +kernel
theorem dX6_judge_31 : decode cX6_judge 31 = .ok (.aload_n 0, 1) := by decide +kernel
theorem dX6_judge_32 : decode cX6_judge 32 = .ok (.getfield 57, 3) := by decide +kernel
theorem dX6_judge_35 : decode cX6_judge 35 = .ok (.aload 4, 2) := by decide +kernel
theorem dX6_judge_37 : decode cX6_judge 37 = .ok (.invokevirtual 108, 3) := by decide +kernel
theorem dX6_judge_40 : decode cX6_judge 40 = .ok (.aload_n 0, 1) := by decide +kernel
theorem dX6_judge_41 : decode cX6_judge 41 = .ok (.getfield 57, 3) := by decide +kernel
theorem dX6_judge_44 : decode cX6_judge 44 = .ok (.invokevirtual 114, 3) := by decide +kernel
theorem dX6_judge_47 : decode cX6_judge 47 = .ok (.lstore 5, 2) := by decide +kernel
theorem dX6_judge_49 : decode cX6_judge 49 = .ok (.aload_n 0, 1) := by decide +kernel
theorem dX6_judge_50 : decode cX6_judge 50 = .ok (.iload_n 2, 1) := by decide +kernel
theorem dX6_judge_51 : decode cX6_judge 51 = .ok (.iload_n 3, 1) := by decide +kernel
theorem dX6_judge_52 : decode cX6_judge 52 = .ok (.lload 5, 2) := by decide +kernel
theorem dX6_judge_54 : decode cX6_judge 54 = .ok (.invokevirtual 118, 3) := by decide +kernel
theorem dX6_judge_57 : decode cX6_judge 57 = .ok (.ifCond .eq 40, 3) := by decide +kernel
theorem dX6_judge_60 : decode cX6_judge 60 = .ok (.aload_n 0, 1) := by decide +kernel
theorem dX6_judge_61 : decode cX6_judge 61 = .ok (.iload_n 2, 1) := by decide +kernel
theorem dX6_judge_62 : decode cX6_judge 62 = .ok (.iload_n 3, 1) := by decide +kernel
theorem dX6_judge_63 : decode cX6_judge 63 = .ok (.aload_n 0, 1) := by decide +kernel
theorem dX6_judge_64 : decode cX6_judge 64 = .ok (.getfield 57, 3) := by decide +kernel
theorem dX6_judge_67 : decode cX6_judge 67 = .ok (.aload_n 0, 1) := by decide +kernel
theorem dX6_judge_68 : decode cX6_judge 68 = .ok (.getfield 36, 3) := by decide +kernel
theorem dX6_judge_71 : decode cX6_judge 71 = .ok (.invokevirtual 122, 3) := by decide +kernel
theorem dX6_judge_74 : decode cX6_judge 74 = .ok (.ifCond .eq 8, 3) := by decide +kernel
theorem dX6_judge_77 : decode cX6_judge 77 = .ok (.lload 5, 2) := by decide +kernel
theorem dX6_judge_79 : decode cX6_judge 79 = .ok (.goto 15, 3) := by decide +kernel
theorem dX6_judge_82 : decode cX6_judge 82 = .ok (.aload_n 0, 1) := by decide +kernel
theorem dX6_judge_83 : decode cX6_judge 83 = .ok (.getfield 57, 3) := by decide +kernel
theorem dX6_judge_86 : decode cX6_judge 86 = .ok (.aload_n 0, 1) := by decide +kernel
theorem dX6_judge_87 : decode cX6_judge 87 = .ok (.getfield 36, 3) := by decide +kernel
theorem dX6_judge_90 : decode cX6_judge 90 = .ok (.iconst (-1), 1) := by decide +kernel
theorem dX6_judge_91 : decode cX6_judge 91 = .ok (.invokevirtual 126, 3) := by decide +kernel
theorem dX6_judge_94 : decode cX6_judge 94 = .ok (.invokevirtual 104, 3) := by decide +kernel
theorem dX6_judge_97 : decode cX6_judge 97 = .ok (.return_, 1) := by decide +kernel
theorem dX6_lengthen_0 : decode cX6_lengthen 0 = .ok (.aload_n 0, 1) := by decide +kernel
theorem dX6_lengthen_1 : decode cX6_lengthen 1 = .ok (.getfield 49, 3) := by decide +kernel
theorem dX6_lengthen_4 : decode cX6_lengthen 4 = .ok (.getfield 82, 3) := by decide +kernel
theorem dX6_lengthen_7 : decode cX6_lengthen 7 = .ok (.aload_n 0, 1) := by decide +kernel
theorem dX6_lengthen_8 : decode cX6_lengthen 8 = .ok (.getfield 30, 3) := by decide +kernel
theorem dX6_lengthen_11 : decode cX6_lengthen 11 = .ok (.aaload, 1) := by decide +kernel
theorem dX6_lengthen_12 : decode cX6_lengthen 12 = .ok (.iload_n 3, 1) := by decide +kernel
theorem dX6_lengthen_13 : decode cX6_lengthen 13 = .ok (.iaload, 1) := by decide +kernel
theorem dX6_lengthen_14 : decode cX6_lengthen 14 = .ok (.iload 4, 2) := by decide +kernel
theorem dX6_lengthen_16 : decode cX6_lengthen 16 = .ok (.iadd, 1) := by decide +kernel
theorem dX6_lengthen_17 : decode cX6_lengthen 17 = .ok (.aload_n 0, 1) := by decide +kernel
theorem dX6_lengthen_18 : decode cX6_lengthen 18 = .ok (.getfield 33, 3) := by decide +kernel
theorem dX6_lengthen_21 : decode cX6_lengthen 21 = .ok (.if_icmp .le 4, 3) := by decide +kernel
theorem dX6_lengthen_24 : decode cX6_lengthen 24 = .ok (.return_, 1) := by decide +kernel
theorem dX6_lengthen_25 : decode cX6_lengthen 25 = .ok (.aload_n 0, 1) := by decide +kernel
theorem dX6_lengthen_26 : decode cX6_lengthen 26 = .ok (.iload_n 1, 1) := by decide +kernel
theorem dX6_lengthen_27 : decode cX6_lengthen 27 = .ok (.iload_n 2, 1) := by decide +kernel
theorem dX6_lengthen_28 : decode cX6_lengthen 28 = .ok (.iload 5, 2) := by decide +kernel
theorem dX6_lengthen_30 : decode cX6_lengthen 30 = .ok (.invokevirtual 88, 3) := by decide +kernel
theorem dX6_lengthen_33 : decode cX6_lengthen 33 = .ok (.iconst 1, 1) := by decide +kernel
theorem dX6_lengthen_34 : decode cX6_lengthen 34 = .ok (.istore 6, 2) := by decide +kernel
theorem dX6_lengthen_36 : decode cX6_lengthen 36 = .ok (.iload 6, 2) := by decide +kernel
theorem dX6_lengthen_38 : decode cX6_lengthen 38 = .ok (.bipush 7, 2) := by decide +kernel
theorem dX6_lengthen_40 : decode cX6_lengthen 40 = .ok (.if_icmp .gt 91, 3) := by decide +kernel
theorem dX6_lengthen_43 : decode cX6_lengthen 43 = .ok (.iload_n 1, 1) := by decide +kernel
theorem dX6_lengthen_44 : decode cX6_lengthen 44 = .ok (.iconst 5, 1) := by decide +kernel
theorem dX6_lengthen_45 : decode cX6_lengthen 45 = .ok (.if_icmp .ge 86, 3) := by decide +kernel
theorem dX6_lengthen_48 : decode cX6_lengthen 48 = .ok (.iload 6, 2) := by decide +kernel
theorem dX6_lengthen_50 : decode cX6_lengthen 50 = .ok (.invokestatic 71, 3) := by decide +kernel
theorem dX6_lengthen_53 : decode cX6_lengthen 53 = .ok (.istore 7, 2) := by decide +kernel
theorem dX6_lengthen_55 : decode cX6_lengthen 55 = .ok (.aload_n 0, 1) := by decide +kernel
theorem dX6_lengthen_56 : decode cX6_lengthen 56 = .ok (.getfield 26, 3) := by decide +kernel
theorem dX6_lengthen_59 : decode cX6_lengthen 59 = .ok (.iload 7, 2) := by decide +kernel
theorem dX6_lengthen_61 : decode cX6_lengthen 61 = .ok (.iand, 1) := by decide +kernel
theorem dX6_lengthen_62 : decode cX6_lengthen 62 = .ok (.ifCond .eq 63, 3) := by decide +kernel
theorem dX6_lengthen_65 : decode cX6_lengthen 65 = .ok (.iload_n 2, 1) := by decide +kernel
theorem dX6_lengthen_66 : decode cX6_lengthen 66 = .ok (.iload 7, 2) := by decide +kernel
theorem dX6_lengthen_68 : decode cX6_lengthen 68 = .ok (.iand, 1) := by decide +kernel
theorem dX6_lengthen_69 : decode cX6_lengthen 69 = .ok (.ifCond .ne 56, 3) := by decide +kernel
theorem dX6_lengthen_72 : decode cX6_lengthen 72 = .ok (.aload_n 0, 1) := by decide +kernel
theorem dX6_lengthen_73 : decode cX6_lengthen 73 = .ok (.getfield 53, 3) := by decide +kernel
theorem dX6_lengthen_76 : decode cX6_lengthen 76 = .ok (.iload_n 1, 1) := by decide +kernel
theorem dX6_lengthen_77 : decode cX6_lengthen 77 = .ok (.iconst 1, 1) := by decide +kernel
theorem dX6_lengthen_78 : decode cX6_lengthen 78 = .ok (.iadd, 1) := by decide +kernel
theorem dX6_lengthen_79 : decode cX6_lengthen 79 = .ok (.iload 6, 2) := by decide +kernel
theorem dX6_lengthen_81 : decode cX6_lengthen 81 = .ok (.invokevirtual 92, 3) := by decide +kernel
theorem dX6_lengthen_84 : decode cX6_lengthen 84 = .ok (.iload 4, 2) := by decide +kernel
theorem dX6_lengthen_86 : decode cX6_lengthen 86 = .ok (.aload_n 0, 1) := by decide +kernel
theorem dX6_lengthen_87 : decode cX6_lengthen 87 = .ok (.getfield 49, 3) := by decide +kernel
theorem dX6_lengthen_90 : decode cX6_lengthen 90 = .ok (.getfield 82, 3) := by decide +kernel
theorem dX6_lengthen_93 : decode cX6_lengthen 93 = .ok (.iload 6, 2) := by decide +kernel
theorem dX6_lengthen_95 : decode cX6_lengthen 95 = .ok (.aaload, 1) := by decide +kernel
theorem dX6_lengthen_96 : decode cX6_lengthen 96 = .ok (.iload_n 3, 1) := by decide +kernel
theorem dX6_lengthen_97 : decode cX6_lengthen 97 = .ok (.iaload, 1) := by decide +kernel
theorem dX6_lengthen_98 : decode cX6_lengthen 98 = .ok (.iadd, 1) := by decide +kernel
theorem dX6_lengthen_99 : decode cX6_lengthen 99 = .ok (.istore 8, 2) := by decide +kernel
theorem dX6_lengthen_101 : decode cX6_lengthen 101 = .ok (.aload_n 0, 1) := by decide +kernel
theorem dX6_lengthen_102 : decode cX6_lengthen 102 = .ok (.iload_n 1, 1) := by decide +kernel
theorem dX6_lengthen_103 : decode cX6_lengthen 103 = .ok (.iconst 1, 1) := by decide +kernel
theorem dX6_lengthen_104 : decode cX6_lengthen 104 = .ok (.iadd, 1) := by decide +kernel
theorem dX6_lengthen_105 : decode cX6_lengthen 105 = .ok (.iload_n 2, 1) := by decide +kernel
theorem dX6_lengthen_106 : decode cX6_lengthen 106 = .ok (.iload 7, 2) := by decide +kernel
theorem dX6_lengthen_108 : decode cX6_lengthen 108 = .ok (.ior, 1) := by decide +kernel
theorem dX6_lengthen_109 : decode cX6_lengthen 109 = .ok (.iload 6, 2) := by decide +kernel
theorem dX6_lengthen_111 : decode cX6_lengthen 111 = .ok (.iload 8, 2) := by decide +kernel
theorem dX6_lengthen_113 : decode cX6_lengthen 113 = .ok (.iload 5, 2) := by decide +kernel
theorem dX6_lengthen_115 : decode cX6_lengthen 115 = .ok (.iload 6, 2) := by decide +kernel
theorem dX6_lengthen_117 : decode cX6_lengthen 117 = .ok (.iconst 3, 1) := by decide +kernel
theorem dX6_lengthen_118 : decode cX6_lengthen 118 = .ok (.iload_n 1, 1) := by decide +kernel
theorem dX6_lengthen_119 : decode cX6_lengthen 119 = .ok (.imul, 1) := by decide +kernel
theorem dX6_lengthen_120 : decode cX6_lengthen 120 = .ok (.ishl, 1) := by decide +kernel
theorem dX6_lengthen_121 : decode cX6_lengthen 121 = .ok (.iadd, 1) := by decide +kernel
theorem dX6_lengthen_122 : decode cX6_lengthen 122 = .ok (.invokevirtual 67, 3) := by decide +kernel
theorem dX6_lengthen_125 : decode cX6_lengthen 125 = .ok (.iinc 6 1, 3) := by decide +kernel
theorem dX6_lengthen_128 : decode cX6_lengthen 128 = .ok (.goto (-92), 3) := by decide +kernel
theorem dX6_lengthen_131 : decode cX6_lengthen 131 = .ok (.return_, 1) := by decide +kernel
theorem dX6_findOnward_0 : decode cX6_findOnward 0 = .ok (.aload_n 0, 1) := by decide +kernel
theorem dX6_findOnward_1 : decode cX6_findOnward 1 = .ok (.iconst 0, 1) := by decide +kernel
theorem dX6_findOnward_2 : decode cX6_findOnward 2 = .ok (.putfield 19, 3) := by decide +kernel
theorem dX6_findOnward_5 : decode cX6_findOnward 5 = .ok (.aload_n 0, 1) := by decide +kernel
theorem dX6_findOnward_6 : decode cX6_findOnward 6 = .ok (.iconst 1, 1) := by decide +kernel
theorem dX6_findOnward_7 : decode cX6_findOnward 7 = .ok (.putfield 23, 3) := by decide +kernel
theorem dX6_findOnward_10 : decode cX6_findOnward 10 = .ok (.aload_n 0, 1) := by decide +kernel
theorem dX6_findOnward_11 : decode cX6_findOnward 11 = .ok (.iload_n 3, 1) := by decide +kernel
theorem dX6_findOnward_12 : decode cX6_findOnward 12 = .ok (.ifCond .ne 7, 3) := by decide +kernel
theorem dX6_findOnward_15 : decode cX6_findOnward 15 = .ok (.iload_n 1, 1) := by decide +kernel
theorem dX6_findOnward_16 : decode cX6_findOnward 16 = .ok (.goto 11, 3) := by decide +kernel
theorem dX6_findOnward_19 : decode cX6_findOnward 19 = .ok (.iload_n 1, 1) := by decide +kernel
theorem dX6_findOnward_20 : decode cX6_findOnward 20 = .ok (.iload_n 3, 1) := by decide +kernel
theorem dX6_findOnward_21 : decode cX6_findOnward 21 = .ok (.invokestatic 71, 3) := by decide +kernel
theorem dX6_findOnward_24 : decode cX6_findOnward 24 = .ok (.iconst (-1), 1) := by decide +kernel
theorem dX6_findOnward_25 : decode cX6_findOnward 25 = .ok (.ixor, 1) := by decide +kernel
theorem dX6_findOnward_26 : decode cX6_findOnward 26 = .ok (.iand, 1) := by decide +kernel
theorem dX6_findOnward_27 : decode cX6_findOnward 27 = .ok (.putfield 26, 3) := by decide +kernel
theorem dX6_findOnward_30 : decode cX6_findOnward 30 = .ok (.aload_n 0, 1) := by decide +kernel
theorem dX6_findOnward_31 : decode cX6_findOnward 31 = .ok (.iload_n 3, 1) := by decide +kernel
theorem dX6_findOnward_32 : decode cX6_findOnward 32 = .ok (.putfield 30, 3) := by decide +kernel
theorem dX6_findOnward_35 : decode cX6_findOnward 35 = .ok (.aload_n 0, 1) := by decide +kernel
theorem dX6_findOnward_36 : decode cX6_findOnward 36 = .ok (.iload_n 2, 1) := by decide +kernel
theorem dX6_findOnward_37 : decode cX6_findOnward 37 = .ok (.iload 4, 2) := by decide +kernel
theorem dX6_findOnward_39 : decode cX6_findOnward 39 = .ok (.isub, 1) := by decide +kernel
theorem dX6_findOnward_40 : decode cX6_findOnward 40 = .ok (.putfield 33, 3) := by decide +kernel
theorem dX6_findOnward_43 : decode cX6_findOnward 43 = .ok (.aload_n 0, 1) := by decide +kernel
theorem dX6_findOnward_44 : decode cX6_findOnward 44 = .ok (.invokevirtual 64, 3) := by decide +kernel
theorem dX6_findOnward_47 : decode cX6_findOnward 47 = .ok (.aload_n 0, 1) := by decide +kernel
theorem dX6_findOnward_48 : decode cX6_findOnward 48 = .ok (.iconst 0, 1) := by decide +kernel
theorem dX6_findOnward_49 : decode cX6_findOnward 49 = .ok (.iconst 0, 1) := by decide +kernel
theorem dX6_findOnward_50 : decode cX6_findOnward 50 = .ok (.iconst 0, 1) := by decide +kernel
theorem dX6_findOnward_51 : decode cX6_findOnward 51 = .ok (.iconst 0, 1) := by decide +kernel
theorem dX6_findOnward_52 : decode cX6_findOnward 52 = .ok (.iconst 0, 1) := by decide +kernel
theorem dX6_findOnward_53 : decode cX6_findOnward 53 = .ok (.invokevirtual 67, 3) := by decide +kernel
theorem dX6_findOnward_56 : decode cX6_findOnward 56 = .ok (.return_, 1) := by decide +kernel
theorem dX6_findRounds_0 : decode cX6_findRounds 0 = .ok (.aload_n 0, 1) := by decide +kernel
theorem dX6_findRounds_1 : decode cX6_findRounds 1 = .ok (.getfield 19, 3) := by decide +kernel
theorem dX6_findRounds_4 : decode cX6_findRounds 4 = .ok (.ifCond .eq 4, 3) := by decide +kernel
theorem dX6_findRounds_7 : decode cX6_findRounds 7 = .ok (.return_, 1) := by decide +kernel
theorem dX6_findRounds_8 : decode cX6_findRounds 8 = .ok (.aload_n 0, 1) := by decide +kernel
theorem dX6_findRounds_9 : decode cX6_findRounds 9 = .ok (.iconst 0, 1) := by decide +kernel
theorem dX6_findRounds_10 : decode cX6_findRounds 10 = .ok (.putfield 23, 3) := by decide +kernel
theorem dX6_findRounds_13 : decode cX6_findRounds 13 = .ok (.aload_n 0, 1) := by decide +kernel
theorem dX6_findRounds_14 : decode cX6_findRounds 14 = .ok (.iload_n 1, 1) := by decide +kernel
theorem dX6_findRounds_15 : decode cX6_findRounds 15 = .ok (.putfield 26, 3) := by decide +kernel
theorem dX6_findRounds_18 : decode cX6_findRounds 18 = .ok (.aload_n 0, 1) := by decide +kernel
theorem dX6_findRounds_19 : decode cX6_findRounds 19 = .ok (.iconst 0, 1) := by decide +kernel
theorem dX6_findRounds_20 : decode cX6_findRounds 20 = .ok (.putfield 30, 3) := by decide +kernel
theorem dX6_findRounds_23 : decode cX6_findRounds 23 = .ok (.aload_n 0, 1) := by decide +kernel
theorem dX6_findRounds_24 : decode cX6_findRounds 24 = .ok (.iload_n 2, 1) := by decide +kernel
theorem dX6_findRounds_25 : decode cX6_findRounds 25 = .ok (.putfield 33, 3) := by decide +kernel
theorem dX6_findRounds_28 : decode cX6_findRounds 28 = .ok (.aload_n 0, 1) := by decide +kernel
theorem dX6_findRounds_29 : decode cX6_findRounds 29 = .ok (.iload_n 3, 1) := by decide +kernel
theorem dX6_findRounds_30 : decode cX6_findRounds 30 = .ok (.putfield 36, 3) := by decide +kernel
theorem dX6_findRounds_33 : decode cX6_findRounds 33 = .ok (.aload_n 0, 1) := by decide +kernel
theorem dX6_findRounds_34 : decode cX6_findRounds 34 = .ok (.invokevirtual 64, 3) := by decide +kernel
theorem dX6_findRounds_37 : decode cX6_findRounds 37 = .ok (.aload_n 0, 1) := by decide +kernel
theorem dX6_findRounds_38 : decode cX6_findRounds 38 = .ok (.iconst 0, 1) := by decide +kernel
theorem dX6_findRounds_39 : decode cX6_findRounds 39 = .ok (.iconst 0, 1) := by decide +kernel
theorem dX6_findRounds_40 : decode cX6_findRounds 40 = .ok (.iconst 0, 1) := by decide +kernel
theorem dX6_findRounds_41 : decode cX6_findRounds 41 = .ok (.iconst 0, 1) := by decide +kernel
theorem dX6_findRounds_42 : decode cX6_findRounds 42 = .ok (.iconst 0, 1) := by decide +kernel
theorem dX6_findRounds_43 : decode cX6_findRounds 43 = .ok (.invokevirtual 67, 3) := by decide +kernel
theorem dX6_findRounds_46 : decode cX6_findRounds 46 = .ok (.aload_n 0, 1) := by decide +kernel
theorem dX6_findRounds_47 : decode cX6_findRounds 47 = .ok (.iconst 1, 1) := by decide +kernel
theorem dX6_findRounds_48 : decode cX6_findRounds 48 = .ok (.putfield 19, 3) := by decide +kernel
theorem dX6_findRounds_51 : decode cX6_findRounds 51 = .ok (.return_, 1) := by decide +kernel
theorem dX6_forget_0 : decode cX6_forget 0 = .ok (.aload_n 0, 1) := by decide +kernel
theorem dX6_forget_1 : decode cX6_forget 1 = .ok (.iconst 0, 1) := by decide +kernel
theorem dX6_forget_2 : decode cX6_forget 2 = .ok (.putfield 19, 3) := by decide +kernel
theorem dX6_forget_5 : decode cX6_forget 5 = .ok (.return_, 1) := by decide +kernel
theorem dX6_partWith_0 : decode cX6_partWith 0 = .ok (.iconst 0, 1) := by decide +kernel
theorem dX6_partWith_1 : decode cX6_partWith 1 = .ok (.istore_n 3, 1) := by decide +kernel
theorem dX6_partWith_2 : decode cX6_partWith 2 = .ok (.iload_n 3, 1) := by decide +kernel
theorem dX6_partWith_3 : decode cX6_partWith 3 = .ok (.sipush 128, 3) := by decide +kernel
theorem dX6_partWith_6 : decode cX6_partWith 6 = .ok (.if_icmp .ge 78, 3) := by decide +kernel
theorem dX6_partWith_9 : decode cX6_partWith 9 = .ok (.iload_n 3, 1) := by decide +kernel
theorem dX6_partWith_10 : decode cX6_partWith 10 = .ok (.iload_n 2, 1) := by decide +kernel
theorem dX6_partWith_11 : decode cX6_partWith 11 = .ok (.iconst (-1), 1) := by decide +kernel
theorem dX6_partWith_12 : decode cX6_partWith 12 = .ok (.ixor, 1) := by decide +kernel
theorem dX6_partWith_13 : decode cX6_partWith 13 = .ok (.iand, 1) := by decide +kernel
theorem dX6_partWith_14 : decode cX6_partWith 14 = .ok (.ifCond .ne 64, 3) := by decide +kernel
theorem dX6_partWith_17 : decode cX6_partWith 17 = .ok (.aload_n 0, 1) := by decide +kernel
theorem dX6_partWith_18 : decode cX6_partWith 18 = .ok (.getfield 9, 3) := by decide +kernel
theorem dX6_partWith_21 : decode cX6_partWith 21 = .ok (.iload_n 3, 1) := by decide +kernel
theorem dX6_partWith_22 : decode cX6_partWith 22 = .ok (.laload, 1) := by decide +kernel
theorem dX6_partWith_23 : decode cX6_partWith 23 = .ok (.ldc2_w 75, 3) := by decide +kernel
theorem dX6_partWith_26 : decode cX6_partWith 26 = .ok (.lcmp, 1) := by decide +kernel
theorem dX6_partWith_27 : decode cX6_partWith 27 = .ok (.ifCond .eq 51, 3) := by decide +kernel
theorem dX6_partWith_30 : decode cX6_partWith 30 = .ok (.aload_n 0, 1) := by decide +kernel
theorem dX6_partWith_31 : decode cX6_partWith 31 = .ok (.getfield 9, 3) := by decide +kernel
theorem dX6_partWith_34 : decode cX6_partWith 34 = .ok (.iload_n 1, 1) := by decide +kernel
theorem dX6_partWith_35 : decode cX6_partWith 35 = .ok (.laload, 1) := by decide +kernel
theorem dX6_partWith_36 : decode cX6_partWith 36 = .ok (.aload_n 0, 1) := by decide +kernel
theorem dX6_partWith_37 : decode cX6_partWith 37 = .ok (.getfield 9, 3) := by decide +kernel
theorem dX6_partWith_40 : decode cX6_partWith 40 = .ok (.iload_n 3, 1) := by decide +kernel
theorem dX6_partWith_41 : decode cX6_partWith 41 = .ok (.laload, 1) := by decide +kernel
theorem dX6_partWith_42 : decode cX6_partWith 42 = .ok (.ladd, 1) := by decide +kernel
theorem dX6_partWith_43 : decode cX6_partWith 43 = .ok (.aload_n 0, 1) := by decide +kernel
theorem dX6_partWith_44 : decode cX6_partWith 44 = .ok (.getfield 45, 3) := by decide +kernel
theorem dX6_partWith_47 : decode cX6_partWith 47 = .ok (.lcmp, 1) := by decide +kernel
theorem dX6_partWith_48 : decode cX6_partWith 48 = .ok (.ifCond .le 30, 3) := by decide +kernel
theorem dX6_partWith_51 : decode cX6_partWith 51 = .ok (.aload_n 0, 1) := by decide +kernel
theorem dX6_partWith_52 : decode cX6_partWith 52 = .ok (.iload_n 1, 1) := by decide +kernel
theorem dX6_partWith_53 : decode cX6_partWith 53 = .ok (.putfield 39, 3) := by decide +kernel
theorem dX6_partWith_56 : decode cX6_partWith 56 = .ok (.aload_n 0, 1) := by decide +kernel
theorem dX6_partWith_57 : decode cX6_partWith 57 = .ok (.iload_n 3, 1) := by decide +kernel
theorem dX6_partWith_58 : decode cX6_partWith 58 = .ok (.putfield 42, 3) := by decide +kernel
theorem dX6_partWith_61 : decode cX6_partWith 61 = .ok (.aload_n 0, 1) := by decide +kernel
theorem dX6_partWith_62 : decode cX6_partWith 62 = .ok (.aload_n 0, 1) := by decide +kernel
theorem dX6_partWith_63 : decode cX6_partWith 63 = .ok (.getfield 9, 3) := by decide +kernel
theorem dX6_partWith_66 : decode cX6_partWith 66 = .ok (.iload_n 1, 1) := by decide +kernel
theorem dX6_partWith_67 : decode cX6_partWith 67 = .ok (.laload, 1) := by decide +kernel
theorem dX6_partWith_68 : decode cX6_partWith 68 = .ok (.aload_n 0, 1) := by decide +kernel
theorem dX6_partWith_69 : decode cX6_partWith 69 = .ok (.getfield 9, 3) := by decide +kernel
theorem dX6_partWith_72 : decode cX6_partWith 72 = .ok (.iload_n 3, 1) := by decide +kernel
theorem dX6_partWith_73 : decode cX6_partWith 73 = .ok (.laload, 1) := by decide +kernel
theorem dX6_partWith_74 : decode cX6_partWith 74 = .ok (.ladd, 1) := by decide +kernel
theorem dX6_partWith_75 : decode cX6_partWith 75 = .ok (.putfield 45, 3) := by decide +kernel
theorem dX6_partWith_78 : decode cX6_partWith 78 = .ok (.iinc 3 1, 3) := by decide +kernel
theorem dX6_partWith_81 : decode cX6_partWith 81 = .ok (.goto (-79), 3) := by decide +kernel
theorem dX6_partWith_84 : decode cX6_partWith 84 = .ok (.return_, 1) := by decide +kernel
theorem dX6_part_0 : decode cX6_part 0 = .ok (.aload_n 0, 1) := by decide +kernel
theorem dX6_part_1 : decode cX6_part 1 = .ok (.iconst 0, 1) := by decide +kernel
theorem dX6_part_2 : decode cX6_part 2 = .ok (.putfield 39, 3) := by decide +kernel
theorem dX6_part_5 : decode cX6_part 5 = .ok (.aload_n 0, 1) := by decide +kernel
theorem dX6_part_6 : decode cX6_part 6 = .ok (.iconst 0, 1) := by decide +kernel
theorem dX6_part_7 : decode cX6_part 7 = .ok (.putfield 42, 3) := by decide +kernel
theorem dX6_part_10 : decode cX6_part 10 = .ok (.aload_n 0, 1) := by decide +kernel
theorem dX6_part_11 : decode cX6_part 11 = .ok (.lconst 0, 1) := by decide +kernel
theorem dX6_part_12 : decode cX6_part 12 = .ok (.putfield 45, 3) := by decide +kernel
theorem dX6_part_15 : decode cX6_part 15 = .ok (.iconst 0, 1) := by decide +kernel
theorem dX6_part_16 : decode cX6_part 16 = .ok (.istore_n 2, 1) := by decide +kernel
theorem dX6_part_17 : decode cX6_part 17 = .ok (.iload_n 2, 1) := by decide +kernel
theorem dX6_part_18 : decode cX6_part 18 = .ok (.sipush 128, 3) := by decide +kernel
theorem dX6_part_21 : decode cX6_part 21 = .ok (.if_icmp .ge 40, 3) := by decide +kernel
theorem dX6_part_24 : decode cX6_part 24 = .ok (.iload_n 2, 1) := by decide +kernel
theorem dX6_part_25 : decode cX6_part 25 = .ok (.iload_n 1, 1) := by decide +kernel
theorem dX6_part_26 : decode cX6_part 26 = .ok (.iconst (-1), 1) := by decide +kernel
theorem dX6_part_27 : decode cX6_part 27 = .ok (.ixor, 1) := by decide +kernel
theorem dX6_part_28 : decode cX6_part 28 = .ok (.iand, 1) := by decide +kernel
theorem dX6_part_29 : decode cX6_part 29 = .ok (.ifCond .ne 26, 3) := by decide +kernel
theorem dX6_part_32 : decode cX6_part 32 = .ok (.aload_n 0, 1) := by decide +kernel
theorem dX6_part_33 : decode cX6_part 33 = .ok (.getfield 9, 3) := by decide +kernel
theorem dX6_part_36 : decode cX6_part 36 = .ok (.iload_n 2, 1) := by decide +kernel
theorem dX6_part_37 : decode cX6_part 37 = .ok (.laload, 1) := by decide +kernel
theorem dX6_part_38 : decode cX6_part 38 = .ok (.ldc2_w 75, 3) := by decide +kernel
theorem dX6_part_41 : decode cX6_part 41 = .ok (.lcmp, 1) := by decide +kernel
theorem dX6_part_42 : decode cX6_part 42 = .ok (.ifCond .eq 13, 3) := by decide +kernel
theorem dX6_part_45 : decode cX6_part 45 = .ok (.aload_n 0, 1) := by decide +kernel
theorem dX6_part_46 : decode cX6_part 46 = .ok (.iload_n 2, 1) := by decide +kernel
theorem dX6_part_47 : decode cX6_part 47 = .ok (.iload_n 1, 1) := by decide +kernel
theorem dX6_part_48 : decode cX6_part 48 = .ok (.iload_n 2, 1) := by decide +kernel
theorem dX6_part_49 : decode cX6_part 49 = .ok (.iconst (-1), 1) := by decide +kernel
theorem dX6_part_50 : decode cX6_part 50 = .ok (.ixor, 1) := by decide +kernel
theorem dX6_part_51 : decode cX6_part 51 = .ok (.iand, 1) := by decide +kernel
theorem dX6_part_52 : decode cX6_part 52 = .ok (.invokevirtual 130, 3) := by decide +kernel
theorem dX6_part_55 : decode cX6_part 55 = .ok (.iinc 2 1, 3) := by decide +kernel
theorem dX6_part_58 : decode cX6_part 58 = .ok (.goto (-41), 3) := by decide +kernel
theorem dX6_part_61 : decode cX6_part 61 = .ok (.return_, 1) := by decide +kernel
theorem dX7_isLost_0 : decode cX7_isLost 0 = .ok (.aload_n 0, 1) := by decide +kernel
theorem dX7_isLost_1 : decode cX7_isLost 1 = .ok (.getfield 20, 3) := by decide +kernel
theorem dX7_isLost_4 : decode cX7_isLost 4 = .ok (.iload_n 1, 1) := by decide +kernel
theorem dX7_isLost_5 : decode cX7_isLost 5 = .ok (.iaload, 1) := by decide +kernel
theorem dX7_isLost_6 : decode cX7_isLost 6 = .ok (.iconst (-1), 1) := by decide +kernel
theorem dX7_isLost_7 : decode cX7_isLost 7 = .ok (.if_icmp .ne 7, 3) := by decide +kernel
theorem dX7_isLost_10 : decode cX7_isLost 10 = .ok (.iconst 1, 1) := by decide +kernel
theorem dX7_isLost_11 : decode cX7_isLost 11 = .ok (.goto 4, 3) := by decide +kernel
theorem dX7_isLost_14 : decode cX7_isLost 14 = .ok (.iconst 0, 1) := by decide +kernel
theorem dX7_isLost_15 : decode cX7_isLost 15 = .ok (.ireturn, 1) := by decide +kernel
theorem dX7_findingAt_0 : decode cX7_findingAt 0 = .ok (.aload_n 0, 1) := by decide +kernel
theorem dX7_findingAt_1 : decode cX7_findingAt 1 = .ok (.iload_n 1, 1) := by decide +kernel
theorem dX7_findingAt_2 : decode cX7_findingAt 2 = .ok (.invokevirtual 27, 3) := by decide +kernel
theorem dX7_findingAt_5 : decode cX7_findingAt 5 = .ok (.ifCond .eq 5, 3) := by decide +kernel
theorem dX7_findingAt_8 : decode cX7_findingAt 8 = .ok (.iconst 1, 1) := by decide +kernel
theorem dX7_findingAt_9 : decode cX7_findingAt 9 = .ok (.ireturn, 1) := by decide +kernel
theorem dX7_findingAt_10 : decode cX7_findingAt 10 = .ok (.aload_n 0, 1) := by decide +kernel
theorem dX7_findingAt_11 : decode cX7_findingAt 11 = .ok (.getfield 16, 3) := by decide +kernel
theorem dX7_findingAt_14 : decode cX7_findingAt 14 = .ok (.iload_n 1, 1) := by decide +kernel
theorem dX7_findingAt_15 : decode cX7_findingAt 15 = .ok (.iaload, 1) := by decide +kernel
theorem dX7_findingAt_16 : decode cX7_findingAt 16 = .ok (.iload_n 2, 1) := by decide +kernel
theorem dX7_findingAt_17 : decode cX7_findingAt 17 = .ok (.if_icmp .eq 5, 3) := by decide +kernel
theorem dX7_findingAt_20 : decode cX7_findingAt 20 = .ok (.iconst 3, 1) := by decide +kernel
theorem dX7_findingAt_21 : decode cX7_findingAt 21 = .ok (.ireturn, 1) := by decide +kernel
theorem dX7_findingAt_22 : decode cX7_findingAt 22 = .ok (.iload_n 3, 1) := by decide +kernel
theorem dX7_findingAt_23 : decode cX7_findingAt 23 = .ok (.iconst 0, 1) := by decide +kernel
