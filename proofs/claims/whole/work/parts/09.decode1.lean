theorem dX7_findingAt_24 : decode cX7_findingAt 24 = .ok (.aload_n 0, 1) := by decide +kernel
theorem dX7_findingAt_25 : decode cX7_findingAt 25 = .ok (.getfield 20, 3) := by decide +kernel
theorem dX7_findingAt_28 : decode cX7_findingAt 28 = .ok (.iload_n 1, 1) := by decide +kernel
theorem dX7_findingAt_29 : decode cX7_findingAt 29 = .ok (.iaload, 1) := by decide +kernel
theorem dX7_findingAt_30 : decode cX7_findingAt 30 = .ok (.iconst 1, 1) := by decide +kernel
theorem dX7_findingAt_31 : decode cX7_findingAt 31 = .ok (.isub, 1) := by decide +kernel
theorem dX7_findingAt_32 : decode cX7_findingAt 32 = .ok (.invokestatic 31, 3) := by decide +kernel
theorem dX7_findingAt_35 : decode cX7_findingAt 35 = .ok (.ifCond .eq 7, 3) := by decide +kernel
theorem dX7_findingAt_38 : decode cX7_findingAt 38 = .ok (.iconst 0, 1) := by decide +kernel
theorem dX7_findingAt_39 : decode cX7_findingAt 39 = .ok (.goto 4, 3) := by decide +kernel
theorem dX7_findingAt_42 : decode cX7_findingAt 42 = .ok (.iconst 2, 1) := by decide +kernel
theorem dX7_findingAt_43 : decode cX7_findingAt 43 = .ok (.ireturn, 1) := by decide +kernel
theorem dX7_found_0 : decode cX7_found 0 = .ok (.aload_n 0, 1) := by decide +kernel
theorem dX7_found_1 : decode cX7_found 1 = .ok (.iload_n 1, 1) := by decide +kernel
theorem dX7_found_2 : decode cX7_found 2 = .ok (.putfield 23, 3) := by decide +kernel
theorem dX7_found_5 : decode cX7_found 5 = .ok (.bipush (-10), 2) := by decide +kernel
theorem dX7_found_7 : decode cX7_found 7 = .ok (.iload_n 1, 1) := by decide +kernel
theorem dX7_found_8 : decode cX7_found 8 = .ok (.isub, 1) := by decide +kernel
theorem dX7_found_9 : decode cX7_found 9 = .ok (.ireturn, 1) := by decide +kernel
theorem dX7_hasItems_0 : decode cX7_hasItems 0 = .ok (.iload_n 2, 1) := by decide +kernel
theorem dX7_hasItems_1 : decode cX7_hasItems 1 = .ok (.ifCond .lt 33, 3) := by decide +kernel
theorem dX7_hasItems_4 : decode cX7_hasItems 4 = .ok (.iload_n 3, 1) := by decide +kernel
theorem dX7_hasItems_5 : decode cX7_hasItems 5 = .ok (.ifCond .lt 29, 3) := by decide +kernel
theorem dX7_hasItems_8 : decode cX7_hasItems 8 = .ok (.iload_n 2, 1) := by decide +kernel
theorem dX7_hasItems_9 : decode cX7_hasItems 9 = .ok (.aload_n 0, 1) := by decide +kernel
theorem dX7_hasItems_10 : decode cX7_hasItems 10 = .ok (.getfield 20, 3) := by decide +kernel
theorem dX7_hasItems_13 : decode cX7_hasItems 13 = .ok (.iload_n 1, 1) := by decide +kernel
theorem dX7_hasItems_14 : decode cX7_hasItems 14 = .ok (.iaload, 1) := by decide +kernel
theorem dX7_hasItems_15 : decode cX7_hasItems 15 = .ok (.if_icmp .gt 19, 3) := by decide +kernel
theorem dX7_hasItems_18 : decode cX7_hasItems 18 = .ok (.iload_n 3, 1) := by decide +kernel
theorem dX7_hasItems_19 : decode cX7_hasItems 19 = .ok (.aload_n 0, 1) := by decide +kernel
theorem dX7_hasItems_20 : decode cX7_hasItems 20 = .ok (.getfield 20, 3) := by decide +kernel
theorem dX7_hasItems_23 : decode cX7_hasItems 23 = .ok (.iload_n 1, 1) := by decide +kernel
theorem dX7_hasItems_24 : decode cX7_hasItems 24 = .ok (.iaload, 1) := by decide +kernel
theorem dX7_hasItems_25 : decode cX7_hasItems 25 = .ok (.iload_n 2, 1) := by decide +kernel
theorem dX7_hasItems_26 : decode cX7_hasItems 26 = .ok (.isub, 1) := by decide +kernel
theorem dX7_hasItems_27 : decode cX7_hasItems 27 = .ok (.if_icmp .gt 7, 3) := by decide +kernel
theorem dX7_hasItems_30 : decode cX7_hasItems 30 = .ok (.iconst 1, 1) := by decide +kernel
theorem dX7_hasItems_31 : decode cX7_hasItems 31 = .ok (.goto 4, 3) := by decide +kernel
theorem dX7_hasItems_34 : decode cX7_hasItems 34 = .ok (.iconst 0, 1) := by decide +kernel
theorem dX7_hasItems_35 : decode cX7_hasItems 35 = .ok (.ireturn, 1) := by decide +kernel
theorem dX7_lay_0 : decode cX7_lay 0 = .ok (.aload_n 0, 1) := by decide +kernel
theorem dX7_lay_1 : decode cX7_lay 1 = .ok (.getfield 16, 3) := by decide +kernel
theorem dX7_lay_4 : decode cX7_lay 4 = .ok (.iload_n 1, 1) := by decide +kernel
theorem dX7_lay_5 : decode cX7_lay 5 = .ok (.iaload, 1) := by decide +kernel
theorem dX7_lay_6 : decode cX7_lay 6 = .ok (.istore 4, 2) := by decide +kernel
theorem dX7_lay_8 : decode cX7_lay 8 = .ok (.aload_n 0, 1) := by decide +kernel
theorem dX7_lay_9 : decode cX7_lay 9 = .ok (.getfield 11, 3) := by decide +kernel
theorem dX7_lay_12 : decode cX7_lay 12 = .ok (.iload_n 1, 1) := by decide +kernel
theorem dX7_lay_13 : decode cX7_lay 13 = .ok (.aaload, 1) := by decide +kernel
theorem dX7_lay_14 : decode cX7_lay 14 = .ok (.iload_n 2, 1) := by decide +kernel
theorem dX7_lay_15 : decode cX7_lay 15 = .ok (.iload 4, 2) := by decide +kernel
theorem dX7_lay_17 : decode cX7_lay 17 = .ok (.ifCond .ne 8, 3) := by decide +kernel
theorem dX7_lay_20 : decode cX7_lay 20 = .ok (.iload_n 3, 1) := by decide +kernel
theorem dX7_lay_21 : decode cX7_lay 21 = .ok (.i2b, 1) := by decide +kernel
theorem dX7_lay_22 : decode cX7_lay 22 = .ok (.goto 15, 3) := by decide +kernel
theorem dX7_lay_25 : decode cX7_lay 25 = .ok (.iload 4, 2) := by decide +kernel
theorem dX7_lay_27 : decode cX7_lay 27 = .ok (.iconst 1, 1) := by decide +kernel
theorem dX7_lay_28 : decode cX7_lay 28 = .ok (.if_icmp .ne 8, 3) := by decide +kernel
theorem dX7_lay_31 : decode cX7_lay 31 = .ok (.iload_n 3, 1) := by decide +kernel
theorem dX7_lay_32 : decode cX7_lay 32 = .ok (.i2s, 1) := by decide +kernel
theorem dX7_lay_33 : decode cX7_lay 33 = .ok (.goto 4, 3) := by decide +kernel
theorem dX7_lay_36 : decode cX7_lay 36 = .ok (.iload_n 3, 1) := by decide +kernel
theorem dX7_lay_37 : decode cX7_lay 37 = .ok (.iastore, 1) := by decide +kernel
theorem dX7_lay_38 : decode cX7_lay 38 = .ok (.return_, 1) := by decide +kernel
theorem dX7_renew_0 : decode cX7_renew 0 = .ok (.aload_n 0, 1) := by decide +kernel
theorem dX7_renew_1 : decode cX7_renew 1 = .ok (.getfield 16, 3) := by decide +kernel
theorem dX7_renew_4 : decode cX7_renew 4 = .ok (.iload_n 1, 1) := by decide +kernel
theorem dX7_renew_5 : decode cX7_renew 5 = .ok (.iload_n 2, 1) := by decide +kernel
theorem dX7_renew_6 : decode cX7_renew 6 = .ok (.iastore, 1) := by decide +kernel
theorem dX7_renew_7 : decode cX7_renew 7 = .ok (.aload_n 0, 1) := by decide +kernel
theorem dX7_renew_8 : decode cX7_renew 8 = .ok (.getfield 20, 3) := by decide +kernel
theorem dX7_renew_11 : decode cX7_renew 11 = .ok (.iload_n 1, 1) := by decide +kernel
theorem dX7_renew_12 : decode cX7_renew 12 = .ok (.iload_n 3, 1) := by decide +kernel
theorem dX7_renew_13 : decode cX7_renew 13 = .ok (.iastore, 1) := by decide +kernel
theorem dX7_renew_14 : decode cX7_renew 14 = .ok (.iconst 0, 1) := by decide +kernel
theorem dX7_renew_15 : decode cX7_renew 15 = .ok (.istore 4, 2) := by decide +kernel
theorem dX7_renew_17 : decode cX7_renew 17 = .ok (.iload 4, 2) := by decide +kernel
theorem dX7_renew_19 : decode cX7_renew 19 = .ok (.bipush 40, 2) := by decide +kernel
theorem dX7_renew_21 : decode cX7_renew 21 = .ok (.if_icmp .ge 19, 3) := by decide +kernel
theorem dX7_renew_24 : decode cX7_renew 24 = .ok (.aload_n 0, 1) := by decide +kernel
theorem dX7_renew_25 : decode cX7_renew 25 = .ok (.getfield 11, 3) := by decide +kernel
theorem dX7_renew_28 : decode cX7_renew 28 = .ok (.iload_n 1, 1) := by decide +kernel
theorem dX7_renew_29 : decode cX7_renew 29 = .ok (.aaload, 1) := by decide +kernel
theorem dX7_renew_30 : decode cX7_renew 30 = .ok (.iload 4, 2) := by decide +kernel
theorem dX7_renew_32 : decode cX7_renew 32 = .ok (.iconst 0, 1) := by decide +kernel
theorem dX7_renew_33 : decode cX7_renew 33 = .ok (.iastore, 1) := by decide +kernel
theorem dX7_renew_34 : decode cX7_renew 34 = .ok (.iinc 4 1, 3) := by decide +kernel
theorem dX7_renew_37 : decode cX7_renew 37 = .ok (.goto (-20), 3) := by decide +kernel
theorem dX7_renew_40 : decode cX7_renew 40 = .ok (.return_, 1) := by decide +kernel
theorem dX8_areFarms_0 : decode cX8_areFarms 0 = .ok (.iload_n 1, 1) := by decide +kernel
theorem dX8_areFarms_1 : decode cX8_areFarms 1 = .ok (.bipush 7, 2) := by decide +kernel
theorem dX8_areFarms_3 : decode cX8_areFarms 3 = .ok (.if_icmp .le 5, 3) := by decide +kernel
theorem dX8_areFarms_6 : decode cX8_areFarms 6 = .ok (.iconst 0, 1) := by decide +kernel
theorem dX8_areFarms_7 : decode cX8_areFarms 7 = .ok (.ireturn, 1) := by decide +kernel
theorem dX8_areFarms_8 : decode cX8_areFarms 8 = .ok (.iconst 0, 1) := by decide +kernel
theorem dX8_areFarms_9 : decode cX8_areFarms 9 = .ok (.istore_n 2, 1) := by decide +kernel
theorem dX8_areFarms_10 : decode cX8_areFarms 10 = .ok (.iconst 0, 1) := by decide +kernel
theorem dX8_areFarms_11 : decode cX8_areFarms 11 = .ok (.istore_n 3, 1) := by decide +kernel
theorem dX8_areFarms_12 : decode cX8_areFarms 12 = .ok (.iload_n 3, 1) := by decide +kernel
theorem dX8_areFarms_13 : decode cX8_areFarms 13 = .ok (.iload_n 1, 1) := by decide +kernel
theorem dX8_areFarms_14 : decode cX8_areFarms 14 = .ok (.if_icmp .ge 39, 3) := by decide +kernel
theorem dX8_areFarms_17 : decode cX8_areFarms 17 = .ok (.aload_n 0, 1) := by decide +kernel
theorem dX8_areFarms_18 : decode cX8_areFarms 18 = .ok (.iload_n 3, 1) := by decide +kernel
theorem dX8_areFarms_19 : decode cX8_areFarms 19 = .ok (.iaload, 1) := by decide +kernel
theorem dX8_areFarms_20 : decode cX8_areFarms 20 = .ok (.invokestatic 139, 3) := by decide +kernel
theorem dX8_areFarms_23 : decode cX8_areFarms 23 = .ok (.ifCond .eq 14, 3) := by decide +kernel
theorem dX8_areFarms_26 : decode cX8_areFarms 26 = .ok (.iload_n 2, 1) := by decide +kernel
theorem dX8_areFarms_27 : decode cX8_areFarms 27 = .ok (.aload_n 0, 1) := by decide +kernel
theorem dX8_areFarms_28 : decode cX8_areFarms 28 = .ok (.iload_n 3, 1) := by decide +kernel
theorem dX8_areFarms_29 : decode cX8_areFarms 29 = .ok (.iaload, 1) := by decide +kernel
theorem dX8_areFarms_30 : decode cX8_areFarms 30 = .ok (.ishr, 1) := by decide +kernel
theorem dX8_areFarms_31 : decode cX8_areFarms 31 = .ok (.iconst 1, 1) := by decide +kernel
theorem dX8_areFarms_32 : decode cX8_areFarms 32 = .ok (.iand, 1) := by decide +kernel
theorem dX8_areFarms_33 : decode cX8_areFarms 33 = .ok (.iconst 1, 1) := by decide +kernel
theorem dX8_areFarms_34 : decode cX8_areFarms 34 = .ok (.if_icmp .ne 5, 3) := by decide +kernel
theorem dX8_areFarms_37 : decode cX8_areFarms 37 = .ok (.iconst 0, 1) := by decide +kernel
theorem dX8_areFarms_38 : decode cX8_areFarms 38 = .ok (.ireturn, 1) := by decide +kernel
theorem dX8_areFarms_39 : decode cX8_areFarms 39 = .ok (.iload_n 2, 1) := by decide +kernel
theorem dX8_areFarms_40 : decode cX8_areFarms 40 = .ok (.iconst 1, 1) := by decide +kernel
theorem dX8_areFarms_41 : decode cX8_areFarms 41 = .ok (.aload_n 0, 1) := by decide +kernel
theorem dX8_areFarms_42 : decode cX8_areFarms 42 = .ok (.iload_n 3, 1) := by decide +kernel
theorem dX8_areFarms_43 : decode cX8_areFarms 43 = .ok (.iaload, 1) := by decide +kernel
theorem dX8_areFarms_44 : decode cX8_areFarms 44 = .ok (.ishl, 1) := by decide +kernel
theorem dX8_areFarms_45 : decode cX8_areFarms 45 = .ok (.ior, 1) := by decide +kernel
theorem dX8_areFarms_46 : decode cX8_areFarms 46 = .ok (.istore_n 2, 1) := by decide +kernel
theorem dX8_areFarms_47 : decode cX8_areFarms 47 = .ok (.iinc 3 1, 3) := by decide +kernel
theorem dX8_areFarms_50 : decode cX8_areFarms 50 = .ok (.goto (-38), 3) := by decide +kernel
theorem dX8_areFarms_53 : decode cX8_areFarms 53 = .ok (.iconst 1, 1) := by decide +kernel
theorem dX8_areFarms_54 : decode cX8_areFarms 54 = .ok (.ireturn, 1) := by decide +kernel
theorem dX8_ask_0 : decode cX8_ask 0 = .ok (.iload_n 1, 1) := by decide +kernel
theorem dX8_ask_1 : decode cX8_ask 1 = .ok (.invokestatic 91, 3) := by decide +kernel
theorem dX8_ask_4 : decode cX8_ask 4 = .ok (.ifCond .eq 26, 3) := by decide +kernel
theorem dX8_ask_7 : decode cX8_ask 7 = .ok (.iload_n 2, 1) := by decide +kernel
theorem dX8_ask_8 : decode cX8_ask 8 = .ok (.iconst 0, 1) := by decide +kernel
theorem dX8_ask_9 : decode cX8_ask 9 = .ok (.aload_n 0, 1) := by decide +kernel
theorem dX8_ask_10 : decode cX8_ask 10 = .ok (.getfield 78, 3) := by decide +kernel
theorem dX8_ask_13 : decode cX8_ask 13 = .ok (.iconst 1, 1) := by decide +kernel
theorem dX8_ask_14 : decode cX8_ask 14 = .ok (.isub, 1) := by decide +kernel
theorem dX8_ask_15 : decode cX8_ask 15 = .ok (.invokestatic 95, 3) := by decide +kernel
theorem dX8_ask_18 : decode cX8_ask 18 = .ok (.ifCond .eq 12, 3) := by decide +kernel
theorem dX8_ask_21 : decode cX8_ask 21 = .ok (.iload_n 3, 1) := by decide +kernel
theorem dX8_ask_22 : decode cX8_ask 22 = .ok (.iconst 1, 1) := by decide +kernel
theorem dX8_ask_23 : decode cX8_ask 23 = .ok (.iconst 4, 1) := by decide +kernel
theorem dX8_ask_24 : decode cX8_ask 24 = .ok (.invokestatic 95, 3) := by decide +kernel
theorem dX8_ask_27 : decode cX8_ask 27 = .ok (.ifCond .ne 6, 3) := by decide +kernel
theorem dX8_ask_30 : decode cX8_ask 30 = .ok (.bipush (-2), 2) := by decide +kernel
theorem dX8_ask_32 : decode cX8_ask 32 = .ok (.ireturn, 1) := by decide +kernel
theorem dX8_ask_33 : decode cX8_ask 33 = .ok (.aload_n 0, 1) := by decide +kernel
theorem dX8_ask_34 : decode cX8_ask 34 = .ok (.getfield 49, 3) := by decide +kernel
theorem dX8_ask_37 : decode cX8_ask 37 = .ok (.aload_n 0, 1) := by decide +kernel
theorem dX8_ask_38 : decode cX8_ask 38 = .ok (.getfield 62, 3) := by decide +kernel
theorem dX8_ask_41 : decode cX8_ask 41 = .ok (.aload_n 0, 1) := by decide +kernel
theorem dX8_ask_42 : decode cX8_ask 42 = .ok (.getfield 78, 3) := by decide +kernel
theorem dX8_ask_45 : decode cX8_ask 45 = .ok (.invokevirtual 218, 3) := by decide +kernel
theorem dX8_ask_48 : decode cX8_ask 48 = .ok (.aload_n 0, 1) := by decide +kernel
theorem dX8_ask_49 : decode cX8_ask 49 = .ok (.getfield 49, 3) := by decide +kernel
theorem dX8_ask_52 : decode cX8_ask 52 = .ok (.aload_n 0, 1) := by decide +kernel
theorem dX8_ask_53 : decode cX8_ask 53 = .ok (.getfield 78, 3) := by decide +kernel
theorem dX8_ask_56 : decode cX8_ask 56 = .ok (.iload_n 2, 1) := by decide +kernel
theorem dX8_ask_57 : decode cX8_ask 57 = .ok (.isub, 1) := by decide +kernel
theorem dX8_ask_58 : decode cX8_ask 58 = .ok (.aload_n 0, 1) := by decide +kernel
theorem dX8_ask_59 : decode cX8_ask 59 = .ok (.getfield 62, 3) := by decide +kernel
theorem dX8_ask_62 : decode cX8_ask 62 = .ok (.iload_n 2, 1) := by decide +kernel
theorem dX8_ask_63 : decode cX8_ask 63 = .ok (.iaload, 1) := by decide +kernel
theorem dX8_ask_64 : decode cX8_ask 64 = .ok (.iload_n 1, 1) := by decide +kernel
theorem dX8_ask_65 : decode cX8_ask 65 = .ok (.iload_n 3, 1) := by decide +kernel
theorem dX8_ask_66 : decode cX8_ask 66 = .ok (.invokevirtual 222, 3) := by decide +kernel
theorem dX8_ask_69 : decode cX8_ask 69 = .ok (.ireturn, 1) := by decide +kernel
theorem dX8_numberOrWeight_0 : decode cX8_numberOrWeight 0 = .ok (.iload_n 2, 1) := by decide +kernel
theorem dX8_numberOrWeight_1 : decode cX8_numberOrWeight 1 = .ok (.iconst (-1), 1) := by decide +kernel
theorem dX8_numberOrWeight_2 : decode cX8_numberOrWeight 2 = .ok (.if_icmp .ne 14, 3) := by decide +kernel
theorem dX8_numberOrWeight_5 : decode cX8_numberOrWeight 5 = .ok (.aload_n 0, 1) := by decide +kernel
theorem dX8_numberOrWeight_6 : decode cX8_numberOrWeight 6 = .ok (.getfield 12, 3) := by decide +kernel
theorem dX8_numberOrWeight_9 : decode cX8_numberOrWeight 9 = .ok (.aload_n 1, 1) := by decide +kernel
theorem dX8_numberOrWeight_10 : decode cX8_numberOrWeight 10 = .ok (.invokevirtual 179, 3) := by decide +kernel
theorem dX8_numberOrWeight_13 : decode cX8_numberOrWeight 13 = .ok (.goto 6, 3) := by decide +kernel
theorem dX8_numberOrWeight_16 : decode cX8_numberOrWeight 16 = .ok (.aload_n 1, 1) := by decide +kernel
theorem dX8_numberOrWeight_17 : decode cX8_numberOrWeight 17 = .ok (.iload_n 2, 1) := by decide +kernel
theorem dX8_numberOrWeight_18 : decode cX8_numberOrWeight 18 = .ok (.iaload, 1) := by decide +kernel
theorem dX8_numberOrWeight_19 : decode cX8_numberOrWeight 19 = .ok (.ireturn, 1) := by decide +kernel
theorem dX8_weighUp_0 : decode cX8_weighUp 0 = .ok (.aload_n 0, 1) := by decide +kernel
theorem dX8_weighUp_1 : decode cX8_weighUp 1 = .ok (.getfield 49, 3) := by decide +kernel
theorem dX8_weighUp_4 : decode cX8_weighUp 4 = .ok (.aload_n 0, 1) := by decide +kernel
theorem dX8_weighUp_5 : decode cX8_weighUp 5 = .ok (.getfield 62, 3) := by decide +kernel
theorem dX8_weighUp_8 : decode cX8_weighUp 8 = .ok (.aload_n 0, 1) := by decide +kernel
theorem dX8_weighUp_9 : decode cX8_weighUp 9 = .ok (.getfield 78, 3) := by decide +kernel
theorem dX8_weighUp_12 : decode cX8_weighUp 12 = .ok (.invokevirtual 218, 3) := by decide +kernel
theorem dX8_weighUp_15 : decode cX8_weighUp 15 = .ok (.aload_n 0, 1) := by decide +kernel
theorem dX8_weighUp_16 : decode cX8_weighUp 16 = .ok (.getfield 58, 3) := by decide +kernel
theorem dX8_weighUp_19 : decode cX8_weighUp 19 = .ok (.aload_n 0, 1) := by decide +kernel
theorem dX8_weighUp_20 : decode cX8_weighUp 20 = .ok (.getfield 49, 3) := by decide +kernel
theorem dX8_weighUp_23 : decode cX8_weighUp 23 = .ok (.getfield 226, 3) := by decide +kernel
theorem dX8_weighUp_26 : decode cX8_weighUp 26 = .ok (.aload_n 0, 1) := by decide +kernel
theorem dX8_weighUp_27 : decode cX8_weighUp 27 = .ok (.getfield 78, 3) := by decide +kernel
theorem dX8_weighUp_30 : decode cX8_weighUp 30 = .ok (.aaload, 1) := by decide +kernel
theorem dX8_weighUp_31 : decode cX8_weighUp 31 = .ok (.invokevirtual 366, 3) := by decide +kernel
theorem dX8_weighUp_34 : decode cX8_weighUp 34 = .ok (.return_, 1) := by decide +kernel
theorem dX8_best_0 : decode cX8_best 0 = .ok (.iload_n 1, 1) := by decide +kernel
theorem dX8_best_1 : decode cX8_best 1 = .ok (.iconst (-1), 1) := by decide +kernel
theorem dX8_best_2 : decode cX8_best 2 = .ok (.iconst 5, 1) := by decide +kernel
theorem dX8_best_3 : decode cX8_best 3 = .ok (.invokestatic 95, 3) := by decide +kernel
theorem dX8_best_6 : decode cX8_best 6 = .ok (.ifCond .ne 6, 3) := by decide +kernel
theorem dX8_best_9 : decode cX8_best 9 = .ok (.bipush (-2), 2) := by decide +kernel
theorem dX8_best_11 : decode cX8_best 11 = .ok (.ireturn, 1) := by decide +kernel
theorem dX8_best_12 : decode cX8_best 12 = .ok (.aload_n 0, 1) := by decide +kernel
theorem dX8_best_13 : decode cX8_best 13 = .ok (.invokevirtual 230, 3) := by decide +kernel
theorem dX8_best_16 : decode cX8_best 16 = .ok (.aload_n 0, 1) := by decide +kernel
theorem dX8_best_17 : decode cX8_best 17 = .ok (.getfield 58, 3) := by decide +kernel
theorem dX8_best_20 : decode cX8_best 20 = .ok (.aload_n 0, 1) := by decide +kernel
theorem dX8_best_21 : decode cX8_best 21 = .ok (.getfield 85, 3) := by decide +kernel
theorem dX8_best_24 : decode cX8_best 24 = .ok (.invokevirtual 237, 3) := by decide +kernel
theorem dX8_best_27 : decode cX8_best 27 = .ok (.aload_n 0, 1) := by decide +kernel
theorem dX8_best_28 : decode cX8_best 28 = .ok (.aload_n 0, 1) := by decide +kernel
theorem dX8_best_29 : decode cX8_best 29 = .ok (.getfield 58, 3) := by decide +kernel
theorem dX8_best_32 : decode cX8_best 32 = .ok (.getfield 241, 3) := by decide +kernel
theorem dX8_best_35 : decode cX8_best 35 = .ok (.iload_n 1, 1) := by decide +kernel
theorem dX8_best_36 : decode cX8_best 36 = .ok (.invokevirtual 244, 3) := by decide +kernel
theorem dX8_best_39 : decode cX8_best 39 = .ok (.ireturn, 1) := by decide +kernel
theorem dX8_isTerm_0 : decode cX8_isTerm 0 = .ok (.iload_n 0, 1) := by decide +kernel
theorem dX8_isTerm_1 : decode cX8_isTerm 1 = .ok (.iconst 0, 1) := by decide +kernel
theorem dX8_isTerm_2 : decode cX8_isTerm 2 = .ok (.iconst 1, 1) := by decide +kernel
theorem dX8_isTerm_3 : decode cX8_isTerm 3 = .ok (.invokestatic 95, 3) := by decide +kernel
theorem dX8_isTerm_6 : decode cX8_isTerm 6 = .ok (.ireturn, 1) := by decide +kernel
theorem dX8_refusal_0 : decode cX8_refusal 0 = .ok (.ldc2_w 351, 3) := by decide +kernel
theorem dX8_refusal_3 : decode cX8_refusal 3 = .ok (.iload_n 0, 1) := by decide +kernel
theorem dX8_refusal_4 : decode cX8_refusal 4 = .ok (.i2l, 1) := by decide +kernel
theorem dX8_refusal_5 : decode cX8_refusal 5 = .ok (.lsub, 1) := by decide +kernel
theorem dX8_refusal_6 : decode cX8_refusal 6 = .ok (.lreturn, 1) := by decide +kernel
theorem dX8_sharedDivisor_0 : decode cX8_sharedDivisor 0 = .ok (.iconst 0, 1) := by decide +kernel
theorem dX8_sharedDivisor_1 : decode cX8_sharedDivisor 1 = .ok (.istore 4, 2) := by decide +kernel
theorem dX8_sharedDivisor_3 : decode cX8_sharedDivisor 3 = .ok (.iload 4, 2) := by decide +kernel
theorem dX8_sharedDivisor_5 : decode cX8_sharedDivisor 5 = .ok (.sipush 200, 3) := by decide +kernel
theorem dX8_sharedDivisor_8 : decode cX8_sharedDivisor 8 = .ok (.if_icmp .ge 25, 3) := by decide +kernel
theorem dX8_sharedDivisor_11 : decode cX8_sharedDivisor 11 = .ok (.lload_n 2, 1) := by decide +kernel
theorem dX8_sharedDivisor_12 : decode cX8_sharedDivisor 12 = .ok (.lconst 0, 1) := by decide +kernel
theorem dX8_sharedDivisor_13 : decode cX8_sharedDivisor 13 = .ok (.lcmp, 1) := by decide +kernel
theorem dX8_sharedDivisor_14 : decode cX8_sharedDivisor 14 = .ok (.ifCond .eq 19, 3) := by decide +kernel
theorem dX8_sharedDivisor_17 : decode cX8_sharedDivisor 17 = .ok (.lload_n 0, 1) := by decide +kernel
theorem dX8_sharedDivisor_18 : decode cX8_sharedDivisor 18 = .ok (.lload_n 2, 1) := by decide +kernel
theorem dX8_sharedDivisor_19 : decode cX8_sharedDivisor 19 = .ok (.lrem, 1) := by decide +kernel
theorem dX8_sharedDivisor_20 : decode cX8_sharedDivisor 20 = .ok (.lstore 5, 2) := by decide +kernel
theorem dX8_sharedDivisor_22 : decode cX8_sharedDivisor 22 = .ok (.lload_n 2, 1) := by decide +kernel
theorem dX8_sharedDivisor_23 : decode cX8_sharedDivisor 23 = .ok (.lstore_n 0, 1) := by decide +kernel
theorem dX8_sharedDivisor_24 : decode cX8_sharedDivisor 24 = .ok (.lload 5, 2) := by decide +kernel
theorem dX8_sharedDivisor_26 : decode cX8_sharedDivisor 26 = .ok (.lstore_n 2, 1) := by decide +kernel
theorem dX8_sharedDivisor_27 : decode cX8_sharedDivisor 27 = .ok (.iinc 4 1, 3) := by decide +kernel
theorem dX8_sharedDivisor_30 : decode cX8_sharedDivisor 30 = .ok (.goto (-27), 3) := by decide +kernel
theorem dX8_sharedDivisor_33 : decode cX8_sharedDivisor 33 = .ok (.lload_n 0, 1) := by decide +kernel
theorem dX8_sharedDivisor_34 : decode cX8_sharedDivisor 34 = .ok (.lreturn, 1) := by decide +kernel
theorem dX8_term_0 : decode cX8_term 0 = .ok (.lload_n 0, 1) := by decide +kernel
theorem dX8_term_1 : decode cX8_term 1 = .ok (.invokestatic 353, 3) := by decide +kernel
theorem dX8_term_4 : decode cX8_term 4 = .ok (.lload_n 2, 1) := by decide +kernel
theorem dX8_term_5 : decode cX8_term 5 = .ok (.invokestatic 357, 3) := by decide +kernel
theorem dX8_term_8 : decode cX8_term 8 = .ok (.lstore 5, 2) := by decide +kernel
theorem dX8_term_10 : decode cX8_term 10 = .ok (.lload 5, 2) := by decide +kernel
theorem dX8_term_12 : decode cX8_term 12 = .ok (.lconst 0, 1) := by decide +kernel
theorem dX8_term_13 : decode cX8_term 13 = .ok (.lcmp, 1) := by decide +kernel
theorem dX8_term_14 : decode cX8_term 14 = .ok (.ifCond .ne 5, 3) := by decide +kernel
theorem dX8_term_17 : decode cX8_term 17 = .ok (.lconst 0, 1) := by decide +kernel
theorem dX8_term_18 : decode cX8_term 18 = .ok (.lreturn, 1) := by decide +kernel
theorem dX8_term_19 : decode cX8_term 19 = .ok (.iload 4, 2) := by decide +kernel
theorem dX8_term_21 : decode cX8_term 21 = .ok (.ifCond .ne 10, 3) := by decide +kernel
theorem dX8_term_24 : decode cX8_term 24 = .ok (.lload_n 0, 1) := by decide +kernel
theorem dX8_term_25 : decode cX8_term 25 = .ok (.lload 5, 2) := by decide +kernel
theorem dX8_term_27 : decode cX8_term 27 = .ok (.ldiv, 1) := by decide +kernel
theorem dX8_term_28 : decode cX8_term 28 = .ok (.goto 7, 3) := by decide +kernel
theorem dX8_term_31 : decode cX8_term 31 = .ok (.lload_n 2, 1) := by decide +kernel
theorem dX8_term_32 : decode cX8_term 32 = .ok (.lload 5, 2) := by decide +kernel
theorem dX8_term_34 : decode cX8_term 34 = .ok (.ldiv, 1) := by decide +kernel
theorem dX8_term_35 : decode cX8_term 35 = .ok (.lreturn, 1) := by decide +kernel
theorem dJ6_bitCount_0f7a4_0 : decode cJ6_bitCount_0f7a4 0 = .ok (.iload_n 0, 1) := by decide +kernel
theorem dJ6_bitCount_0f7a4_1 : decode cJ6_bitCount_0f7a4 1 = .ok (.iload_n 0, 1) := by decide +kernel
theorem dJ6_bitCount_0f7a4_2 : decode cJ6_bitCount_0f7a4 2 = .ok (.iconst 1, 1) := by decide +kernel
theorem dJ6_bitCount_0f7a4_3 : decode cJ6_bitCount_0f7a4 3 = .ok (.iushr, 1) := by decide +kernel
theorem dJ6_bitCount_0f7a4_4 : decode cJ6_bitCount_0f7a4 4 = .ok (.ldc_w 265, 3) := by decide +kernel
theorem dJ6_bitCount_0f7a4_7 : decode cJ6_bitCount_0f7a4 7 = .ok (.iand, 1) := by decide +kernel
theorem dJ6_bitCount_0f7a4_8 : decode cJ6_bitCount_0f7a4 8 = .ok (.isub, 1) := by decide +kernel
theorem dJ6_bitCount_0f7a4_9 : decode cJ6_bitCount_0f7a4 9 = .ok (.istore_n 0, 1) := by decide +kernel
theorem dJ6_bitCount_0f7a4_10 : decode cJ6_bitCount_0f7a4 10 = .ok (.iload_n 0, 1) := by decide +kernel
theorem dJ6_bitCount_0f7a4_11 : decode cJ6_bitCount_0f7a4 11 = .ok (.ldc_w 266, 3) := by decide +kernel
theorem dJ6_bitCount_0f7a4_14 : decode cJ6_bitCount_0f7a4 14 = .ok (.iand, 1) := by decide +kernel
theorem dJ6_bitCount_0f7a4_15 : decode cJ6_bitCount_0f7a4 15 = .ok (.iload_n 0, 1) := by decide +kernel
theorem dJ6_bitCount_0f7a4_16 : decode cJ6_bitCount_0f7a4 16 = .ok (.iconst 2, 1) := by decide +kernel
theorem dJ6_bitCount_0f7a4_17 : decode cJ6_bitCount_0f7a4 17 = .ok (.iushr, 1) := by decide +kernel
theorem dJ6_bitCount_0f7a4_18 : decode cJ6_bitCount_0f7a4 18 = .ok (.ldc_w 266, 3) := by decide +kernel
theorem dJ6_bitCount_0f7a4_21 : decode cJ6_bitCount_0f7a4 21 = .ok (.iand, 1) := by decide +kernel
theorem dJ6_bitCount_0f7a4_22 : decode cJ6_bitCount_0f7a4 22 = .ok (.iadd, 1) := by decide +kernel
theorem dJ6_bitCount_0f7a4_23 : decode cJ6_bitCount_0f7a4 23 = .ok (.istore_n 0, 1) := by decide +kernel
theorem dJ6_bitCount_0f7a4_24 : decode cJ6_bitCount_0f7a4 24 = .ok (.iload_n 0, 1) := by decide +kernel
theorem dJ6_bitCount_0f7a4_25 : decode cJ6_bitCount_0f7a4 25 = .ok (.iload_n 0, 1) := by decide +kernel
theorem dJ6_bitCount_0f7a4_26 : decode cJ6_bitCount_0f7a4 26 = .ok (.iconst 4, 1) := by decide +kernel
theorem dJ6_bitCount_0f7a4_27 : decode cJ6_bitCount_0f7a4 27 = .ok (.iushr, 1) := by decide +kernel
theorem dJ6_bitCount_0f7a4_28 : decode cJ6_bitCount_0f7a4 28 = .ok (.iadd, 1) := by decide +kernel
theorem dJ6_bitCount_0f7a4_29 : decode cJ6_bitCount_0f7a4 29 = .ok (.ldc_w 267, 3) := by decide +kernel
theorem dJ6_bitCount_0f7a4_32 : decode cJ6_bitCount_0f7a4 32 = .ok (.iand, 1) := by decide +kernel
theorem dJ6_bitCount_0f7a4_33 : decode cJ6_bitCount_0f7a4 33 = .ok (.istore_n 0, 1) := by decide +kernel
theorem dJ6_bitCount_0f7a4_34 : decode cJ6_bitCount_0f7a4 34 = .ok (.iload_n 0, 1) := by decide +kernel
theorem dJ6_bitCount_0f7a4_35 : decode cJ6_bitCount_0f7a4 35 = .ok (.iload_n 0, 1) := by decide +kernel
theorem dJ6_bitCount_0f7a4_36 : decode cJ6_bitCount_0f7a4 36 = .ok (.bipush 8, 2) := by decide +kernel
theorem dJ6_bitCount_0f7a4_38 : decode cJ6_bitCount_0f7a4 38 = .ok (.iushr, 1) := by decide +kernel
theorem dJ6_bitCount_0f7a4_39 : decode cJ6_bitCount_0f7a4 39 = .ok (.iadd, 1) := by decide +kernel
theorem dJ6_bitCount_0f7a4_40 : decode cJ6_bitCount_0f7a4 40 = .ok (.istore_n 0, 1) := by decide +kernel
theorem dJ6_bitCount_0f7a4_41 : decode cJ6_bitCount_0f7a4 41 = .ok (.iload_n 0, 1) := by decide +kernel
theorem dJ6_bitCount_0f7a4_42 : decode cJ6_bitCount_0f7a4 42 = .ok (.iload_n 0, 1) := by decide +kernel
theorem dJ6_bitCount_0f7a4_43 : decode cJ6_bitCount_0f7a4 43 = .ok (.bipush 16, 2) := by decide +kernel
theorem dJ6_bitCount_0f7a4_45 : decode cJ6_bitCount_0f7a4 45 = .ok (.iushr, 1) := by decide +kernel
theorem dJ6_bitCount_0f7a4_46 : decode cJ6_bitCount_0f7a4 46 = .ok (.iadd, 1) := by decide +kernel
theorem dJ6_bitCount_0f7a4_47 : decode cJ6_bitCount_0f7a4 47 = .ok (.istore_n 0, 1) := by decide +kernel
theorem dJ6_bitCount_0f7a4_48 : decode cJ6_bitCount_0f7a4 48 = .ok (.iload_n 0, 1) := by decide +kernel
theorem dJ6_bitCount_0f7a4_49 : decode cJ6_bitCount_0f7a4 49 = .ok (.bipush 63, 2) := by decide +kernel
theorem dJ6_bitCount_0f7a4_51 : decode cJ6_bitCount_0f7a4 51 = .ok (.iand, 1) := by decide +kernel
theorem dJ6_bitCount_0f7a4_52 : decode cJ6_bitCount_0f7a4 52 = .ok (.ireturn, 1) := by decide +kernel
theorem dX8_tooManyOpen_0 : decode cX8_tooManyOpen 0 = .ok (.aload_n 0, 1) := by decide +kernel
theorem dX8_tooManyOpen_1 : decode cX8_tooManyOpen 1 = .ok (.getfield 88, 3) := by decide +kernel
theorem dX8_tooManyOpen_4 : decode cX8_tooManyOpen 4 = .ok (.invokestatic 361, 3) := by decide +kernel
theorem dX8_tooManyOpen_7 : decode cX8_tooManyOpen 7 = .ok (.iconst 5, 1) := by decide +kernel
theorem dX8_tooManyOpen_8 : decode cX8_tooManyOpen 8 = .ok (.if_icmp .le 7, 3) := by decide +kernel
theorem dX8_tooManyOpen_11 : decode cX8_tooManyOpen 11 = .ok (.iconst 1, 1) := by decide +kernel
theorem dX8_tooManyOpen_12 : decode cX8_tooManyOpen 12 = .ok (.goto 4, 3) := by decide +kernel
theorem dX8_tooManyOpen_15 : decode cX8_tooManyOpen 15 = .ok (.iconst 0, 1) := by decide +kernel
theorem dX8_tooManyOpen_16 : decode cX8_tooManyOpen 16 = .ok (.ireturn, 1) := by decide +kernel
theorem dX8_both_0 : decode cX8_both 0 = .ok (.iload_n 1, 1) := by decide +kernel
theorem dX8_both_1 : decode cX8_both 1 = .ok (.invokestatic 193, 3) := by decide +kernel
theorem dX8_both_4 : decode cX8_both 4 = .ok (.ifCond .ne 9, 3) := by decide +kernel
theorem dX8_both_7 : decode cX8_both 7 = .ok (.bipush (-2), 2) := by decide +kernel
theorem dX8_both_9 : decode cX8_both 9 = .ok (.invokestatic 196, 3) := by decide +kernel
theorem dX8_both_12 : decode cX8_both 12 = .ok (.lreturn, 1) := by decide +kernel
theorem dX8_both_13 : decode cX8_both 13 = .ok (.aload_n 0, 1) := by decide +kernel
theorem dX8_both_14 : decode cX8_both 14 = .ok (.invokevirtual 257, 3) := by decide +kernel
theorem dX8_both_17 : decode cX8_both 17 = .ok (.ifCond .eq 9, 3) := by decide +kernel
theorem dX8_both_20 : decode cX8_both 20 = .ok (.bipush (-4), 2) := by decide +kernel
theorem dX8_both_22 : decode cX8_both 22 = .ok (.invokestatic 196, 3) := by decide +kernel
theorem dX8_both_25 : decode cX8_both 25 = .ok (.lreturn, 1) := by decide +kernel
theorem dX8_both_26 : decode cX8_both 26 = .ok (.aload_n 0, 1) := by decide +kernel
theorem dX8_both_27 : decode cX8_both 27 = .ok (.getfield 74, 3) := by decide +kernel
theorem dX8_both_30 : decode cX8_both 30 = .ok (.aload_n 0, 1) := by decide +kernel
theorem dX8_both_31 : decode cX8_both 31 = .ok (.getfield 88, 3) := by decide +kernel
theorem dX8_both_34 : decode cX8_both 34 = .ok (.aload_n 0, 1) := by decide +kernel
theorem dX8_both_35 : decode cX8_both 35 = .ok (.getfield 82, 3) := by decide +kernel
theorem dX8_both_38 : decode cX8_both 38 = .ok (.aload_n 0, 1) := by decide +kernel
theorem dX8_both_39 : decode cX8_both 39 = .ok (.getfield 85, 3) := by decide +kernel
theorem dX8_both_42 : decode cX8_both 42 = .ok (.invokevirtual 261, 3) := by decide +kernel
theorem dX8_both_45 : decode cX8_both 45 = .ok (.aload_n 0, 1) := by decide +kernel
theorem dX8_both_46 : decode cX8_both 46 = .ok (.getfield 74, 3) := by decide +kernel
theorem dX8_both_49 : decode cX8_both 49 = .ok (.aload_n 0, 1) := by decide +kernel
theorem dX8_both_50 : decode cX8_both 50 = .ok (.getfield 88, 3) := by decide +kernel
theorem dX8_both_53 : decode cX8_both 53 = .ok (.invokevirtual 285, 3) := by decide +kernel
theorem dX8_both_56 : decode cX8_both 56 = .ok (.aload_n 0, 1) := by decide +kernel
theorem dX8_both_57 : decode cX8_both 57 = .ok (.getfield 74, 3) := by decide +kernel
theorem dX8_both_60 : decode cX8_both 60 = .ok (.getfield 294, 3) := by decide +kernel
theorem dX8_both_63 : decode cX8_both 63 = .ok (.ldc2_w 212, 3) := by decide +kernel
theorem dX8_both_66 : decode cX8_both 66 = .ok (.iload_n 1, 1) := by decide +kernel
theorem dX8_both_67 : decode cX8_both 67 = .ok (.invokestatic 214, 3) := by decide +kernel
theorem dX8_both_70 : decode cX8_both 70 = .ok (.lreturn, 1) := by decide +kernel
theorem dX8_brings_0 : decode cX8_brings 0 = .ok (.iload_n 1, 1) := by decide +kernel
theorem dX8_brings_1 : decode cX8_brings 1 = .ok (.invokestatic 91, 3) := by decide +kernel
theorem dX8_brings_4 : decode cX8_brings 4 = .ok (.ifCond .eq 10, 3) := by decide +kernel
theorem dX8_brings_7 : decode cX8_brings 7 = .ok (.iload_n 2, 1) := by decide +kernel
theorem dX8_brings_8 : decode cX8_brings 8 = .ok (.invokestatic 193, 3) := by decide +kernel
theorem dX8_brings_11 : decode cX8_brings 11 = .ok (.ifCond .ne 9, 3) := by decide +kernel
theorem dX8_brings_14 : decode cX8_brings 14 = .ok (.bipush (-2), 2) := by decide +kernel
theorem dX8_brings_16 : decode cX8_brings 16 = .ok (.invokestatic 196, 3) := by decide +kernel
theorem dX8_brings_19 : decode cX8_brings 19 = .ok (.lreturn, 1) := by decide +kernel
theorem dX8_brings_20 : decode cX8_brings 20 = .ok (.aload_n 0, 1) := by decide +kernel
theorem dX8_brings_21 : decode cX8_brings 21 = .ok (.invokevirtual 230, 3) := by decide +kernel
theorem dX8_brings_24 : decode cX8_brings 24 = .ok (.aload_n 0, 1) := by decide +kernel
theorem dX8_brings_25 : decode cX8_brings 25 = .ok (.getfield 58, 3) := by decide +kernel
theorem dX8_brings_28 : decode cX8_brings 28 = .ok (.aload_n 0, 1) := by decide +kernel
theorem dX8_brings_29 : decode cX8_brings 29 = .ok (.getfield 85, 3) := by decide +kernel
theorem dX8_brings_32 : decode cX8_brings 32 = .ok (.iconst (-1), 1) := by decide +kernel
theorem dX8_brings_33 : decode cX8_brings 33 = .ok (.invokevirtual 298, 3) := by decide +kernel
theorem dX8_brings_36 : decode cX8_brings 36 = .ok (.lstore_n 3, 1) := by decide +kernel
theorem dX8_brings_37 : decode cX8_brings 37 = .ok (.lload_n 3, 1) := by decide +kernel
theorem dX8_brings_38 : decode cX8_brings 38 = .ok (.aload_n 0, 1) := by decide +kernel
theorem dX8_brings_39 : decode cX8_brings 39 = .ok (.getfield 58, 3) := by decide +kernel
theorem dX8_brings_42 : decode cX8_brings 42 = .ok (.aload_n 0, 1) := by decide +kernel
theorem dX8_brings_43 : decode cX8_brings 43 = .ok (.getfield 85, 3) := by decide +kernel
theorem dX8_brings_46 : decode cX8_brings 46 = .ok (.iload_n 1, 1) := by decide +kernel
theorem dX8_brings_47 : decode cX8_brings 47 = .ok (.invokevirtual 298, 3) := by decide +kernel
theorem dX8_brings_50 : decode cX8_brings 50 = .ok (.lsub, 1) := by decide +kernel
theorem dX8_brings_51 : decode cX8_brings 51 = .ok (.ldc2_w 212, 3) := by decide +kernel
theorem dX8_brings_54 : decode cX8_brings 54 = .ok (.iload_n 2, 1) := by decide +kernel
theorem dX8_brings_55 : decode cX8_brings 55 = .ok (.invokestatic 214, 3) := by decide +kernel
theorem dX8_brings_58 : decode cX8_brings 58 = .ok (.lreturn, 1) := by decide +kernel
theorem dX8_isLevel_0 : decode cX8_isLevel 0 = .ok (.iload_n 0, 1) := by decide +kernel
theorem dX8_isLevel_1 : decode cX8_isLevel 1 = .ok (.iconst 0, 1) := by decide +kernel
theorem dX8_isLevel_2 : decode cX8_isLevel 2 = .ok (.iconst 2, 1) := by decide +kernel
theorem dX8_isLevel_3 : decode cX8_isLevel 3 = .ok (.invokestatic 95, 3) := by decide +kernel
theorem dX8_isLevel_6 : decode cX8_isLevel 6 = .ok (.ireturn, 1) := by decide +kernel
theorem dX8_chance_0 : decode cX8_chance 0 = .ok (.iload_n 1, 1) := by decide +kernel
theorem dX8_chance_1 : decode cX8_chance 1 = .ok (.invokestatic 139, 3) := by decide +kernel
theorem dX8_chance_4 : decode cX8_chance 4 = .ok (.ifCond .eq 17, 3) := by decide +kernel
theorem dX8_chance_7 : decode cX8_chance 7 = .ok (.iload_n 2, 1) := by decide +kernel
theorem dX8_chance_8 : decode cX8_chance 8 = .ok (.invokestatic 91, 3) := by decide +kernel
theorem dX8_chance_11 : decode cX8_chance 11 = .ok (.ifCond .eq 10, 3) := by decide +kernel
theorem dX8_chance_14 : decode cX8_chance 14 = .ok (.iload_n 3, 1) := by decide +kernel
theorem dX8_chance_15 : decode cX8_chance 15 = .ok (.invokestatic 165, 3) := by decide +kernel
theorem dX8_chance_18 : decode cX8_chance 18 = .ok (.ifCond .ne 6, 3) := by decide +kernel
theorem dX8_chance_21 : decode cX8_chance 21 = .ok (.bipush (-2), 2) := by decide +kernel
theorem dX8_chance_23 : decode cX8_chance 23 = .ok (.ireturn, 1) := by decide +kernel
theorem dX8_chance_24 : decode cX8_chance 24 = .ok (.aload_n 0, 1) := by decide +kernel
theorem dX8_chance_25 : decode cX8_chance 25 = .ok (.getfield 26, 3) := by decide +kernel
theorem dX8_chance_28 : decode cX8_chance 28 = .ok (.iload_n 1, 1) := by decide +kernel
theorem dX8_chance_29 : decode cX8_chance 29 = .ok (.iload_n 2, 1) := by decide +kernel
theorem dX8_chance_30 : decode cX8_chance 30 = .ok (.iload_n 3, 1) := by decide +kernel
theorem dX8_chance_31 : decode cX8_chance 31 = .ok (.invokevirtual 168, 3) := by decide +kernel
theorem dX8_chance_34 : decode cX8_chance 34 = .ok (.ireturn, 1) := by decide +kernel
theorem dX8_isSheet_0 : decode cX8_isSheet 0 = .ok (.iload_n 0, 1) := by decide +kernel
theorem dX8_isSheet_1 : decode cX8_isSheet 1 = .ok (.iconst 0, 1) := by decide +kernel
theorem dX8_isSheet_2 : decode cX8_isSheet 2 = .ok (.iconst 3, 1) := by decide +kernel
theorem dX8_isSheet_3 : decode cX8_isSheet 3 = .ok (.invokestatic 95, 3) := by decide +kernel
theorem dX8_isSheet_6 : decode cX8_isSheet 6 = .ok (.ireturn, 1) := by decide +kernel
theorem dX8_copy_0 : decode cX8_copy 0 = .ok (.iload_n 1, 1) := by decide +kernel
theorem dX8_copy_1 : decode cX8_copy 1 = .ok (.invokestatic 136, 3) := by decide +kernel
theorem dX8_copy_4 : decode cX8_copy 4 = .ok (.ifCond .eq 10, 3) := by decide +kernel
theorem dX8_copy_7 : decode cX8_copy 7 = .ok (.iload_n 3, 1) := by decide +kernel
theorem dX8_copy_8 : decode cX8_copy 8 = .ok (.invokestatic 136, 3) := by decide +kernel
theorem dX8_copy_11 : decode cX8_copy 11 = .ok (.ifCond .ne 6, 3) := by decide +kernel
theorem dX8_copy_14 : decode cX8_copy 14 = .ok (.bipush (-2), 2) := by decide +kernel
theorem dX8_copy_16 : decode cX8_copy 16 = .ok (.ireturn, 1) := by decide +kernel
theorem dX8_copy_17 : decode cX8_copy 17 = .ok (.aload_n 0, 1) := by decide +kernel
theorem dX8_copy_18 : decode cX8_copy 18 = .ok (.getfield 40, 3) := by decide +kernel
theorem dX8_copy_21 : decode cX8_copy 21 = .ok (.iload_n 1, 1) := by decide +kernel
theorem dX8_copy_22 : decode cX8_copy 22 = .ok (.invokevirtual 142, 3) := by decide +kernel
theorem dX8_copy_25 : decode cX8_copy 25 = .ok (.ifCond .ne 14, 3) := by decide +kernel
theorem dX8_copy_28 : decode cX8_copy 28 = .ok (.aload_n 0, 1) := by decide +kernel
theorem dX8_copy_29 : decode cX8_copy 29 = .ok (.getfield 40, 3) := by decide +kernel
theorem dX8_copy_32 : decode cX8_copy 32 = .ok (.iload_n 3, 1) := by decide +kernel
theorem dX8_copy_33 : decode cX8_copy 33 = .ok (.invokevirtual 142, 3) := by decide +kernel
theorem dX8_copy_36 : decode cX8_copy 36 = .ok (.ifCond .eq 12, 3) := by decide +kernel
theorem dX8_copy_39 : decode cX8_copy 39 = .ok (.aload_n 0, 1) := by decide +kernel
theorem dX8_copy_40 : decode cX8_copy 40 = .ok (.getfield 40, 3) := by decide +kernel
theorem dX8_copy_43 : decode cX8_copy 43 = .ok (.iconst 1, 1) := by decide +kernel
theorem dX8_copy_44 : decode cX8_copy 44 = .ok (.invokevirtual 145, 3) := by decide +kernel
theorem dX8_copy_47 : decode cX8_copy 47 = .ok (.ireturn, 1) := by decide +kernel
theorem dX8_copy_48 : decode cX8_copy 48 = .ok (.aload_n 0, 1) := by decide +kernel
theorem dX8_copy_49 : decode cX8_copy 49 = .ok (.getfield 40, 3) := by decide +kernel
theorem dX8_copy_52 : decode cX8_copy 52 = .ok (.getfield 317, 3) := by decide +kernel
theorem dX8_copy_55 : decode cX8_copy 55 = .ok (.iload_n 1, 1) := by decide +kernel
theorem dX8_copy_56 : decode cX8_copy 56 = .ok (.iaload, 1) := by decide +kernel
theorem dX8_copy_57 : decode cX8_copy 57 = .ok (.aload_n 0, 1) := by decide +kernel
theorem dX8_copy_58 : decode cX8_copy 58 = .ok (.getfield 40, 3) := by decide +kernel
theorem dX8_copy_61 : decode cX8_copy 61 = .ok (.getfield 317, 3) := by decide +kernel
theorem dX8_copy_64 : decode cX8_copy 64 = .ok (.iload_n 3, 1) := by decide +kernel
theorem dX8_copy_65 : decode cX8_copy 65 = .ok (.iaload, 1) := by decide +kernel
theorem dX8_copy_66 : decode cX8_copy 66 = .ok (.if_icmp .eq 12, 3) := by decide +kernel
theorem dX8_copy_69 : decode cX8_copy 69 = .ok (.aload_n 0, 1) := by decide +kernel
theorem dX8_copy_70 : decode cX8_copy 70 = .ok (.getfield 40, 3) := by decide +kernel
theorem dX8_copy_73 : decode cX8_copy 73 = .ok (.iconst 4, 1) := by decide +kernel
theorem dX8_copy_74 : decode cX8_copy 74 = .ok (.invokevirtual 145, 3) := by decide +kernel
theorem dX8_copy_77 : decode cX8_copy 77 = .ok (.ireturn, 1) := by decide +kernel
theorem dX8_copy_78 : decode cX8_copy 78 = .ok (.aload_n 0, 1) := by decide +kernel
theorem dX8_copy_79 : decode cX8_copy 79 = .ok (.getfield 40, 3) := by decide +kernel
theorem dX8_copy_82 : decode cX8_copy 82 = .ok (.iload_n 1, 1) := by decide +kernel
theorem dX8_copy_83 : decode cX8_copy 83 = .ok (.iload_n 2, 1) := by decide +kernel
theorem dX8_copy_84 : decode cX8_copy 84 = .ok (.iload 5, 2) := by decide +kernel
theorem dX8_copy_86 : decode cX8_copy 86 = .ok (.invokevirtual 320, 3) := by decide +kernel
theorem dX8_copy_89 : decode cX8_copy 89 = .ok (.ifCond .eq 18, 3) := by decide +kernel
theorem dX8_copy_92 : decode cX8_copy 92 = .ok (.aload_n 0, 1) := by decide +kernel
theorem dX8_copy_93 : decode cX8_copy 93 = .ok (.getfield 40, 3) := by decide +kernel
theorem dX8_copy_96 : decode cX8_copy 96 = .ok (.iload_n 3, 1) := by decide +kernel
theorem dX8_copy_97 : decode cX8_copy 97 = .ok (.iload 4, 2) := by decide +kernel
theorem dX8_copy_99 : decode cX8_copy 99 = .ok (.iload 5, 2) := by decide +kernel
theorem dX8_copy_101 : decode cX8_copy 101 = .ok (.invokevirtual 320, 3) := by decide +kernel
theorem dX8_copy_104 : decode cX8_copy 104 = .ok (.ifCond .ne 12, 3) := by decide +kernel
theorem dX8_copy_107 : decode cX8_copy 107 = .ok (.aload_n 0, 1) := by decide +kernel
theorem dX8_copy_108 : decode cX8_copy 108 = .ok (.getfield 40, 3) := by decide +kernel
theorem dX8_copy_111 : decode cX8_copy 111 = .ok (.iconst 2, 1) := by decide +kernel
theorem dX8_copy_112 : decode cX8_copy 112 = .ok (.invokevirtual 145, 3) := by decide +kernel
theorem dX8_copy_115 : decode cX8_copy 115 = .ok (.ireturn, 1) := by decide +kernel
theorem dX8_copy_116 : decode cX8_copy 116 = .ok (.aload_n 0, 1) := by decide +kernel
theorem dX8_copy_117 : decode cX8_copy 117 = .ok (.getfield 40, 3) := by decide +kernel
theorem dX8_copy_120 : decode cX8_copy 120 = .ok (.getfield 158, 3) := by decide +kernel
theorem dX8_copy_123 : decode cX8_copy 123 = .ok (.iload_n 1, 1) := by decide +kernel
theorem dX8_copy_124 : decode cX8_copy 124 = .ok (.aaload, 1) := by decide +kernel
theorem dX8_copy_125 : decode cX8_copy 125 = .ok (.iload_n 2, 1) := by decide +kernel
theorem dX8_copy_126 : decode cX8_copy 126 = .ok (.aload_n 0, 1) := by decide +kernel
theorem dX8_copy_127 : decode cX8_copy 127 = .ok (.getfield 40, 3) := by decide +kernel
theorem dX8_copy_130 : decode cX8_copy 130 = .ok (.getfield 158, 3) := by decide +kernel
theorem dX8_copy_133 : decode cX8_copy 133 = .ok (.iload_n 3, 1) := by decide +kernel
theorem dX8_copy_134 : decode cX8_copy 134 = .ok (.aaload, 1) := by decide +kernel
theorem dX8_copy_135 : decode cX8_copy 135 = .ok (.iload 4, 2) := by decide +kernel
theorem dX8_copy_137 : decode cX8_copy 137 = .ok (.iload 5, 2) := by decide +kernel
theorem dX8_copy_139 : decode cX8_copy 139 = .ok (.invokestatic 323, 3) := by decide +kernel
theorem dX8_copy_142 : decode cX8_copy 142 = .ok (.iconst 1, 1) := by decide +kernel
theorem dX8_copy_143 : decode cX8_copy 143 = .ok (.ireturn, 1) := by decide +kernel
theorem dX8_count_0 : decode cX8_count 0 = .ok (.iload_n 1, 1) := by decide +kernel
theorem dX8_count_1 : decode cX8_count 1 = .ok (.tableswitch 115 0 8 #[51, 56, 68, 76, 84, 92, 97, 102, 107], 51) := by decide +kernel
theorem dX8_count_52 : decode cX8_count 52 = .ok (.aload_n 0, 1) := by decide +kernel
theorem dX8_count_53 : decode cX8_count 53 = .ok (.getfield 78, 3) := by decide +kernel
theorem dX8_count_56 : decode cX8_count 56 = .ok (.ireturn, 1) := by decide +kernel
theorem dX8_count_57 : decode cX8_count 57 = .ok (.aload_n 0, 1) := by decide +kernel
theorem dX8_count_58 : decode cX8_count 58 = .ok (.getfield 12, 3) := by decide +kernel
theorem dX8_count_61 : decode cX8_count 61 = .ok (.aload_n 0, 1) := by decide +kernel
theorem dX8_count_62 : decode cX8_count 62 = .ok (.getfield 66, 3) := by decide +kernel
theorem dX8_count_65 : decode cX8_count 65 = .ok (.invokevirtual 179, 3) := by decide +kernel
theorem dX8_count_68 : decode cX8_count 68 = .ok (.ireturn, 1) := by decide +kernel
theorem dX8_count_69 : decode cX8_count 69 = .ok (.aload_n 0, 1) := by decide +kernel
theorem dX8_count_70 : decode cX8_count 70 = .ok (.getfield 19, 3) := by decide +kernel
theorem dX8_count_73 : decode cX8_count 73 = .ok (.invokevirtual 329, 3) := by decide +kernel
theorem dX8_count_76 : decode cX8_count 76 = .ok (.ireturn, 1) := by decide +kernel
theorem dX8_count_77 : decode cX8_count 77 = .ok (.aload_n 0, 1) := by decide +kernel
theorem dX8_count_78 : decode cX8_count 78 = .ok (.getfield 26, 3) := by decide +kernel
theorem dX8_count_81 : decode cX8_count 81 = .ok (.invokevirtual 332, 3) := by decide +kernel
theorem dX8_count_84 : decode cX8_count 84 = .ok (.ireturn, 1) := by decide +kernel
theorem dX8_count_85 : decode cX8_count 85 = .ok (.aload_n 0, 1) := by decide +kernel
theorem dX8_count_86 : decode cX8_count 86 = .ok (.getfield 33, 3) := by decide +kernel
theorem dX8_count_89 : decode cX8_count 89 = .ok (.getfield 125, 3) := by decide +kernel
theorem dX8_count_92 : decode cX8_count 92 = .ok (.ireturn, 1) := by decide +kernel
theorem dX8_count_93 : decode cX8_count 93 = .ok (.aload_n 0, 1) := by decide +kernel
theorem dX8_count_94 : decode cX8_count 94 = .ok (.getfield 82, 3) := by decide +kernel
theorem dX8_count_97 : decode cX8_count 97 = .ok (.ireturn, 1) := by decide +kernel
theorem dX8_count_98 : decode cX8_count 98 = .ok (.aload_n 0, 1) := by decide +kernel
theorem dX8_count_99 : decode cX8_count 99 = .ok (.getfield 85, 3) := by decide +kernel
theorem dX8_count_102 : decode cX8_count 102 = .ok (.ireturn, 1) := by decide +kernel
theorem dX8_count_103 : decode cX8_count 103 = .ok (.aload_n 0, 1) := by decide +kernel
theorem dX8_count_104 : decode cX8_count 104 = .ok (.getfield 88, 3) := by decide +kernel
theorem dX8_count_107 : decode cX8_count 107 = .ok (.ireturn, 1) := by decide +kernel
theorem dX8_count_108 : decode cX8_count 108 = .ok (.aload_n 0, 1) := by decide +kernel
theorem dX8_count_109 : decode cX8_count 109 = .ok (.getfield 40, 3) := by decide +kernel
theorem dX8_count_112 : decode cX8_count 112 = .ok (.getfield 335, 3) := by decide +kernel
theorem dX8_count_115 : decode cX8_count 115 = .ok (.ireturn, 1) := by decide +kernel
theorem dX8_count_116 : decode cX8_count 116 = .ok (.bipush (-2), 2) := by decide +kernel
theorem dX8_count_118 : decode cX8_count 118 = .ok (.ireturn, 1) := by decide +kernel
theorem dX8_fault_0 : decode cX8_fault 0 = .ok (.aload_n 0, 1) := by decide +kernel
theorem dX8_fault_1 : decode cX8_fault 1 = .ok (.getfield 33, 3) := by decide +kernel
theorem dX8_fault_4 : decode cX8_fault 4 = .ok (.invokevirtual 128, 3) := by decide +kernel
theorem dX8_fault_7 : decode cX8_fault 7 = .ok (.ireturn, 1) := by decide +kernel
theorem dX8_hours_0 : decode cX8_hours 0 = .ok (.aload_n 0, 1) := by decide +kernel
theorem dX8_hours_1 : decode cX8_hours 1 = .ok (.getfield 19, 3) := by decide +kernel
theorem dX8_hours_4 : decode cX8_hours 4 = .ok (.aload_n 0, 1) := by decide +kernel
theorem dX8_hours_5 : decode cX8_hours 5 = .ok (.getfield 62, 3) := by decide +kernel
theorem dX8_hours_8 : decode cX8_hours 8 = .ok (.aload_n 0, 1) := by decide +kernel
theorem dX8_hours_9 : decode cX8_hours 9 = .ok (.getfield 78, 3) := by decide +kernel
theorem dX8_hours_12 : decode cX8_hours 12 = .ok (.invokevirtual 186, 3) := by decide +kernel
theorem dX8_hours_15 : decode cX8_hours 15 = .ok (.ireturn, 1) := by decide +kernel
theorem dX8_judged_0 : decode cX8_judged 0 = .ok (.aload_n 0, 1) := by decide +kernel
theorem dX8_judged_1 : decode cX8_judged 1 = .ok (.getfield 12, 3) := by decide +kernel
theorem dX8_judged_4 : decode cX8_judged 4 = .ok (.aload_n 0, 1) := by decide +kernel
theorem dX8_judged_5 : decode cX8_judged 5 = .ok (.getfield 66, 3) := by decide +kernel
theorem dX8_judged_8 : decode cX8_judged 8 = .ok (.invokevirtual 179, 3) := by decide +kernel
theorem dX8_judged_11 : decode cX8_judged 11 = .ok (.aload_n 0, 1) := by decide +kernel
theorem dX8_judged_12 : decode cX8_judged 12 = .ok (.getfield 85, 3) := by decide +kernel
theorem dX8_judged_15 : decode cX8_judged 15 = .ok (.if_icmp .le 5, 3) := by decide +kernel
theorem dX8_judged_18 : decode cX8_judged 18 = .ok (.iconst 1, 1) := by decide +kernel
theorem dX8_judged_19 : decode cX8_judged 19 = .ok (.ireturn, 1) := by decide +kernel
theorem dX8_judged_20 : decode cX8_judged 20 = .ok (.aload_n 0, 1) := by decide +kernel
theorem dX8_judged_21 : decode cX8_judged 21 = .ok (.invokevirtual 183, 3) := by decide +kernel
theorem dX8_judged_24 : decode cX8_judged 24 = .ok (.aload_n 0, 1) := by decide +kernel
theorem dX8_judged_25 : decode cX8_judged 25 = .ok (.getfield 82, 3) := by decide +kernel
theorem dX8_judged_28 : decode cX8_judged 28 = .ok (.if_icmp .le 7, 3) := by decide +kernel
theorem dX8_judged_31 : decode cX8_judged 31 = .ok (.iconst 2, 1) := by decide +kernel
theorem dX8_judged_32 : decode cX8_judged 32 = .ok (.goto 4, 3) := by decide +kernel
theorem dX8_judged_35 : decode cX8_judged 35 = .ok (.iconst 0, 1) := by decide +kernel
theorem dX8_judged_36 : decode cX8_judged 36 = .ok (.ireturn, 1) := by decide +kernel
theorem dX8_loadTerm_0 : decode cX8_loadTerm 0 = .ok (.iload_n 1, 1) := by decide +kernel
theorem dX8_loadTerm_1 : decode cX8_loadTerm 1 = .ok (.ifCond .ne 23, 3) := by decide +kernel
theorem dX8_loadTerm_4 : decode cX8_loadTerm 4 = .ok (.aload_n 0, 1) := by decide +kernel
theorem dX8_loadTerm_5 : decode cX8_loadTerm 5 = .ok (.getfield 58, 3) := by decide +kernel
theorem dX8_loadTerm_8 : decode cX8_loadTerm 8 = .ok (.aload_n 0, 1) := by decide +kernel
theorem dX8_loadTerm_9 : decode cX8_loadTerm 9 = .ok (.getfield 85, 3) := by decide +kernel
theorem dX8_loadTerm_12 : decode cX8_loadTerm 12 = .ok (.iconst (-1), 1) := by decide +kernel
theorem dX8_loadTerm_13 : decode cX8_loadTerm 13 = .ok (.invokevirtual 298, 3) := by decide +kernel
theorem dX8_loadTerm_16 : decode cX8_loadTerm 16 = .ok (.ldc2_w 212, 3) := by decide +kernel
theorem dX8_loadTerm_19 : decode cX8_loadTerm 19 = .ok (.iload_n 2, 1) := by decide +kernel
theorem dX8_loadTerm_20 : decode cX8_loadTerm 20 = .ok (.invokestatic 214, 3) := by decide +kernel
theorem dX8_loadTerm_23 : decode cX8_loadTerm 23 = .ok (.lreturn, 1) := by decide +kernel
theorem dX8_loadTerm_24 : decode cX8_loadTerm 24 = .ok (.iload_n 1, 1) := by decide +kernel
theorem dX8_loadTerm_25 : decode cX8_loadTerm 25 = .ok (.iconst 1, 1) := by decide +kernel
theorem dX8_loadTerm_26 : decode cX8_loadTerm 26 = .ok (.if_icmp .ne 36, 3) := by decide +kernel
theorem dX8_loadTerm_29 : decode cX8_loadTerm 29 = .ok (.aload_n 0, 1) := by decide +kernel
theorem dX8_loadTerm_30 : decode cX8_loadTerm 30 = .ok (.getfield 58, 3) := by decide +kernel
theorem dX8_loadTerm_33 : decode cX8_loadTerm 33 = .ok (.aload_n 0, 1) := by decide +kernel
theorem dX8_loadTerm_34 : decode cX8_loadTerm 34 = .ok (.getfield 85, 3) := by decide +kernel
theorem dX8_loadTerm_37 : decode cX8_loadTerm 37 = .ok (.invokevirtual 251, 3) := by decide +kernel
theorem dX8_loadTerm_40 : decode cX8_loadTerm 40 = .ok (.aload_n 0, 1) := by decide +kernel
theorem dX8_loadTerm_41 : decode cX8_loadTerm 41 = .ok (.getfield 58, 3) := by decide +kernel
theorem dX8_loadTerm_44 : decode cX8_loadTerm 44 = .ok (.aload_n 0, 1) := by decide +kernel
theorem dX8_loadTerm_45 : decode cX8_loadTerm 45 = .ok (.getfield 58, 3) := by decide +kernel
theorem dX8_loadTerm_48 : decode cX8_loadTerm 48 = .ok (.getfield 254, 3) := by decide +kernel
theorem dX8_loadTerm_51 : decode cX8_loadTerm 51 = .ok (.invokevirtual 233, 3) := by decide +kernel
theorem dX8_loadTerm_54 : decode cX8_loadTerm 54 = .ok (.ldc2_w 212, 3) := by decide +kernel
theorem dX8_loadTerm_57 : decode cX8_loadTerm 57 = .ok (.iload_n 2, 1) := by decide +kernel
theorem dX8_loadTerm_58 : decode cX8_loadTerm 58 = .ok (.invokestatic 214, 3) := by decide +kernel
theorem dX8_loadTerm_61 : decode cX8_loadTerm 61 = .ok (.lreturn, 1) := by decide +kernel
theorem dX8_loadTerm_62 : decode cX8_loadTerm 62 = .ok (.aload_n 0, 1) := by decide +kernel
theorem dX8_loadTerm_63 : decode cX8_loadTerm 63 = .ok (.getfield 58, 3) := by decide +kernel
theorem dX8_loadTerm_66 : decode cX8_loadTerm 66 = .ok (.aload_n 0, 1) := by decide +kernel
theorem dX8_loadTerm_67 : decode cX8_loadTerm 67 = .ok (.getfield 85, 3) := by decide +kernel
theorem dX8_loadTerm_70 : decode cX8_loadTerm 70 = .ok (.invokevirtual 370, 3) := by decide +kernel
theorem dX8_loadTerm_73 : decode cX8_loadTerm 73 = .ok (.aload_n 0, 1) := by decide +kernel
theorem dX8_loadTerm_74 : decode cX8_loadTerm 74 = .ok (.getfield 58, 3) := by decide +kernel
theorem dX8_loadTerm_77 : decode cX8_loadTerm 77 = .ok (.getfield 373, 3) := by decide +kernel
theorem dX8_loadTerm_80 : decode cX8_loadTerm 80 = .ok (.aload_n 0, 1) := by decide +kernel
theorem dX8_loadTerm_81 : decode cX8_loadTerm 81 = .ok (.getfield 58, 3) := by decide +kernel
theorem dX8_loadTerm_84 : decode cX8_loadTerm 84 = .ok (.getfield 376, 3) := by decide +kernel
theorem dX8_loadTerm_87 : decode cX8_loadTerm 87 = .ok (.iload_n 2, 1) := by decide +kernel
theorem dX8_loadTerm_88 : decode cX8_loadTerm 88 = .ok (.invokestatic 214, 3) := by decide +kernel
theorem dX8_loadTerm_91 : decode cX8_loadTerm 91 = .ok (.lreturn, 1) := by decide +kernel
theorem dX8_digest_0 : decode cX8_digest 0 = .ok (.aload_n 0, 1) := by decide +kernel
theorem dX8_digest_1 : decode cX8_digest 1 = .ok (.invokevirtual 230, 3) := by decide +kernel
theorem dX8_digest_4 : decode cX8_digest 4 = .ok (.aload_n 0, 1) := by decide +kernel
theorem dX8_digest_5 : decode cX8_digest 5 = .ok (.getfield 58, 3) := by decide +kernel
theorem dX8_digest_8 : decode cX8_digest 8 = .ok (.aload_n 0, 1) := by decide +kernel
theorem dX8_digest_9 : decode cX8_digest 9 = .ok (.getfield 85, 3) := by decide +kernel
theorem dX8_digest_12 : decode cX8_digest 12 = .ok (.invokevirtual 237, 3) := by decide +kernel
theorem dX8_digest_15 : decode cX8_digest 15 = .ok (.aload_n 0, 1) := by decide +kernel
theorem dX8_digest_16 : decode cX8_digest 16 = .ok (.getfield 58, 3) := by decide +kernel
theorem dX8_digest_19 : decode cX8_digest 19 = .ok (.aload_n 0, 1) := by decide +kernel
theorem dX8_digest_20 : decode cX8_digest 20 = .ok (.getfield 85, 3) := by decide +kernel
theorem dX8_digest_23 : decode cX8_digest 23 = .ok (.invokevirtual 251, 3) := by decide +kernel
theorem dX8_digest_26 : decode cX8_digest 26 = .ok (.ldc2_w 338, 3) := by decide +kernel
theorem dX8_digest_29 : decode cX8_digest 29 = .ok (.lstore_n 1, 1) := by decide +kernel
theorem dX8_digest_30 : decode cX8_digest 30 = .ok (.iconst 0, 1) := by decide +kernel
theorem dX8_digest_31 : decode cX8_digest 31 = .ok (.istore_n 3, 1) := by decide +kernel
theorem dX8_digest_32 : decode cX8_digest 32 = .ok (.iload_n 3, 1) := by decide +kernel
theorem dX8_digest_33 : decode cX8_digest 33 = .ok (.bipush 8, 2) := by decide +kernel
theorem dX8_digest_35 : decode cX8_digest 35 = .ok (.if_icmp .ge 22, 3) := by decide +kernel
theorem dX8_digest_38 : decode cX8_digest 38 = .ok (.ldc2_w 340, 3) := by decide +kernel
theorem dX8_digest_41 : decode cX8_digest 41 = .ok (.lload_n 1, 1) := by decide +kernel
theorem dX8_digest_42 : decode cX8_digest 42 = .ok (.lmul, 1) := by decide +kernel
theorem dX8_digest_43 : decode cX8_digest 43 = .ok (.aload_n 0, 1) := by decide +kernel
theorem dX8_digest_44 : decode cX8_digest 44 = .ok (.iload_n 3, 1) := by decide +kernel
theorem dX8_digest_45 : decode cX8_digest 45 = .ok (.invokevirtual 342, 3) := by decide +kernel
theorem dX8_digest_48 : decode cX8_digest 48 = .ok (.i2l, 1) := by decide +kernel
theorem dX8_digest_49 : decode cX8_digest 49 = .ok (.ladd, 1) := by decide +kernel
theorem dX8_digest_50 : decode cX8_digest 50 = .ok (.lstore_n 1, 1) := by decide +kernel
theorem dX8_digest_51 : decode cX8_digest 51 = .ok (.iinc 3 1, 3) := by decide +kernel
theorem dX8_digest_54 : decode cX8_digest 54 = .ok (.goto (-22), 3) := by decide +kernel
theorem dX8_digest_57 : decode cX8_digest 57 = .ok (.ldc2_w 340, 3) := by decide +kernel
theorem dX8_digest_60 : decode cX8_digest 60 = .ok (.lload_n 1, 1) := by decide +kernel
theorem dX8_digest_61 : decode cX8_digest 61 = .ok (.lmul, 1) := by decide +kernel
theorem dX8_digest_62 : decode cX8_digest 62 = .ok (.aload_n 0, 1) := by decide +kernel
theorem dX8_digest_63 : decode cX8_digest 63 = .ok (.invokevirtual 345, 3) := by decide +kernel
theorem dX8_digest_66 : decode cX8_digest 66 = .ok (.i2l, 1) := by decide +kernel
theorem dX8_digest_67 : decode cX8_digest 67 = .ok (.ladd, 1) := by decide +kernel
theorem dX8_digest_68 : decode cX8_digest 68 = .ok (.lstore_n 1, 1) := by decide +kernel
theorem dX8_digest_69 : decode cX8_digest 69 = .ok (.iconst 0, 1) := by decide +kernel
theorem dX8_digest_70 : decode cX8_digest 70 = .ok (.istore_n 3, 1) := by decide +kernel
theorem dX8_digest_71 : decode cX8_digest 71 = .ok (.iload_n 3, 1) := by decide +kernel
theorem dX8_digest_72 : decode cX8_digest 72 = .ok (.bipush 6, 2) := by decide +kernel
theorem dX8_digest_74 : decode cX8_digest 74 = .ok (.if_icmp .ge 79, 3) := by decide +kernel
theorem dX8_digest_77 : decode cX8_digest 77 = .ok (.iconst 0, 1) := by decide +kernel
theorem dX8_digest_78 : decode cX8_digest 78 = .ok (.istore 4, 2) := by decide +kernel
theorem dX8_digest_80 : decode cX8_digest 80 = .ok (.iload 4, 2) := by decide +kernel
theorem dX8_digest_82 : decode cX8_digest 82 = .ok (.bipush 6, 2) := by decide +kernel
theorem dX8_digest_84 : decode cX8_digest 84 = .ok (.if_icmp .ge 29, 3) := by decide +kernel
theorem dX8_digest_87 : decode cX8_digest 87 = .ok (.ldc2_w 340, 3) := by decide +kernel
theorem dX8_digest_90 : decode cX8_digest 90 = .ok (.lload_n 1, 1) := by decide +kernel
theorem dX8_digest_91 : decode cX8_digest 91 = .ok (.lmul, 1) := by decide +kernel
theorem dX8_digest_92 : decode cX8_digest 92 = .ok (.aload_n 0, 1) := by decide +kernel
theorem dX8_digest_93 : decode cX8_digest 93 = .ok (.getfield 12, 3) := by decide +kernel
theorem dX8_digest_96 : decode cX8_digest 96 = .ok (.getfield 102, 3) := by decide +kernel
theorem dX8_digest_99 : decode cX8_digest 99 = .ok (.iload_n 3, 1) := by decide +kernel
theorem dX8_digest_100 : decode cX8_digest 100 = .ok (.aaload, 1) := by decide +kernel
theorem dX8_digest_101 : decode cX8_digest 101 = .ok (.iload 4, 2) := by decide +kernel
theorem dX8_digest_103 : decode cX8_digest 103 = .ok (.iaload, 1) := by decide +kernel
theorem dX8_digest_104 : decode cX8_digest 104 = .ok (.i2l, 1) := by decide +kernel
theorem dX8_digest_105 : decode cX8_digest 105 = .ok (.ladd, 1) := by decide +kernel
theorem dX8_digest_106 : decode cX8_digest 106 = .ok (.lstore_n 1, 1) := by decide +kernel
theorem dX8_digest_107 : decode cX8_digest 107 = .ok (.iinc 4 1, 3) := by decide +kernel
theorem dX8_digest_110 : decode cX8_digest 110 = .ok (.goto (-30), 3) := by decide +kernel
theorem dX8_digest_113 : decode cX8_digest 113 = .ok (.ldc2_w 340, 3) := by decide +kernel
theorem dX8_digest_116 : decode cX8_digest 116 = .ok (.lload_n 1, 1) := by decide +kernel
theorem dX8_digest_117 : decode cX8_digest 117 = .ok (.lmul, 1) := by decide +kernel
theorem dX8_digest_118 : decode cX8_digest 118 = .ok (.aload_n 0, 1) := by decide +kernel
theorem dX8_digest_119 : decode cX8_digest 119 = .ok (.getfield 58, 3) := by decide +kernel
theorem dX8_digest_122 : decode cX8_digest 122 = .ok (.getfield 241, 3) := by decide +kernel
theorem dX8_digest_125 : decode cX8_digest 125 = .ok (.iload_n 3, 1) := by decide +kernel
theorem dX8_digest_126 : decode cX8_digest 126 = .ok (.iaload, 1) := by decide +kernel
theorem dX8_digest_127 : decode cX8_digest 127 = .ok (.i2l, 1) := by decide +kernel
theorem dX8_digest_128 : decode cX8_digest 128 = .ok (.ladd, 1) := by decide +kernel
theorem dX8_digest_129 : decode cX8_digest 129 = .ok (.lstore_n 1, 1) := by decide +kernel
theorem dX8_digest_130 : decode cX8_digest 130 = .ok (.ldc2_w 340, 3) := by decide +kernel
theorem dX8_digest_133 : decode cX8_digest 133 = .ok (.lload_n 1, 1) := by decide +kernel
theorem dX8_digest_134 : decode cX8_digest 134 = .ok (.lmul, 1) := by decide +kernel
theorem dX8_digest_135 : decode cX8_digest 135 = .ok (.aload_n 0, 1) := by decide +kernel
theorem dX8_digest_136 : decode cX8_digest 136 = .ok (.getfield 58, 3) := by decide +kernel
theorem dX8_digest_139 : decode cX8_digest 139 = .ok (.getfield 254, 3) := by decide +kernel
theorem dX8_digest_142 : decode cX8_digest 142 = .ok (.iload_n 3, 1) := by decide +kernel
theorem dX8_digest_143 : decode cX8_digest 143 = .ok (.iaload, 1) := by decide +kernel
theorem dX8_digest_144 : decode cX8_digest 144 = .ok (.i2l, 1) := by decide +kernel
theorem dX8_digest_145 : decode cX8_digest 145 = .ok (.ladd, 1) := by decide +kernel
theorem dX8_digest_146 : decode cX8_digest 146 = .ok (.lstore_n 1, 1) := by decide +kernel
theorem dX8_digest_147 : decode cX8_digest 147 = .ok (.iinc 3 1, 3) := by decide +kernel
theorem dX8_digest_150 : decode cX8_digest 150 = .ok (.goto (-79), 3) := by decide +kernel
theorem dX8_digest_153 : decode cX8_digest 153 = .ok (.ldc2_w 340, 3) := by decide +kernel
theorem dX8_digest_156 : decode cX8_digest 156 = .ok (.lload_n 1, 1) := by decide +kernel
theorem dX8_digest_157 : decode cX8_digest 157 = .ok (.lmul, 1) := by decide +kernel
theorem dX8_digest_158 : decode cX8_digest 158 = .ok (.aload_n 0, 1) := by decide +kernel
theorem dX8_digest_159 : decode cX8_digest 159 = .ok (.invokevirtual 183, 3) := by decide +kernel
theorem dX8_digest_162 : decode cX8_digest 162 = .ok (.i2l, 1) := by decide +kernel
theorem dX8_digest_163 : decode cX8_digest 163 = .ok (.ladd, 1) := by decide +kernel
theorem dX8_digest_164 : decode cX8_digest 164 = .ok (.lstore_n 1, 1) := by decide +kernel
theorem dX8_digest_165 : decode cX8_digest 165 = .ok (.ldc2_w 340, 3) := by decide +kernel
theorem dX8_digest_168 : decode cX8_digest 168 = .ok (.lload_n 1, 1) := by decide +kernel
theorem dX8_digest_169 : decode cX8_digest 169 = .ok (.lmul, 1) := by decide +kernel
theorem dX8_digest_170 : decode cX8_digest 170 = .ok (.aload_n 0, 1) := by decide +kernel
theorem dX8_digest_171 : decode cX8_digest 171 = .ok (.invokevirtual 348, 3) := by decide +kernel
theorem dX8_digest_174 : decode cX8_digest 174 = .ok (.i2l, 1) := by decide +kernel
theorem dX8_digest_175 : decode cX8_digest 175 = .ok (.ladd, 1) := by decide +kernel
theorem dX8_digest_176 : decode cX8_digest 176 = .ok (.lstore_n 1, 1) := by decide +kernel
theorem dX8_digest_177 : decode cX8_digest 177 = .ok (.ldc2_w 340, 3) := by decide +kernel
theorem dX8_digest_180 : decode cX8_digest 180 = .ok (.lload_n 1, 1) := by decide +kernel
theorem dX8_digest_181 : decode cX8_digest 181 = .ok (.lmul, 1) := by decide +kernel
theorem dX8_digest_182 : decode cX8_digest 182 = .ok (.aload_n 0, 1) := by decide +kernel
theorem dX8_digest_183 : decode cX8_digest 183 = .ok (.getfield 58, 3) := by decide +kernel
theorem dX8_digest_186 : decode cX8_digest 186 = .ok (.aload_n 0, 1) := by decide +kernel
theorem dX8_digest_187 : decode cX8_digest 187 = .ok (.getfield 66, 3) := by decide +kernel
theorem dX8_digest_190 : decode cX8_digest 190 = .ok (.invokevirtual 233, 3) := by decide +kernel
theorem dX8_digest_193 : decode cX8_digest 193 = .ok (.ldc2_w 212, 3) := by decide +kernel
theorem dX8_digest_196 : decode cX8_digest 196 = .ok (.iconst 0, 1) := by decide +kernel
theorem dX8_digest_197 : decode cX8_digest 197 = .ok (.invokestatic 214, 3) := by decide +kernel
theorem dX8_digest_200 : decode cX8_digest 200 = .ok (.ladd, 1) := by decide +kernel
theorem dX8_digest_201 : decode cX8_digest 201 = .ok (.lstore_n 1, 1) := by decide +kernel
theorem dX8_digest_202 : decode cX8_digest 202 = .ok (.ldc2_w 340, 3) := by decide +kernel
theorem dX8_digest_205 : decode cX8_digest 205 = .ok (.lload_n 1, 1) := by decide +kernel
theorem dX8_digest_206 : decode cX8_digest 206 = .ok (.lmul, 1) := by decide +kernel
theorem dX8_digest_207 : decode cX8_digest 207 = .ok (.aload_n 0, 1) := by decide +kernel
theorem dX8_digest_208 : decode cX8_digest 208 = .ok (.getfield 58, 3) := by decide +kernel
theorem dX8_digest_211 : decode cX8_digest 211 = .ok (.aload_n 0, 1) := by decide +kernel
theorem dX8_digest_212 : decode cX8_digest 212 = .ok (.getfield 66, 3) := by decide +kernel
theorem dX8_digest_215 : decode cX8_digest 215 = .ok (.invokevirtual 233, 3) := by decide +kernel
theorem dX8_digest_218 : decode cX8_digest 218 = .ok (.ldc2_w 212, 3) := by decide +kernel
theorem dX8_digest_221 : decode cX8_digest 221 = .ok (.iconst 1, 1) := by decide +kernel
theorem dX8_digest_222 : decode cX8_digest 222 = .ok (.invokestatic 214, 3) := by decide +kernel
theorem dX8_digest_225 : decode cX8_digest 225 = .ok (.ladd, 1) := by decide +kernel
theorem dX8_digest_226 : decode cX8_digest 226 = .ok (.lstore_n 1, 1) := by decide +kernel
theorem dX8_digest_227 : decode cX8_digest 227 = .ok (.iconst 0, 1) := by decide +kernel
theorem dX8_digest_228 : decode cX8_digest 228 = .ok (.istore_n 3, 1) := by decide +kernel
theorem dX8_digest_229 : decode cX8_digest 229 = .ok (.iload_n 3, 1) := by decide +kernel
theorem dX8_digest_230 : decode cX8_digest 230 = .ok (.iconst 3, 1) := by decide +kernel
theorem dX8_digest_231 : decode cX8_digest 231 = .ok (.if_icmp .ge 35, 3) := by decide +kernel
theorem dX8_digest_234 : decode cX8_digest 234 = .ok (.ldc2_w 340, 3) := by decide +kernel
theorem dX8_digest_237 : decode cX8_digest 237 = .ok (.lload_n 1, 1) := by decide +kernel
theorem dX8_digest_238 : decode cX8_digest 238 = .ok (.lmul, 1) := by decide +kernel
theorem dX8_digest_239 : decode cX8_digest 239 = .ok (.aload_n 0, 1) := by decide +kernel
theorem dX8_digest_240 : decode cX8_digest 240 = .ok (.iload_n 3, 1) := by decide +kernel
theorem dX8_digest_241 : decode cX8_digest 241 = .ok (.iconst 0, 1) := by decide +kernel
theorem dX8_digest_242 : decode cX8_digest 242 = .ok (.invokevirtual 247, 3) := by decide +kernel
theorem dX8_digest_245 : decode cX8_digest 245 = .ok (.ladd, 1) := by decide +kernel
theorem dX8_digest_246 : decode cX8_digest 246 = .ok (.lstore_n 1, 1) := by decide +kernel
theorem dX8_digest_247 : decode cX8_digest 247 = .ok (.ldc2_w 340, 3) := by decide +kernel
theorem dX8_digest_250 : decode cX8_digest 250 = .ok (.lload_n 1, 1) := by decide +kernel
theorem dX8_digest_251 : decode cX8_digest 251 = .ok (.lmul, 1) := by decide +kernel
theorem dX8_digest_252 : decode cX8_digest 252 = .ok (.aload_n 0, 1) := by decide +kernel
theorem dX8_digest_253 : decode cX8_digest 253 = .ok (.iload_n 3, 1) := by decide +kernel
theorem dX8_digest_254 : decode cX8_digest 254 = .ok (.iconst 1, 1) := by decide +kernel
theorem dX8_digest_255 : decode cX8_digest 255 = .ok (.invokevirtual 247, 3) := by decide +kernel
theorem dX8_digest_258 : decode cX8_digest 258 = .ok (.ladd, 1) := by decide +kernel
theorem dX8_digest_259 : decode cX8_digest 259 = .ok (.lstore_n 1, 1) := by decide +kernel
theorem dX8_digest_260 : decode cX8_digest 260 = .ok (.iinc 3 1, 3) := by decide +kernel
theorem dX8_digest_263 : decode cX8_digest 263 = .ok (.goto (-34), 3) := by decide +kernel
theorem dX8_digest_266 : decode cX8_digest 266 = .ok (.ldc2_w 340, 3) := by decide +kernel
theorem dX8_digest_269 : decode cX8_digest 269 = .ok (.lload_n 1, 1) := by decide +kernel
theorem dX8_digest_270 : decode cX8_digest 270 = .ok (.lmul, 1) := by decide +kernel
theorem dX8_digest_271 : decode cX8_digest 271 = .ok (.aload_n 0, 1) := by decide +kernel
theorem dX8_digest_272 : decode cX8_digest 272 = .ok (.getfield 58, 3) := by decide +kernel
theorem dX8_digest_275 : decode cX8_digest 275 = .ok (.aload_n 0, 1) := by decide +kernel
theorem dX8_digest_276 : decode cX8_digest 276 = .ok (.getfield 85, 3) := by decide +kernel
theorem dX8_digest_279 : decode cX8_digest 279 = .ok (.invokevirtual 301, 3) := by decide +kernel
theorem dX8_digest_282 : decode cX8_digest 282 = .ok (.i2l, 1) := by decide +kernel
theorem dX8_digest_283 : decode cX8_digest 283 = .ok (.ladd, 1) := by decide +kernel
theorem dX8_digest_284 : decode cX8_digest 284 = .ok (.lreturn, 1) := by decide +kernel
theorem dX8_farmOf_0 : decode cX8_farmOf 0 = .ok (.iload_n 0, 1) := by decide +kernel
theorem dX8_farmOf_1 : decode cX8_farmOf 1 = .ok (.iconst 3, 1) := by decide +kernel
theorem dX8_farmOf_2 : decode cX8_farmOf 2 = .ok (.iload_n 1, 1) := by decide +kernel
theorem dX8_farmOf_3 : decode cX8_farmOf 3 = .ok (.imul, 1) := by decide +kernel
theorem dX8_farmOf_4 : decode cX8_farmOf 4 = .ok (.ishr, 1) := by decide +kernel
theorem dX8_farmOf_5 : decode cX8_farmOf 5 = .ok (.bipush 7, 2) := by decide +kernel
theorem dX8_farmOf_7 : decode cX8_farmOf 7 = .ok (.iand, 1) := by decide +kernel
theorem dX8_farmOf_8 : decode cX8_farmOf 8 = .ok (.ireturn, 1) := by decide +kernel
theorem dX8_farmsOf_0 : decode cX8_farmsOf 0 = .ok (.iconst 0, 1) := by decide +kernel
theorem dX8_farmsOf_1 : decode cX8_farmsOf 1 = .ok (.istore_n 1, 1) := by decide +kernel
theorem dX8_farmsOf_2 : decode cX8_farmsOf 2 = .ok (.iload_n 1, 1) := by decide +kernel
theorem dX8_farmsOf_3 : decode cX8_farmsOf 3 = .ok (.iconst 5, 1) := by decide +kernel
theorem dX8_farmsOf_4 : decode cX8_farmsOf 4 = .ok (.if_icmp .ge 17, 3) := by decide +kernel
theorem dX8_farmsOf_7 : decode cX8_farmsOf 7 = .ok (.iload_n 0, 1) := by decide +kernel
theorem dX8_farmsOf_8 : decode cX8_farmsOf 8 = .ok (.iconst 3, 1) := by decide +kernel
theorem dX8_farmsOf_9 : decode cX8_farmsOf 9 = .ok (.iload_n 1, 1) := by decide +kernel
theorem dX8_farmsOf_10 : decode cX8_farmsOf 10 = .ok (.imul, 1) := by decide +kernel
theorem dX8_farmsOf_11 : decode cX8_farmsOf 11 = .ok (.ishr, 1) := by decide +kernel
theorem dX8_farmsOf_12 : decode cX8_farmsOf 12 = .ok (.ifCond .le 9, 3) := by decide +kernel
theorem dX8_farmsOf_15 : decode cX8_farmsOf 15 = .ok (.iinc 1 1, 3) := by decide +kernel
theorem dX8_farmsOf_18 : decode cX8_farmsOf 18 = .ok (.goto (-16), 3) := by decide +kernel
theorem dX8_farmsOf_21 : decode cX8_farmsOf 21 = .ok (.iload_n 1, 1) := by decide +kernel
theorem dX8_farmsOf_22 : decode cX8_farmsOf 22 = .ok (.ireturn, 1) := by decide +kernel
theorem dX8_gain_0 : decode cX8_gain 0 = .ok (.iload_n 1, 1) := by decide +kernel
theorem dX8_gain_1 : decode cX8_gain 1 = .ok (.invokestatic 193, 3) := by decide +kernel
theorem dX8_gain_4 : decode cX8_gain 4 = .ok (.ifCond .ne 9, 3) := by decide +kernel
theorem dX8_gain_7 : decode cX8_gain 7 = .ok (.bipush (-2), 2) := by decide +kernel
theorem dX8_gain_9 : decode cX8_gain 9 = .ok (.invokestatic 196, 3) := by decide +kernel
theorem dX8_gain_12 : decode cX8_gain 12 = .ok (.lreturn, 1) := by decide +kernel
theorem dX8_gain_13 : decode cX8_gain 13 = .ok (.aload_n 0, 1) := by decide +kernel
theorem dX8_gain_14 : decode cX8_gain 14 = .ok (.invokevirtual 230, 3) := by decide +kernel
theorem dX8_gain_17 : decode cX8_gain 17 = .ok (.aload_n 0, 1) := by decide +kernel
theorem dX8_gain_18 : decode cX8_gain 18 = .ok (.getfield 58, 3) := by decide +kernel
theorem dX8_gain_21 : decode cX8_gain 21 = .ok (.aload_n 0, 1) := by decide +kernel
theorem dX8_gain_22 : decode cX8_gain 22 = .ok (.getfield 66, 3) := by decide +kernel
theorem dX8_gain_25 : decode cX8_gain 25 = .ok (.invokevirtual 233, 3) := by decide +kernel
theorem dX8_gain_28 : decode cX8_gain 28 = .ok (.ldc2_w 212, 3) := by decide +kernel
theorem dX8_gain_31 : decode cX8_gain 31 = .ok (.iload_n 1, 1) := by decide +kernel
theorem dX8_gain_32 : decode cX8_gain 32 = .ok (.invokestatic 214, 3) := by decide +kernel
theorem dX8_gain_35 : decode cX8_gain 35 = .ok (.lreturn, 1) := by decide +kernel
theorem dX8_isForm_0 : decode cX8_isForm 0 = .ok (.iload_n 0, 1) := by decide +kernel
theorem dX8_isForm_1 : decode cX8_isForm 1 = .ok (.iconst 0, 1) := by decide +kernel
theorem dX8_isForm_2 : decode cX8_isForm 2 = .ok (.iconst 2, 1) := by decide +kernel
theorem dX8_isForm_3 : decode cX8_isForm 3 = .ok (.invokestatic 95, 3) := by decide +kernel
theorem dX8_isForm_6 : decode cX8_isForm 6 = .ok (.ireturn, 1) := by decide +kernel
theorem dX8_get_0 : decode cX8_get 0 = .ok (.iload_n 1, 1) := by decide +kernel
theorem dX8_get_1 : decode cX8_get 1 = .ok (.invokestatic 136, 3) := by decide +kernel
theorem dX8_get_4 : decode cX8_get 4 = .ok (.ifCond .eq 10, 3) := by decide +kernel
theorem dX8_get_7 : decode cX8_get 7 = .ok (.iload_n 2, 1) := by decide +kernel
theorem dX8_get_8 : decode cX8_get 8 = .ok (.invokestatic 304, 3) := by decide +kernel
theorem dX8_get_11 : decode cX8_get 11 = .ok (.ifCond .ne 7, 3) := by decide +kernel
theorem dX8_get_14 : decode cX8_get 14 = .ok (.ldc_w 316, 3) := by decide +kernel
theorem dX8_get_17 : decode cX8_get 17 = .ok (.ireturn, 1) := by decide +kernel
theorem dX8_get_18 : decode cX8_get 18 = .ok (.aload_n 0, 1) := by decide +kernel
theorem dX8_get_19 : decode cX8_get 19 = .ok (.getfield 40, 3) := by decide +kernel
theorem dX8_get_22 : decode cX8_get 22 = .ok (.iload_n 1, 1) := by decide +kernel
theorem dX8_get_23 : decode cX8_get 23 = .ok (.iload_n 2, 1) := by decide +kernel
theorem dX8_get_24 : decode cX8_get 24 = .ok (.iload_n 3, 1) := by decide +kernel
theorem dX8_get_25 : decode cX8_get 25 = .ok (.invokevirtual 310, 3) := by decide +kernel
theorem dX8_get_28 : decode cX8_get 28 = .ok (.istore 4, 2) := by decide +kernel
theorem dX8_get_30 : decode cX8_get 30 = .ok (.iload 4, 2) := by decide +kernel
theorem dX8_get_32 : decode cX8_get 32 = .ok (.ifCond .eq 17, 3) := by decide +kernel
theorem dX8_get_35 : decode cX8_get 35 = .ok (.aload_n 0, 1) := by decide +kernel
theorem dX8_get_36 : decode cX8_get 36 = .ok (.getfield 40, 3) := by decide +kernel
theorem dX8_get_39 : decode cX8_get 39 = .ok (.iload 4, 2) := by decide +kernel
theorem dX8_get_41 : decode cX8_get 41 = .ok (.invokevirtual 145, 3) := by decide +kernel
theorem dX8_get_44 : decode cX8_get 44 = .ok (.pop, 1) := by decide +kernel
theorem dX8_get_45 : decode cX8_get 45 = .ok (.ldc_w 316, 3) := by decide +kernel
theorem dX8_get_48 : decode cX8_get 48 = .ok (.ireturn, 1) := by decide +kernel
theorem dX8_get_49 : decode cX8_get 49 = .ok (.aload_n 0, 1) := by decide +kernel
theorem dX8_get_50 : decode cX8_get 50 = .ok (.getfield 40, 3) := by decide +kernel
theorem dX8_get_53 : decode cX8_get 53 = .ok (.getfield 158, 3) := by decide +kernel
theorem dX8_get_56 : decode cX8_get 56 = .ok (.iload_n 1, 1) := by decide +kernel
theorem dX8_get_57 : decode cX8_get 57 = .ok (.aaload, 1) := by decide +kernel
theorem dX8_get_58 : decode cX8_get 58 = .ok (.iload_n 3, 1) := by decide +kernel
theorem dX8_get_59 : decode cX8_get 59 = .ok (.iaload, 1) := by decide +kernel
theorem dX8_get_60 : decode cX8_get 60 = .ok (.ireturn, 1) := by decide +kernel
theorem dX8_isNumber_0 : decode cX8_isNumber 0 = .ok (.iload_n 0, 1) := by decide +kernel
theorem dX8_isNumber_1 : decode cX8_isNumber 1 = .ok (.iconst 0, 1) := by decide +kernel
theorem dX8_isNumber_2 : decode cX8_isNumber 2 = .ok (.iconst 4, 1) := by decide +kernel
theorem dX8_isNumber_3 : decode cX8_isNumber 3 = .ok (.invokestatic 95, 3) := by decide +kernel
theorem dX8_isNumber_6 : decode cX8_isNumber 6 = .ok (.ireturn, 1) := by decide +kernel
theorem dX8_isPlace_0 : decode cX8_isPlace 0 = .ok (.iload_n 0, 1) := by decide +kernel
theorem dX8_isPlace_1 : decode cX8_isPlace 1 = .ok (.iconst 0, 1) := by decide +kernel
theorem dX8_isPlace_2 : decode cX8_isPlace 2 = .ok (.bipush 7, 2) := by decide +kernel
theorem dX8_isPlace_4 : decode cX8_isPlace 4 = .ok (.invokestatic 95, 3) := by decide +kernel
theorem dX8_isPlace_7 : decode cX8_isPlace 7 = .ok (.ireturn, 1) := by decide +kernel
theorem dX8_load_0 : decode cX8_load 0 = .ok (.iload_n 1, 1) := by decide +kernel
theorem dX8_load_1 : decode cX8_load 1 = .ok (.iconst 0, 1) := by decide +kernel
theorem dX8_load_2 : decode cX8_load 2 = .ok (.iconst 2, 1) := by decide +kernel
theorem dX8_load_3 : decode cX8_load 3 = .ok (.invokestatic 95, 3) := by decide +kernel
theorem dX8_load_6 : decode cX8_load 6 = .ok (.ifCond .eq 10, 3) := by decide +kernel
theorem dX8_load_9 : decode cX8_load 9 = .ok (.iload_n 2, 1) := by decide +kernel
theorem dX8_load_10 : decode cX8_load 10 = .ok (.invokestatic 193, 3) := by decide +kernel
theorem dX8_load_13 : decode cX8_load 13 = .ok (.ifCond .ne 9, 3) := by decide +kernel
theorem dX8_load_16 : decode cX8_load 16 = .ok (.bipush (-2), 2) := by decide +kernel
theorem dX8_load_18 : decode cX8_load 18 = .ok (.invokestatic 196, 3) := by decide +kernel
theorem dX8_load_21 : decode cX8_load 21 = .ok (.lreturn, 1) := by decide +kernel
theorem dX8_load_22 : decode cX8_load 22 = .ok (.aload_n 0, 1) := by decide +kernel
theorem dX8_load_23 : decode cX8_load 23 = .ok (.invokevirtual 230, 3) := by decide +kernel
theorem dX8_load_26 : decode cX8_load 26 = .ok (.aload_n 0, 1) := by decide +kernel
theorem dX8_load_27 : decode cX8_load 27 = .ok (.iload_n 1, 1) := by decide +kernel
theorem dX8_load_28 : decode cX8_load 28 = .ok (.iload_n 2, 1) := by decide +kernel
theorem dX8_load_29 : decode cX8_load 29 = .ok (.invokevirtual 247, 3) := by decide +kernel
theorem dX8_load_32 : decode cX8_load 32 = .ok (.lreturn, 1) := by decide +kernel
theorem dX8_loaded_0 : decode cX8_loaded 0 = .ok (.iload_n 1, 1) := by decide +kernel
theorem dX8_loaded_1 : decode cX8_loaded 1 = .ok (.iconst (-1), 1) := by decide +kernel
theorem dX8_loaded_2 : decode cX8_loaded 2 = .ok (.iconst 5, 1) := by decide +kernel
theorem dX8_loaded_3 : decode cX8_loaded 3 = .ok (.invokestatic 95, 3) := by decide +kernel
theorem dX8_loaded_6 : decode cX8_loaded 6 = .ok (.ifCond .ne 6, 3) := by decide +kernel
theorem dX8_loaded_9 : decode cX8_loaded 9 = .ok (.bipush (-2), 2) := by decide +kernel
theorem dX8_loaded_11 : decode cX8_loaded 11 = .ok (.ireturn, 1) := by decide +kernel
theorem dX8_loaded_12 : decode cX8_loaded 12 = .ok (.aload_n 0, 1) := by decide +kernel
theorem dX8_loaded_13 : decode cX8_loaded 13 = .ok (.invokevirtual 230, 3) := by decide +kernel
theorem dX8_loaded_16 : decode cX8_loaded 16 = .ok (.aload_n 0, 1) := by decide +kernel
theorem dX8_loaded_17 : decode cX8_loaded 17 = .ok (.getfield 58, 3) := by decide +kernel
theorem dX8_loaded_20 : decode cX8_loaded 20 = .ok (.aload_n 0, 1) := by decide +kernel
theorem dX8_loaded_21 : decode cX8_loaded 21 = .ok (.getfield 85, 3) := by decide +kernel
theorem dX8_loaded_24 : decode cX8_loaded 24 = .ok (.invokevirtual 251, 3) := by decide +kernel
theorem dX8_loaded_27 : decode cX8_loaded 27 = .ok (.aload_n 0, 1) := by decide +kernel
theorem dX8_loaded_28 : decode cX8_loaded 28 = .ok (.aload_n 0, 1) := by decide +kernel
theorem dX8_loaded_29 : decode cX8_loaded 29 = .ok (.getfield 58, 3) := by decide +kernel
theorem dX8_loaded_32 : decode cX8_loaded 32 = .ok (.getfield 254, 3) := by decide +kernel
theorem dX8_loaded_35 : decode cX8_loaded 35 = .ok (.iload_n 1, 1) := by decide +kernel
theorem dX8_loaded_36 : decode cX8_loaded 36 = .ok (.invokevirtual 244, 3) := by decide +kernel
theorem dX8_loaded_39 : decode cX8_loaded 39 = .ok (.ireturn, 1) := by decide +kernel
theorem dX8_lose_0 : decode cX8_lose 0 = .ok (.iload_n 1, 1) := by decide +kernel
theorem dX8_lose_1 : decode cX8_lose 1 = .ok (.invokestatic 136, 3) := by decide +kernel
theorem dX8_lose_4 : decode cX8_lose 4 = .ok (.ifCond .ne 6, 3) := by decide +kernel
theorem dX8_lose_7 : decode cX8_lose 7 = .ok (.bipush (-2), 2) := by decide +kernel
theorem dX8_lose_9 : decode cX8_lose 9 = .ok (.ireturn, 1) := by decide +kernel
theorem dX8_lose_10 : decode cX8_lose 10 = .ok (.aload_n 0, 1) := by decide +kernel
theorem dX8_lose_11 : decode cX8_lose 11 = .ok (.getfield 40, 3) := by decide +kernel
theorem dX8_lose_14 : decode cX8_lose 14 = .ok (.iload_n 1, 1) := by decide +kernel
theorem dX8_lose_15 : decode cX8_lose 15 = .ok (.invokevirtual 142, 3) := by decide +kernel
theorem dX8_lose_18 : decode cX8_lose 18 = .ok (.ifCond .eq 12, 3) := by decide +kernel
theorem dX8_lose_21 : decode cX8_lose 21 = .ok (.aload_n 0, 1) := by decide +kernel
theorem dX8_lose_22 : decode cX8_lose 22 = .ok (.getfield 40, 3) := by decide +kernel
theorem dX8_lose_25 : decode cX8_lose 25 = .ok (.iconst 1, 1) := by decide +kernel
theorem dX8_lose_26 : decode cX8_lose 26 = .ok (.invokevirtual 145, 3) := by decide +kernel
theorem dX8_lose_29 : decode cX8_lose 29 = .ok (.ireturn, 1) := by decide +kernel
theorem dX8_lose_30 : decode cX8_lose 30 = .ok (.aload_n 0, 1) := by decide +kernel
theorem dX8_lose_31 : decode cX8_lose 31 = .ok (.getfield 40, 3) := by decide +kernel
theorem dX8_lose_34 : decode cX8_lose 34 = .ok (.getfield 149, 3) := by decide +kernel
theorem dX8_lose_37 : decode cX8_lose 37 = .ok (.iload_n 1, 1) := by decide +kernel
theorem dX8_lose_38 : decode cX8_lose 38 = .ok (.iaload, 1) := by decide +kernel
theorem dX8_lose_39 : decode cX8_lose 39 = .ok (.istore_n 2, 1) := by decide +kernel
theorem dX8_lose_40 : decode cX8_lose 40 = .ok (.aload_n 0, 1) := by decide +kernel
theorem dX8_lose_41 : decode cX8_lose 41 = .ok (.getfield 40, 3) := by decide +kernel
theorem dX8_lose_44 : decode cX8_lose 44 = .ok (.getfield 149, 3) := by decide +kernel
theorem dX8_lose_47 : decode cX8_lose 47 = .ok (.iload_n 1, 1) := by decide +kernel
theorem dX8_lose_48 : decode cX8_lose 48 = .ok (.iconst (-1), 1) := by decide +kernel
theorem dX8_lose_49 : decode cX8_lose 49 = .ok (.iastore, 1) := by decide +kernel
theorem dX8_lose_50 : decode cX8_lose 50 = .ok (.iload_n 2, 1) := by decide +kernel
theorem dX8_lose_51 : decode cX8_lose 51 = .ok (.ireturn, 1) := by decide +kernel
theorem dX8_onward_0 : decode cX8_onward 0 = .ok (.iload_n 1, 1) := by decide +kernel
theorem dX8_onward_1 : decode cX8_onward 1 = .ok (.invokestatic 109, 3) := by decide +kernel
theorem dX8_onward_4 : decode cX8_onward 4 = .ok (.ifCond .eq 14, 3) := by decide +kernel
theorem dX8_onward_7 : decode cX8_onward 7 = .ok (.iload_n 2, 1) := by decide +kernel
theorem dX8_onward_8 : decode cX8_onward 8 = .ok (.iconst 0, 1) := by decide +kernel
theorem dX8_onward_9 : decode cX8_onward 9 = .ok (.sipush 200, 3) := by decide +kernel
theorem dX8_onward_12 : decode cX8_onward 12 = .ok (.invokestatic 95, 3) := by decide +kernel
theorem dX8_onward_15 : decode cX8_onward 15 = .ok (.ifCond .ne 6, 3) := by decide +kernel
theorem dX8_onward_18 : decode cX8_onward 18 = .ok (.bipush (-2), 2) := by decide +kernel
theorem dX8_onward_20 : decode cX8_onward 20 = .ok (.ireturn, 1) := by decide +kernel
theorem dX8_onward_21 : decode cX8_onward 21 = .ok (.aload_n 0, 1) := by decide +kernel
theorem dX8_onward_22 : decode cX8_onward 22 = .ok (.invokevirtual 257, 3) := by decide +kernel
theorem dX8_onward_25 : decode cX8_onward 25 = .ok (.ifCond .eq 6, 3) := by decide +kernel
theorem dX8_onward_28 : decode cX8_onward 28 = .ok (.bipush (-4), 2) := by decide +kernel
theorem dX8_onward_30 : decode cX8_onward 30 = .ok (.ireturn, 1) := by decide +kernel
theorem dX8_onward_31 : decode cX8_onward 31 = .ok (.aload_n 0, 1) := by decide +kernel
theorem dX8_onward_32 : decode cX8_onward 32 = .ok (.getfield 74, 3) := by decide +kernel
theorem dX8_onward_35 : decode cX8_onward 35 = .ok (.aload_n 0, 1) := by decide +kernel
theorem dX8_onward_36 : decode cX8_onward 36 = .ok (.getfield 88, 3) := by decide +kernel
theorem dX8_onward_39 : decode cX8_onward 39 = .ok (.aload_n 0, 1) := by decide +kernel
theorem dX8_onward_40 : decode cX8_onward 40 = .ok (.getfield 82, 3) := by decide +kernel
theorem dX8_onward_43 : decode cX8_onward 43 = .ok (.iload_n 1, 1) := by decide +kernel
theorem dX8_onward_44 : decode cX8_onward 44 = .ok (.iload_n 2, 1) := by decide +kernel
theorem dX8_onward_45 : decode cX8_onward 45 = .ok (.invokevirtual 279, 3) := by decide +kernel
theorem dX8_onward_48 : decode cX8_onward 48 = .ok (.aload_n 0, 1) := by decide +kernel
theorem dX8_onward_49 : decode cX8_onward 49 = .ok (.getfield 74, 3) := by decide +kernel
theorem dX8_onward_52 : decode cX8_onward 52 = .ok (.invokevirtual 267, 3) := by decide +kernel
theorem dX8_onward_55 : decode cX8_onward 55 = .ok (.istore_n 3, 1) := by decide +kernel
theorem dX8_onward_56 : decode cX8_onward 56 = .ok (.aload_n 0, 1) := by decide +kernel
theorem dX8_onward_57 : decode cX8_onward 57 = .ok (.getfield 74, 3) := by decide +kernel
theorem dX8_onward_60 : decode cX8_onward 60 = .ok (.getfield 264, 3) := by decide +kernel
theorem dX8_onward_63 : decode cX8_onward 63 = .ok (.iload_n 3, 1) := by decide +kernel
theorem dX8_onward_64 : decode cX8_onward 64 = .ok (.iaload, 1) := by decide +kernel
theorem dX8_onward_65 : decode cX8_onward 65 = .ok (.invokestatic 270, 3) := by decide +kernel
theorem dX8_onward_68 : decode cX8_onward 68 = .ok (.istore 4, 2) := by decide +kernel
theorem dX8_onward_70 : decode cX8_onward 70 = .ok (.iload 4, 2) := by decide +kernel
theorem dX8_onward_72 : decode cX8_onward 72 = .ok (.ifCond .le 22, 3) := by decide +kernel
theorem dX8_onward_75 : decode cX8_onward 75 = .ok (.aload_n 0, 1) := by decide +kernel
theorem dX8_onward_76 : decode cX8_onward 76 = .ok (.getfield 74, 3) := by decide +kernel
theorem dX8_onward_79 : decode cX8_onward 79 = .ok (.getfield 264, 3) := by decide +kernel
theorem dX8_onward_82 : decode cX8_onward 82 = .ok (.iload_n 3, 1) := by decide +kernel
theorem dX8_onward_83 : decode cX8_onward 83 = .ok (.iaload, 1) := by decide +kernel
theorem dX8_onward_84 : decode cX8_onward 84 = .ok (.iload 4, 2) := by decide +kernel
theorem dX8_onward_86 : decode cX8_onward 86 = .ok (.iconst 1, 1) := by decide +kernel
theorem dX8_onward_87 : decode cX8_onward 87 = .ok (.isub, 1) := by decide +kernel
theorem dX8_onward_88 : decode cX8_onward 88 = .ok (.invokestatic 273, 3) := by decide +kernel
theorem dX8_onward_91 : decode cX8_onward 91 = .ok (.goto 4, 3) := by decide +kernel
theorem dX8_onward_94 : decode cX8_onward 94 = .ok (.iconst (-1), 1) := by decide +kernel
theorem dX8_onward_95 : decode cX8_onward 95 = .ok (.ireturn, 1) := by decide +kernel
theorem dX8_pack_0 : decode cX8_pack 0 = .ok (.iload_n 1, 1) := by decide +kernel
theorem dX8_pack_1 : decode cX8_pack 1 = .ok (.invokestatic 136, 3) := by decide +kernel
theorem dX8_pack_4 : decode cX8_pack 4 = .ok (.ifCond .ne 6, 3) := by decide +kernel
theorem dX8_pack_7 : decode cX8_pack 7 = .ok (.bipush (-2), 2) := by decide +kernel
theorem dX8_pack_9 : decode cX8_pack 9 = .ok (.ireturn, 1) := by decide +kernel
theorem dX8_pack_10 : decode cX8_pack 10 = .ok (.aload_n 0, 1) := by decide +kernel
theorem dX8_pack_11 : decode cX8_pack 11 = .ok (.getfield 40, 3) := by decide +kernel
theorem dX8_pack_14 : decode cX8_pack 14 = .ok (.iload_n 1, 1) := by decide +kernel
theorem dX8_pack_15 : decode cX8_pack 15 = .ok (.invokevirtual 142, 3) := by decide +kernel
theorem dX8_pack_18 : decode cX8_pack 18 = .ok (.ifCond .eq 12, 3) := by decide +kernel
theorem dX8_pack_21 : decode cX8_pack 21 = .ok (.aload_n 0, 1) := by decide +kernel
theorem dX8_pack_22 : decode cX8_pack 22 = .ok (.getfield 40, 3) := by decide +kernel
theorem dX8_pack_25 : decode cX8_pack 25 = .ok (.iconst 1, 1) := by decide +kernel
theorem dX8_pack_26 : decode cX8_pack 26 = .ok (.invokevirtual 145, 3) := by decide +kernel
theorem dX8_pack_29 : decode cX8_pack 29 = .ok (.ireturn, 1) := by decide +kernel
theorem dX8_pack_30 : decode cX8_pack 30 = .ok (.aload_n 0, 1) := by decide +kernel
theorem dX8_pack_31 : decode cX8_pack 31 = .ok (.getfield 40, 3) := by decide +kernel
theorem dX8_pack_34 : decode cX8_pack 34 = .ok (.getfield 149, 3) := by decide +kernel
theorem dX8_pack_37 : decode cX8_pack 37 = .ok (.iload_n 1, 1) := by decide +kernel
theorem dX8_pack_38 : decode cX8_pack 38 = .ok (.iaload, 1) := by decide +kernel
theorem dX8_pack_39 : decode cX8_pack 39 = .ok (.bipush 6, 2) := by decide +kernel
theorem dX8_pack_41 : decode cX8_pack 41 = .ok (.if_icmp .ge 12, 3) := by decide +kernel
theorem dX8_pack_44 : decode cX8_pack 44 = .ok (.aload_n 0, 1) := by decide +kernel
theorem dX8_pack_45 : decode cX8_pack 45 = .ok (.getfield 40, 3) := by decide +kernel
theorem dX8_pack_48 : decode cX8_pack 48 = .ok (.iconst 2, 1) := by decide +kernel
theorem dX8_pack_49 : decode cX8_pack 49 = .ok (.invokevirtual 145, 3) := by decide +kernel
theorem dX8_pack_52 : decode cX8_pack 52 = .ok (.ireturn, 1) := by decide +kernel
theorem dX8_pack_53 : decode cX8_pack 53 = .ok (.aload_n 0, 1) := by decide +kernel
theorem dX8_pack_54 : decode cX8_pack 54 = .ok (.getfield 40, 3) := by decide +kernel
theorem dX8_pack_57 : decode cX8_pack 57 = .ok (.getfield 158, 3) := by decide +kernel
theorem dX8_pack_60 : decode cX8_pack 60 = .ok (.iload_n 1, 1) := by decide +kernel
theorem dX8_pack_61 : decode cX8_pack 61 = .ok (.aaload, 1) := by decide +kernel
theorem dX8_pack_62 : decode cX8_pack 62 = .ok (.astore_n 2, 1) := by decide +kernel
theorem dX8_pack_63 : decode cX8_pack 63 = .ok (.iconst 0, 1) := by decide +kernel
theorem dX8_pack_64 : decode cX8_pack 64 = .ok (.istore_n 3, 1) := by decide +kernel
theorem dX8_pack_65 : decode cX8_pack 65 = .ok (.iload_n 3, 1) := by decide +kernel
theorem dX8_pack_66 : decode cX8_pack 66 = .ok (.bipush 6, 2) := by decide +kernel
theorem dX8_pack_68 : decode cX8_pack 68 = .ok (.if_icmp .ge 23, 3) := by decide +kernel
theorem dX8_pack_71 : decode cX8_pack 71 = .ok (.aload_n 2, 1) := by decide +kernel
theorem dX8_pack_72 : decode cX8_pack 72 = .ok (.iload_n 3, 1) := by decide +kernel
theorem dX8_pack_73 : decode cX8_pack 73 = .ok (.iaload, 1) := by decide +kernel
theorem dX8_pack_74 : decode cX8_pack 74 = .ok (.iconst 0, 1) := by decide +kernel
theorem dX8_pack_75 : decode cX8_pack 75 = .ok (.iconst 4, 1) := by decide +kernel
theorem dX8_pack_76 : decode cX8_pack 76 = .ok (.invokestatic 95, 3) := by decide +kernel
theorem dX8_pack_79 : decode cX8_pack 79 = .ok (.ifCond .ne 6, 3) := by decide +kernel
theorem dX8_pack_82 : decode cX8_pack 82 = .ok (.bipush (-3), 2) := by decide +kernel
theorem dX8_pack_84 : decode cX8_pack 84 = .ok (.ireturn, 1) := by decide +kernel
theorem dX8_pack_85 : decode cX8_pack 85 = .ok (.iinc 3 1, 3) := by decide +kernel
theorem dX8_pack_88 : decode cX8_pack 88 = .ok (.goto (-23), 3) := by decide +kernel
theorem dX8_pack_91 : decode cX8_pack 91 = .ok (.iconst 0, 1) := by decide +kernel
theorem dX8_pack_92 : decode cX8_pack 92 = .ok (.istore_n 3, 1) := by decide +kernel
theorem dX8_pack_93 : decode cX8_pack 93 = .ok (.iload_n 3, 1) := by decide +kernel
theorem dX8_pack_94 : decode cX8_pack 94 = .ok (.bipush 6, 2) := by decide +kernel
theorem dX8_pack_96 : decode cX8_pack 96 = .ok (.if_icmp .ge 18, 3) := by decide +kernel
theorem dX8_pack_99 : decode cX8_pack 99 = .ok (.aload_n 0, 1) := by decide +kernel
theorem dX8_pack_100 : decode cX8_pack 100 = .ok (.getfield 66, 3) := by decide +kernel
theorem dX8_pack_103 : decode cX8_pack 103 = .ok (.iload_n 3, 1) := by decide +kernel
theorem dX8_pack_104 : decode cX8_pack 104 = .ok (.aload_n 2, 1) := by decide +kernel
theorem dX8_pack_105 : decode cX8_pack 105 = .ok (.iload_n 3, 1) := by decide +kernel
theorem dX8_pack_106 : decode cX8_pack 106 = .ok (.iaload, 1) := by decide +kernel
theorem dX8_pack_107 : decode cX8_pack 107 = .ok (.iastore, 1) := by decide +kernel
theorem dX8_pack_108 : decode cX8_pack 108 = .ok (.iinc 3 1, 3) := by decide +kernel
theorem dX8_pack_111 : decode cX8_pack 111 = .ok (.goto (-18), 3) := by decide +kernel
theorem dX8_pack_114 : decode cX8_pack 114 = .ok (.aload_n 0, 1) := by decide +kernel
theorem dX8_pack_115 : decode cX8_pack 115 = .ok (.getfield 12, 3) := by decide +kernel
theorem dX8_pack_118 : decode cX8_pack 118 = .ok (.aload_n 0, 1) := by decide +kernel
theorem dX8_pack_119 : decode cX8_pack 119 = .ok (.getfield 66, 3) := by decide +kernel
theorem dX8_pack_122 : decode cX8_pack 122 = .ok (.invokevirtual 179, 3) := by decide +kernel
theorem dX8_pack_125 : decode cX8_pack 125 = .ok (.ireturn, 1) := by decide +kernel
theorem dX8_put_0 : decode cX8_put 0 = .ok (.iload_n 1, 1) := by decide +kernel
theorem dX8_put_1 : decode cX8_put 1 = .ok (.invokestatic 136, 3) := by decide +kernel
theorem dX8_put_4 : decode cX8_put 4 = .ok (.ifCond .eq 10, 3) := by decide +kernel
theorem dX8_put_7 : decode cX8_put 7 = .ok (.iload_n 2, 1) := by decide +kernel
theorem dX8_put_8 : decode cX8_put 8 = .ok (.invokestatic 304, 3) := by decide +kernel
theorem dX8_put_11 : decode cX8_put 11 = .ok (.ifCond .ne 6, 3) := by decide +kernel
theorem dX8_put_14 : decode cX8_put 14 = .ok (.bipush (-2), 2) := by decide +kernel
theorem dX8_put_16 : decode cX8_put 16 = .ok (.ireturn, 1) := by decide +kernel
theorem dX8_put_17 : decode cX8_put 17 = .ok (.aload_n 0, 1) := by decide +kernel
theorem dX8_put_18 : decode cX8_put 18 = .ok (.getfield 40, 3) := by decide +kernel
theorem dX8_put_21 : decode cX8_put 21 = .ok (.iload_n 1, 1) := by decide +kernel
theorem dX8_put_22 : decode cX8_put 22 = .ok (.iload_n 2, 1) := by decide +kernel
theorem dX8_put_23 : decode cX8_put 23 = .ok (.iload_n 3, 1) := by decide +kernel
theorem dX8_put_24 : decode cX8_put 24 = .ok (.invokevirtual 310, 3) := by decide +kernel
theorem dX8_put_27 : decode cX8_put 27 = .ok (.istore 5, 2) := by decide +kernel
theorem dX8_put_29 : decode cX8_put 29 = .ok (.iload 5, 2) := by decide +kernel
theorem dX8_put_31 : decode cX8_put 31 = .ok (.ifCond .eq 13, 3) := by decide +kernel
theorem dX8_put_34 : decode cX8_put 34 = .ok (.aload_n 0, 1) := by decide +kernel
theorem dX8_put_35 : decode cX8_put 35 = .ok (.getfield 40, 3) := by decide +kernel
theorem dX8_put_38 : decode cX8_put 38 = .ok (.iload 5, 2) := by decide +kernel
theorem dX8_put_40 : decode cX8_put 40 = .ok (.invokevirtual 145, 3) := by decide +kernel
theorem dX8_put_43 : decode cX8_put 43 = .ok (.ireturn, 1) := by decide +kernel
theorem dX8_put_44 : decode cX8_put 44 = .ok (.aload_n 0, 1) := by decide +kernel
theorem dX8_put_45 : decode cX8_put 45 = .ok (.getfield 40, 3) := by decide +kernel
theorem dX8_put_48 : decode cX8_put 48 = .ok (.iload_n 1, 1) := by decide +kernel
theorem dX8_put_49 : decode cX8_put 49 = .ok (.iload_n 3, 1) := by decide +kernel
theorem dX8_put_50 : decode cX8_put 50 = .ok (.iload 4, 2) := by decide +kernel
theorem dX8_put_52 : decode cX8_put 52 = .ok (.invokevirtual 313, 3) := by decide +kernel
theorem dX8_put_55 : decode cX8_put 55 = .ok (.iconst 1, 1) := by decide +kernel
theorem dX8_put_56 : decode cX8_put 56 = .ok (.ireturn, 1) := by decide +kernel
theorem dX8_read_0 : decode cX8_read 0 = .ok (.iload_n 1, 1) := by decide +kernel
theorem dX8_read_1 : decode cX8_read 1 = .ok (.invokestatic 136, 3) := by decide +kernel
theorem dX8_read_4 : decode cX8_read 4 = .ok (.ifCond .eq 10, 3) := by decide +kernel
theorem dX8_read_7 : decode cX8_read 7 = .ok (.iload_n 2, 1) := by decide +kernel
theorem dX8_read_8 : decode cX8_read 8 = .ok (.invokestatic 139, 3) := by decide +kernel
theorem dX8_read_11 : decode cX8_read 11 = .ok (.ifCond .ne 6, 3) := by decide +kernel
theorem dX8_read_14 : decode cX8_read 14 = .ok (.bipush (-2), 2) := by decide +kernel
theorem dX8_read_16 : decode cX8_read 16 = .ok (.ireturn, 1) := by decide +kernel
theorem dX8_read_17 : decode cX8_read 17 = .ok (.aload_n 0, 1) := by decide +kernel
theorem dX8_read_18 : decode cX8_read 18 = .ok (.getfield 40, 3) := by decide +kernel
theorem dX8_read_21 : decode cX8_read 21 = .ok (.iload_n 1, 1) := by decide +kernel
theorem dX8_read_22 : decode cX8_read 22 = .ok (.invokevirtual 142, 3) := by decide +kernel
theorem dX8_read_25 : decode cX8_read 25 = .ok (.ifCond .eq 12, 3) := by decide +kernel
theorem dX8_read_28 : decode cX8_read 28 = .ok (.aload_n 0, 1) := by decide +kernel
theorem dX8_read_29 : decode cX8_read 29 = .ok (.getfield 40, 3) := by decide +kernel
theorem dX8_read_32 : decode cX8_read 32 = .ok (.iconst 1, 1) := by decide +kernel
theorem dX8_read_33 : decode cX8_read 33 = .ok (.invokevirtual 145, 3) := by decide +kernel
theorem dX8_read_36 : decode cX8_read 36 = .ok (.ireturn, 1) := by decide +kernel
theorem dX8_read_37 : decode cX8_read 37 = .ok (.iconst 0, 1) := by decide +kernel
theorem dX8_read_38 : decode cX8_read 38 = .ok (.istore_n 3, 1) := by decide +kernel
theorem dX8_read_39 : decode cX8_read 39 = .ok (.aload_n 0, 1) := by decide +kernel
theorem dX8_read_40 : decode cX8_read 40 = .ok (.getfield 40, 3) := by decide +kernel
theorem dX8_read_43 : decode cX8_read 43 = .ok (.getfield 149, 3) := by decide +kernel
theorem dX8_read_46 : decode cX8_read 46 = .ok (.iload_n 1, 1) := by decide +kernel
theorem dX8_read_47 : decode cX8_read 47 = .ok (.iaload, 1) := by decide +kernel
theorem dX8_read_48 : decode cX8_read 48 = .ok (.iconst 3, 1) := by decide +kernel
theorem dX8_read_49 : decode cX8_read 49 = .ok (.idiv, 1) := by decide +kernel
theorem dX8_read_50 : decode cX8_read 50 = .ok (.bipush 6, 2) := by decide +kernel
theorem dX8_read_52 : decode cX8_read 52 = .ok (.invokestatic 152, 3) := by decide +kernel
theorem dX8_read_55 : decode cX8_read 55 = .ok (.istore 4, 2) := by decide +kernel
theorem dX8_read_57 : decode cX8_read 57 = .ok (.aload_n 0, 1) := by decide +kernel
theorem dX8_read_58 : decode cX8_read 58 = .ok (.getfield 40, 3) := by decide +kernel
theorem dX8_read_61 : decode cX8_read 61 = .ok (.getfield 158, 3) := by decide +kernel
theorem dX8_read_64 : decode cX8_read 64 = .ok (.iload_n 1, 1) := by decide +kernel
theorem dX8_read_65 : decode cX8_read 65 = .ok (.aaload, 1) := by decide +kernel
theorem dX8_read_66 : decode cX8_read 66 = .ok (.astore 5, 2) := by decide +kernel
theorem dX8_read_68 : decode cX8_read 68 = .ok (.iload_n 3, 1) := by decide +kernel
theorem dX8_read_69 : decode cX8_read 69 = .ok (.iload 4, 2) := by decide +kernel
theorem dX8_read_71 : decode cX8_read 71 = .ok (.if_icmp .ge 26, 3) := by decide +kernel
theorem dX8_read_74 : decode cX8_read 74 = .ok (.aload_n 0, 1) := by decide +kernel
theorem dX8_read_75 : decode cX8_read 75 = .ok (.getfield 26, 3) := by decide +kernel
theorem dX8_read_78 : decode cX8_read 78 = .ok (.iload_n 2, 1) := by decide +kernel
theorem dX8_read_79 : decode cX8_read 79 = .ok (.iload_n 3, 1) := by decide +kernel
theorem dX8_read_80 : decode cX8_read 80 = .ok (.aload 5, 2) := by decide +kernel
theorem dX8_read_82 : decode cX8_read 82 = .ok (.iload_n 3, 1) := by decide +kernel
theorem dX8_read_83 : decode cX8_read 83 = .ok (.iconst 3, 1) := by decide +kernel
theorem dX8_read_84 : decode cX8_read 84 = .ok (.imul, 1) := by decide +kernel
theorem dX8_read_85 : decode cX8_read 85 = .ok (.invokevirtual 161, 3) := by decide +kernel
theorem dX8_read_88 : decode cX8_read 88 = .ok (.ifCond .eq 9, 3) := by decide +kernel
theorem dX8_read_91 : decode cX8_read 91 = .ok (.iinc 3 1, 3) := by decide +kernel
theorem dX8_read_94 : decode cX8_read 94 = .ok (.goto (-26), 3) := by decide +kernel
theorem dX8_read_97 : decode cX8_read 97 = .ok (.aload_n 0, 1) := by decide +kernel
theorem dX8_read_98 : decode cX8_read 98 = .ok (.getfield 74, 3) := by decide +kernel
theorem dX8_read_101 : decode cX8_read 101 = .ok (.invokevirtual 106, 3) := by decide +kernel
theorem dX8_read_104 : decode cX8_read 104 = .ok (.iload_n 3, 1) := by decide +kernel
theorem dX8_read_105 : decode cX8_read 105 = .ok (.ireturn, 1) := by decide +kernel
theorem dX8_road_0 : decode cX8_road 0 = .ok (.iload_n 1, 1) := by decide +kernel
theorem dX8_road_1 : decode cX8_road 1 = .ok (.invokestatic 109, 3) := by decide +kernel
theorem dX8_road_4 : decode cX8_road 4 = .ok (.ifCond .eq 25, 3) := by decide +kernel
theorem dX8_road_7 : decode cX8_road 7 = .ok (.iload_n 2, 1) := by decide +kernel
theorem dX8_road_8 : decode cX8_road 8 = .ok (.invokestatic 109, 3) := by decide +kernel
theorem dX8_road_11 : decode cX8_road 11 = .ok (.ifCond .eq 18, 3) := by decide +kernel
theorem dX8_road_14 : decode cX8_road 14 = .ok (.iload_n 1, 1) := by decide +kernel
theorem dX8_road_15 : decode cX8_road 15 = .ok (.iload_n 2, 1) := by decide +kernel
theorem dX8_road_16 : decode cX8_road 16 = .ok (.if_icmp .eq 13, 3) := by decide +kernel
theorem dX8_road_19 : decode cX8_road 19 = .ok (.iload_n 3, 1) := by decide +kernel
theorem dX8_road_20 : decode cX8_road 20 = .ok (.iconst 0, 1) := by decide +kernel
theorem dX8_road_21 : decode cX8_road 21 = .ok (.bipush 60, 2) := by decide +kernel
theorem dX8_road_23 : decode cX8_road 23 = .ok (.invokestatic 95, 3) := by decide +kernel
theorem dX8_road_26 : decode cX8_road 26 = .ok (.ifCond .ne 6, 3) := by decide +kernel
theorem dX8_road_29 : decode cX8_road 29 = .ok (.bipush (-2), 2) := by decide +kernel
theorem dX8_road_31 : decode cX8_road 31 = .ok (.ireturn, 1) := by decide +kernel
theorem dX8_road_32 : decode cX8_road 32 = .ok (.aload_n 0, 1) := by decide +kernel
theorem dX8_road_33 : decode cX8_road 33 = .ok (.getfield 19, 3) := by decide +kernel
theorem dX8_road_36 : decode cX8_road 36 = .ok (.getfield 112, 3) := by decide +kernel
theorem dX8_road_39 : decode cX8_road 39 = .ok (.iload_n 1, 1) := by decide +kernel
theorem dX8_road_40 : decode cX8_road 40 = .ok (.aaload, 1) := by decide +kernel
theorem dX8_road_41 : decode cX8_road 41 = .ok (.iload_n 2, 1) := by decide +kernel
theorem dX8_road_42 : decode cX8_road 42 = .ok (.iaload, 1) := by decide +kernel
theorem dX8_road_43 : decode cX8_road 43 = .ok (.istore 4, 2) := by decide +kernel
theorem dX8_road_45 : decode cX8_road 45 = .ok (.aload_n 0, 1) := by decide +kernel
theorem dX8_road_46 : decode cX8_road 46 = .ok (.getfield 19, 3) := by decide +kernel
theorem dX8_road_49 : decode cX8_road 49 = .ok (.iload_n 1, 1) := by decide +kernel
theorem dX8_road_50 : decode cX8_road 50 = .ok (.iload_n 2, 1) := by decide +kernel
theorem dX8_road_51 : decode cX8_road 51 = .ok (.iload_n 3, 1) := by decide +kernel
theorem dX8_road_52 : decode cX8_road 52 = .ok (.invokevirtual 115, 3) := by decide +kernel
theorem dX8_road_55 : decode cX8_road 55 = .ok (.aload_n 0, 1) := by decide +kernel
theorem dX8_road_56 : decode cX8_road 56 = .ok (.getfield 74, 3) := by decide +kernel
theorem dX8_road_59 : decode cX8_road 59 = .ok (.invokevirtual 106, 3) := by decide +kernel
theorem dX8_road_62 : decode cX8_road 62 = .ok (.iload 4, 2) := by decide +kernel
theorem dX8_road_64 : decode cX8_road 64 = .ok (.ireturn, 1) := by decide +kernel
theorem dX8_round_0 : decode cX8_round 0 = .ok (.iload_n 1, 1) := by decide +kernel
theorem dX8_round_1 : decode cX8_round 1 = .ok (.iconst (-1), 1) := by decide +kernel
theorem dX8_round_2 : decode cX8_round 2 = .ok (.if_icmp .ge 6, 3) := by decide +kernel
theorem dX8_round_5 : decode cX8_round 5 = .ok (.bipush (-2), 2) := by decide +kernel
theorem dX8_round_7 : decode cX8_round 7 = .ok (.ireturn, 1) := by decide +kernel
theorem dX8_round_8 : decode cX8_round 8 = .ok (.aload_n 0, 1) := by decide +kernel
theorem dX8_round_9 : decode cX8_round 9 = .ok (.invokevirtual 257, 3) := by decide +kernel
theorem dX8_round_12 : decode cX8_round 12 = .ok (.ifCond .eq 6, 3) := by decide +kernel
theorem dX8_round_15 : decode cX8_round 15 = .ok (.bipush (-4), 2) := by decide +kernel
theorem dX8_round_17 : decode cX8_round 17 = .ok (.ireturn, 1) := by decide +kernel
theorem dX8_round_18 : decode cX8_round 18 = .ok (.aload_n 0, 1) := by decide +kernel
theorem dX8_round_19 : decode cX8_round 19 = .ok (.getfield 74, 3) := by decide +kernel
theorem dX8_round_22 : decode cX8_round 22 = .ok (.aload_n 0, 1) := by decide +kernel
theorem dX8_round_23 : decode cX8_round 23 = .ok (.getfield 88, 3) := by decide +kernel
theorem dX8_round_26 : decode cX8_round 26 = .ok (.aload_n 0, 1) := by decide +kernel
theorem dX8_round_27 : decode cX8_round 27 = .ok (.getfield 82, 3) := by decide +kernel
theorem dX8_round_30 : decode cX8_round 30 = .ok (.aload_n 0, 1) := by decide +kernel
theorem dX8_round_31 : decode cX8_round 31 = .ok (.getfield 85, 3) := by decide +kernel
theorem dX8_round_34 : decode cX8_round 34 = .ok (.invokevirtual 261, 3) := by decide +kernel
theorem dX8_round_37 : decode cX8_round 37 = .ok (.aload_n 0, 1) := by decide +kernel
theorem dX8_round_38 : decode cX8_round 38 = .ok (.getfield 74, 3) := by decide +kernel
theorem dX8_round_41 : decode cX8_round 41 = .ok (.getfield 264, 3) := by decide +kernel
theorem dX8_round_44 : decode cX8_round 44 = .ok (.aload_n 0, 1) := by decide +kernel
theorem dX8_round_45 : decode cX8_round 45 = .ok (.getfield 74, 3) := by decide +kernel
theorem dX8_round_48 : decode cX8_round 48 = .ok (.invokevirtual 267, 3) := by decide +kernel
theorem dX8_round_51 : decode cX8_round 51 = .ok (.iaload, 1) := by decide +kernel
theorem dX8_round_52 : decode cX8_round 52 = .ok (.istore_n 2, 1) := by decide +kernel
theorem dX8_round_53 : decode cX8_round 53 = .ok (.iload_n 2, 1) := by decide +kernel
theorem dX8_round_54 : decode cX8_round 54 = .ok (.invokestatic 270, 3) := by decide +kernel
theorem dX8_round_57 : decode cX8_round 57 = .ok (.istore_n 3, 1) := by decide +kernel
theorem dX8_round_58 : decode cX8_round 58 = .ok (.iload_n 1, 1) := by decide +kernel
theorem dX8_round_59 : decode cX8_round 59 = .ok (.iconst (-1), 1) := by decide +kernel
theorem dX8_round_60 : decode cX8_round 60 = .ok (.if_icmp .ne 5, 3) := by decide +kernel
theorem dX8_round_63 : decode cX8_round 63 = .ok (.iload_n 3, 1) := by decide +kernel
theorem dX8_round_64 : decode cX8_round 64 = .ok (.ireturn, 1) := by decide +kernel
theorem dX8_round_65 : decode cX8_round 65 = .ok (.iload_n 1, 1) := by decide +kernel
theorem dX8_round_66 : decode cX8_round 66 = .ok (.iload_n 3, 1) := by decide +kernel
theorem dX8_round_67 : decode cX8_round 67 = .ok (.if_icmp .ge 15, 3) := by decide +kernel
theorem dX8_round_70 : decode cX8_round 70 = .ok (.iload_n 2, 1) := by decide +kernel
theorem dX8_round_71 : decode cX8_round 71 = .ok (.iload_n 3, 1) := by decide +kernel
theorem dX8_round_72 : decode cX8_round 72 = .ok (.iconst 1, 1) := by decide +kernel
theorem dX8_round_73 : decode cX8_round 73 = .ok (.isub, 1) := by decide +kernel
theorem dX8_round_74 : decode cX8_round 74 = .ok (.iload_n 1, 1) := by decide +kernel
theorem dX8_round_75 : decode cX8_round 75 = .ok (.isub, 1) := by decide +kernel
theorem dX8_round_76 : decode cX8_round 76 = .ok (.invokestatic 273, 3) := by decide +kernel
theorem dX8_round_79 : decode cX8_round 79 = .ok (.goto 4, 3) := by decide +kernel
theorem dX8_round_82 : decode cX8_round 82 = .ok (.iconst (-1), 1) := by decide +kernel
theorem dX8_round_83 : decode cX8_round 83 = .ok (.ireturn, 1) := by decide +kernel
theorem dX8_rounds_0 : decode cX8_rounds 0 = .ok (.iload_n 1, 1) := by decide +kernel
theorem dX8_rounds_1 : decode cX8_rounds 1 = .ok (.invokestatic 193, 3) := by decide +kernel
theorem dX8_rounds_4 : decode cX8_rounds 4 = .ok (.ifCond .ne 9, 3) := by decide +kernel
theorem dX8_rounds_7 : decode cX8_rounds 7 = .ok (.bipush (-2), 2) := by decide +kernel
theorem dX8_rounds_9 : decode cX8_rounds 9 = .ok (.invokestatic 196, 3) := by decide +kernel
theorem dX8_rounds_12 : decode cX8_rounds 12 = .ok (.lreturn, 1) := by decide +kernel
theorem dX8_rounds_13 : decode cX8_rounds 13 = .ok (.aload_n 0, 1) := by decide +kernel
theorem dX8_rounds_14 : decode cX8_rounds 14 = .ok (.invokevirtual 257, 3) := by decide +kernel
theorem dX8_rounds_17 : decode cX8_rounds 17 = .ok (.ifCond .eq 9, 3) := by decide +kernel
theorem dX8_rounds_20 : decode cX8_rounds 20 = .ok (.bipush (-4), 2) := by decide +kernel
theorem dX8_rounds_22 : decode cX8_rounds 22 = .ok (.invokestatic 196, 3) := by decide +kernel
theorem dX8_rounds_25 : decode cX8_rounds 25 = .ok (.lreturn, 1) := by decide +kernel
theorem dX8_rounds_26 : decode cX8_rounds 26 = .ok (.aload_n 0, 1) := by decide +kernel
theorem dX8_rounds_27 : decode cX8_rounds 27 = .ok (.getfield 74, 3) := by decide +kernel
theorem dX8_rounds_30 : decode cX8_rounds 30 = .ok (.aload_n 0, 1) := by decide +kernel
theorem dX8_rounds_31 : decode cX8_rounds 31 = .ok (.getfield 88, 3) := by decide +kernel
theorem dX8_rounds_34 : decode cX8_rounds 34 = .ok (.aload_n 0, 1) := by decide +kernel
theorem dX8_rounds_35 : decode cX8_rounds 35 = .ok (.getfield 82, 3) := by decide +kernel
theorem dX8_rounds_38 : decode cX8_rounds 38 = .ok (.aload_n 0, 1) := by decide +kernel
theorem dX8_rounds_39 : decode cX8_rounds 39 = .ok (.getfield 85, 3) := by decide +kernel
theorem dX8_rounds_42 : decode cX8_rounds 42 = .ok (.invokevirtual 261, 3) := by decide +kernel
theorem dX8_rounds_45 : decode cX8_rounds 45 = .ok (.aload_n 0, 1) := by decide +kernel
theorem dX8_rounds_46 : decode cX8_rounds 46 = .ok (.getfield 74, 3) := by decide +kernel
theorem dX8_rounds_49 : decode cX8_rounds 49 = .ok (.getfield 276, 3) := by decide +kernel
theorem dX8_rounds_52 : decode cX8_rounds 52 = .ok (.aload_n 0, 1) := by decide +kernel
theorem dX8_rounds_53 : decode cX8_rounds 53 = .ok (.getfield 74, 3) := by decide +kernel
theorem dX8_rounds_56 : decode cX8_rounds 56 = .ok (.invokevirtual 267, 3) := by decide +kernel
theorem dX8_rounds_59 : decode cX8_rounds 59 = .ok (.laload, 1) := by decide +kernel
theorem dX8_rounds_60 : decode cX8_rounds 60 = .ok (.ldc2_w 212, 3) := by decide +kernel
theorem dX8_rounds_63 : decode cX8_rounds 63 = .ok (.iload_n 1, 1) := by decide +kernel
theorem dX8_rounds_64 : decode cX8_rounds 64 = .ok (.invokestatic 214, 3) := by decide +kernel
theorem dX8_rounds_67 : decode cX8_rounds 67 = .ok (.lreturn, 1) := by decide +kernel
theorem dX8_row_0 : decode cX8_row 0 = .ok (.iload_n 1, 1) := by decide +kernel
theorem dX8_row_1 : decode cX8_row 1 = .ok (.invokestatic 136, 3) := by decide +kernel
theorem dX8_row_4 : decode cX8_row 4 = .ok (.ifCond .ne 6, 3) := by decide +kernel
theorem dX8_row_7 : decode cX8_row 7 = .ok (.bipush (-2), 2) := by decide +kernel
theorem dX8_row_9 : decode cX8_row 9 = .ok (.ireturn, 1) := by decide +kernel
theorem dX8_row_10 : decode cX8_row 10 = .ok (.aload_n 0, 1) := by decide +kernel
theorem dX8_row_11 : decode cX8_row 11 = .ok (.getfield 40, 3) := by decide +kernel
theorem dX8_row_14 : decode cX8_row 14 = .ok (.iload_n 1, 1) := by decide +kernel
theorem dX8_row_15 : decode cX8_row 15 = .ok (.invokevirtual 142, 3) := by decide +kernel
theorem dX8_row_18 : decode cX8_row 18 = .ok (.ifCond .eq 12, 3) := by decide +kernel
theorem dX8_row_21 : decode cX8_row 21 = .ok (.aload_n 0, 1) := by decide +kernel
theorem dX8_row_22 : decode cX8_row 22 = .ok (.getfield 40, 3) := by decide +kernel
theorem dX8_row_25 : decode cX8_row 25 = .ok (.iconst 1, 1) := by decide +kernel
theorem dX8_row_26 : decode cX8_row 26 = .ok (.invokevirtual 145, 3) := by decide +kernel
theorem dX8_row_29 : decode cX8_row 29 = .ok (.ireturn, 1) := by decide +kernel
theorem dX8_row_30 : decode cX8_row 30 = .ok (.aload_n 0, 1) := by decide +kernel
theorem dX8_row_31 : decode cX8_row 31 = .ok (.getfield 40, 3) := by decide +kernel
theorem dX8_row_34 : decode cX8_row 34 = .ok (.getfield 149, 3) := by decide +kernel
theorem dX8_row_37 : decode cX8_row 37 = .ok (.iload_n 1, 1) := by decide +kernel
theorem dX8_row_38 : decode cX8_row 38 = .ok (.iaload, 1) := by decide +kernel
theorem dX8_row_39 : decode cX8_row 39 = .ok (.istore_n 2, 1) := by decide +kernel
theorem dX8_row_40 : decode cX8_row 40 = .ok (.aload_n 0, 1) := by decide +kernel
theorem dX8_row_41 : decode cX8_row 41 = .ok (.getfield 40, 3) := by decide +kernel
theorem dX8_row_44 : decode cX8_row 44 = .ok (.getfield 158, 3) := by decide +kernel
theorem dX8_row_47 : decode cX8_row 47 = .ok (.iload_n 1, 1) := by decide +kernel
theorem dX8_row_48 : decode cX8_row 48 = .ok (.aaload, 1) := by decide +kernel
theorem dX8_row_49 : decode cX8_row 49 = .ok (.iload_n 2, 1) := by decide +kernel
theorem dX8_row_50 : decode cX8_row 50 = .ok (.invokestatic 175, 3) := by decide +kernel
theorem dX8_row_53 : decode cX8_row 53 = .ok (.ifCond .ne 6, 3) := by decide +kernel
theorem dX8_row_56 : decode cX8_row 56 = .ok (.bipush (-3), 2) := by decide +kernel
theorem dX8_row_58 : decode cX8_row 58 = .ok (.ireturn, 1) := by decide +kernel
theorem dX8_row_59 : decode cX8_row 59 = .ok (.iconst 0, 1) := by decide +kernel
theorem dX8_row_60 : decode cX8_row 60 = .ok (.istore_n 3, 1) := by decide +kernel
theorem dX8_row_61 : decode cX8_row 61 = .ok (.iload_n 3, 1) := by decide +kernel
theorem dX8_row_62 : decode cX8_row 62 = .ok (.iload_n 2, 1) := by decide +kernel
theorem dX8_row_63 : decode cX8_row 63 = .ok (.if_icmp .ge 26, 3) := by decide +kernel
theorem dX8_row_66 : decode cX8_row 66 = .ok (.aload_n 0, 1) := by decide +kernel
theorem dX8_row_67 : decode cX8_row 67 = .ok (.getfield 62, 3) := by decide +kernel
theorem dX8_row_70 : decode cX8_row 70 = .ok (.iload_n 3, 1) := by decide +kernel
theorem dX8_row_71 : decode cX8_row 71 = .ok (.aload_n 0, 1) := by decide +kernel
theorem dX8_row_72 : decode cX8_row 72 = .ok (.getfield 40, 3) := by decide +kernel
theorem dX8_row_75 : decode cX8_row 75 = .ok (.getfield 158, 3) := by decide +kernel
theorem dX8_row_78 : decode cX8_row 78 = .ok (.iload_n 1, 1) := by decide +kernel
theorem dX8_row_79 : decode cX8_row 79 = .ok (.aaload, 1) := by decide +kernel
theorem dX8_row_80 : decode cX8_row 80 = .ok (.iload_n 3, 1) := by decide +kernel
theorem dX8_row_81 : decode cX8_row 81 = .ok (.iaload, 1) := by decide +kernel
theorem dX8_row_82 : decode cX8_row 82 = .ok (.iastore, 1) := by decide +kernel
theorem dX8_row_83 : decode cX8_row 83 = .ok (.iinc 3 1, 3) := by decide +kernel
theorem dX8_row_86 : decode cX8_row 86 = .ok (.goto (-25), 3) := by decide +kernel
theorem dX8_row_89 : decode cX8_row 89 = .ok (.aload_n 0, 1) := by decide +kernel
theorem dX8_row_90 : decode cX8_row 90 = .ok (.iload_n 2, 1) := by decide +kernel
theorem dX8_row_91 : decode cX8_row 91 = .ok (.putfield 78, 3) := by decide +kernel
theorem dX8_row_94 : decode cX8_row 94 = .ok (.iload_n 2, 1) := by decide +kernel
theorem dX8_row_95 : decode cX8_row 95 = .ok (.ireturn, 1) := by decide +kernel
theorem dX8_set_0 : decode cX8_set 0 = .ok (.bipush (-2), 2) := by decide +kernel
theorem dX8_set_2 : decode cX8_set 2 = .ok (.istore_n 3, 1) := by decide +kernel
theorem dX8_set_3 : decode cX8_set 3 = .ok (.iload_n 1, 1) := by decide +kernel
theorem dX8_set_4 : decode cX8_set 4 = .ok (.ifCond .ne 27, 3) := by decide +kernel
theorem dX8_set_7 : decode cX8_set 7 = .ok (.iload_n 2, 1) := by decide +kernel
theorem dX8_set_8 : decode cX8_set 8 = .ok (.iconst 1, 1) := by decide +kernel
theorem dX8_set_9 : decode cX8_set 9 = .ok (.sipush 200, 3) := by decide +kernel
theorem dX8_set_12 : decode cX8_set 12 = .ok (.invokestatic 95, 3) := by decide +kernel
theorem dX8_set_15 : decode cX8_set 15 = .ok (.ifCond .eq 16, 3) := by decide +kernel
theorem dX8_set_18 : decode cX8_set 18 = .ok (.aload_n 0, 1) := by decide +kernel
theorem dX8_set_19 : decode cX8_set 19 = .ok (.getfield 82, 3) := by decide +kernel
theorem dX8_set_22 : decode cX8_set 22 = .ok (.istore_n 3, 1) := by decide +kernel
theorem dX8_set_23 : decode cX8_set 23 = .ok (.aload_n 0, 1) := by decide +kernel
theorem dX8_set_24 : decode cX8_set 24 = .ok (.iload_n 2, 1) := by decide +kernel
theorem dX8_set_25 : decode cX8_set 25 = .ok (.putfield 82, 3) := by decide +kernel
theorem dX8_set_28 : decode cX8_set 28 = .ok (.goto 56, 3) := by decide +kernel
theorem dX8_set_31 : decode cX8_set 31 = .ok (.iload_n 1, 1) := by decide +kernel
theorem dX8_set_32 : decode cX8_set 32 = .ok (.iconst 1, 1) := by decide +kernel
theorem dX8_set_33 : decode cX8_set 33 = .ok (.if_icmp .ne 26, 3) := by decide +kernel
theorem dX8_set_36 : decode cX8_set 36 = .ok (.iload_n 2, 1) := by decide +kernel
theorem dX8_set_37 : decode cX8_set 37 = .ok (.iconst 1, 1) := by decide +kernel
theorem dX8_set_38 : decode cX8_set 38 = .ok (.bipush 100, 2) := by decide +kernel
theorem dX8_set_40 : decode cX8_set 40 = .ok (.invokestatic 95, 3) := by decide +kernel
theorem dX8_set_43 : decode cX8_set 43 = .ok (.ifCond .eq 16, 3) := by decide +kernel
theorem dX8_set_46 : decode cX8_set 46 = .ok (.aload_n 0, 1) := by decide +kernel
theorem dX8_set_47 : decode cX8_set 47 = .ok (.getfield 85, 3) := by decide +kernel
theorem dX8_set_50 : decode cX8_set 50 = .ok (.istore_n 3, 1) := by decide +kernel
theorem dX8_set_51 : decode cX8_set 51 = .ok (.aload_n 0, 1) := by decide +kernel
theorem dX8_set_52 : decode cX8_set 52 = .ok (.iload_n 2, 1) := by decide +kernel
theorem dX8_set_53 : decode cX8_set 53 = .ok (.putfield 85, 3) := by decide +kernel
theorem dX8_set_56 : decode cX8_set 56 = .ok (.goto 28, 3) := by decide +kernel
theorem dX8_set_59 : decode cX8_set 59 = .ok (.iload_n 1, 1) := by decide +kernel
theorem dX8_set_60 : decode cX8_set 60 = .ok (.iconst 2, 1) := by decide +kernel
theorem dX8_set_61 : decode cX8_set 61 = .ok (.if_icmp .ne 23, 3) := by decide +kernel
theorem dX8_set_64 : decode cX8_set 64 = .ok (.iload_n 2, 1) := by decide +kernel
theorem dX8_set_65 : decode cX8_set 65 = .ok (.iconst 0, 1) := by decide +kernel
theorem dX8_set_66 : decode cX8_set 66 = .ok (.bipush 127, 2) := by decide +kernel
theorem dX8_set_68 : decode cX8_set 68 = .ok (.invokestatic 95, 3) := by decide +kernel
theorem dX8_set_71 : decode cX8_set 71 = .ok (.ifCond .eq 13, 3) := by decide +kernel
theorem dX8_set_74 : decode cX8_set 74 = .ok (.aload_n 0, 1) := by decide +kernel
theorem dX8_set_75 : decode cX8_set 75 = .ok (.getfield 88, 3) := by decide +kernel
theorem dX8_set_78 : decode cX8_set 78 = .ok (.istore_n 3, 1) := by decide +kernel
theorem dX8_set_79 : decode cX8_set 79 = .ok (.aload_n 0, 1) := by decide +kernel
theorem dX8_set_80 : decode cX8_set 80 = .ok (.iload_n 2, 1) := by decide +kernel
theorem dX8_set_81 : decode cX8_set 81 = .ok (.putfield 88, 3) := by decide +kernel
theorem dX8_set_84 : decode cX8_set 84 = .ok (.aload_n 0, 1) := by decide +kernel
theorem dX8_set_85 : decode cX8_set 85 = .ok (.getfield 74, 3) := by decide +kernel
theorem dX8_set_88 : decode cX8_set 88 = .ok (.invokevirtual 106, 3) := by decide +kernel
theorem dX8_set_91 : decode cX8_set 91 = .ok (.iload_n 3, 1) := by decide +kernel
theorem dX8_set_92 : decode cX8_set 92 = .ok (.ireturn, 1) := by decide +kernel
theorem dX8_sheet_0 : decode cX8_sheet 0 = .ok (.iload_n 1, 1) := by decide +kernel
theorem dX8_sheet_1 : decode cX8_sheet 1 = .ok (.invokestatic 136, 3) := by decide +kernel
theorem dX8_sheet_4 : decode cX8_sheet 4 = .ok (.ifCond .eq 16, 3) := by decide +kernel
theorem dX8_sheet_7 : decode cX8_sheet 7 = .ok (.iload_n 2, 1) := by decide +kernel
theorem dX8_sheet_8 : decode cX8_sheet 8 = .ok (.invokestatic 304, 3) := by decide +kernel
theorem dX8_sheet_11 : decode cX8_sheet 11 = .ok (.ifCond .eq 9, 3) := by decide +kernel
theorem dX8_sheet_14 : decode cX8_sheet 14 = .ok (.iload_n 3, 1) := by decide +kernel
theorem dX8_sheet_15 : decode cX8_sheet 15 = .ok (.bipush 40, 2) := by decide +kernel
theorem dX8_sheet_17 : decode cX8_sheet 17 = .ok (.if_icmp .le 6, 3) := by decide +kernel
theorem dX8_sheet_20 : decode cX8_sheet 20 = .ok (.bipush (-2), 2) := by decide +kernel
theorem dX8_sheet_22 : decode cX8_sheet 22 = .ok (.ireturn, 1) := by decide +kernel
theorem dX8_sheet_23 : decode cX8_sheet 23 = .ok (.iload_n 3, 1) := by decide +kernel
theorem dX8_sheet_24 : decode cX8_sheet 24 = .ok (.ifCond .ge 12, 3) := by decide +kernel
theorem dX8_sheet_27 : decode cX8_sheet 27 = .ok (.aload_n 0, 1) := by decide +kernel
theorem dX8_sheet_28 : decode cX8_sheet 28 = .ok (.getfield 40, 3) := by decide +kernel
theorem dX8_sheet_31 : decode cX8_sheet 31 = .ok (.iconst 5, 1) := by decide +kernel
theorem dX8_sheet_32 : decode cX8_sheet 32 = .ok (.invokevirtual 145, 3) := by decide +kernel
theorem dX8_sheet_35 : decode cX8_sheet 35 = .ok (.ireturn, 1) := by decide +kernel
theorem dX8_sheet_36 : decode cX8_sheet 36 = .ok (.aload_n 0, 1) := by decide +kernel
theorem dX8_sheet_37 : decode cX8_sheet 37 = .ok (.getfield 40, 3) := by decide +kernel
theorem dX8_sheet_40 : decode cX8_sheet 40 = .ok (.iload_n 1, 1) := by decide +kernel
theorem dX8_sheet_41 : decode cX8_sheet 41 = .ok (.iload_n 2, 1) := by decide +kernel
theorem dX8_sheet_42 : decode cX8_sheet 42 = .ok (.iload_n 3, 1) := by decide +kernel
theorem dX8_sheet_43 : decode cX8_sheet 43 = .ok (.invokevirtual 307, 3) := by decide +kernel
theorem dX8_sheet_46 : decode cX8_sheet 46 = .ok (.iload_n 3, 1) := by decide +kernel
theorem dX8_sheet_47 : decode cX8_sheet 47 = .ok (.ireturn, 1) := by decide +kernel
theorem dX8_shop_0 : decode cX8_shop 0 = .ok (.iload_n 1, 1) := by decide +kernel
theorem dX8_shop_1 : decode cX8_shop 1 = .ok (.invokestatic 91, 3) := by decide +kernel
theorem dX8_shop_4 : decode cX8_shop 4 = .ok (.ifCond .eq 13, 3) := by decide +kernel
theorem dX8_shop_7 : decode cX8_shop 7 = .ok (.iload_n 2, 1) := by decide +kernel
theorem dX8_shop_8 : decode cX8_shop 8 = .ok (.iconst 0, 1) := by decide +kernel
theorem dX8_shop_9 : decode cX8_shop 9 = .ok (.bipush 16, 2) := by decide +kernel
theorem dX8_shop_11 : decode cX8_shop 11 = .ok (.invokestatic 95, 3) := by decide +kernel
theorem dX8_shop_14 : decode cX8_shop 14 = .ok (.ifCond .ne 6, 3) := by decide +kernel
theorem dX8_shop_17 : decode cX8_shop 17 = .ok (.bipush (-2), 2) := by decide +kernel
theorem dX8_shop_19 : decode cX8_shop 19 = .ok (.ireturn, 1) := by decide +kernel
theorem dX8_shop_20 : decode cX8_shop 20 = .ok (.aload_n 0, 1) := by decide +kernel
theorem dX8_shop_21 : decode cX8_shop 21 = .ok (.getfield 26, 3) := by decide +kernel
theorem dX8_shop_24 : decode cX8_shop 24 = .ok (.getfield 172, 3) := by decide +kernel
theorem dX8_shop_27 : decode cX8_shop 27 = .ok (.iload_n 1, 1) := by decide +kernel
theorem dX8_shop_28 : decode cX8_shop 28 = .ok (.iaload, 1) := by decide +kernel
theorem dX8_shop_29 : decode cX8_shop 29 = .ok (.istore_n 3, 1) := by decide +kernel
theorem dX8_shop_30 : decode cX8_shop 30 = .ok (.aload_n 0, 1) := by decide +kernel
theorem dX8_shop_31 : decode cX8_shop 31 = .ok (.getfield 26, 3) := by decide +kernel
theorem dX8_shop_34 : decode cX8_shop 34 = .ok (.getfield 172, 3) := by decide +kernel
theorem dX8_shop_37 : decode cX8_shop 37 = .ok (.iload_n 1, 1) := by decide +kernel
theorem dX8_shop_38 : decode cX8_shop 38 = .ok (.iload_n 2, 1) := by decide +kernel
theorem dX8_shop_39 : decode cX8_shop 39 = .ok (.iastore, 1) := by decide +kernel
theorem dX8_shop_40 : decode cX8_shop 40 = .ok (.aload_n 0, 1) := by decide +kernel
theorem dX8_shop_41 : decode cX8_shop 41 = .ok (.getfield 74, 3) := by decide +kernel
theorem dX8_shop_44 : decode cX8_shop 44 = .ok (.invokevirtual 106, 3) := by decide +kernel
theorem dX8_shop_47 : decode cX8_shop 47 = .ok (.iload_n 3, 1) := by decide +kernel
theorem dX8_shop_48 : decode cX8_shop 48 = .ok (.ireturn, 1) := by decide +kernel
theorem dX8_sold_0 : decode cX8_sold 0 = .ok (.iload_n 1, 1) := by decide +kernel
theorem dX8_sold_1 : decode cX8_sold 1 = .ok (.invokestatic 91, 3) := by decide +kernel
theorem dX8_sold_4 : decode cX8_sold 4 = .ok (.ifCond .eq 35, 3) := by decide +kernel
theorem dX8_sold_7 : decode cX8_sold 7 = .ok (.iload_n 2, 1) := by decide +kernel
theorem dX8_sold_8 : decode cX8_sold 8 = .ok (.invokestatic 190, 3) := by decide +kernel
theorem dX8_sold_11 : decode cX8_sold 11 = .ok (.ifCond .eq 28, 3) := by decide +kernel
theorem dX8_sold_14 : decode cX8_sold 14 = .ok (.iload_n 3, 1) := by decide +kernel
theorem dX8_sold_15 : decode cX8_sold 15 = .ok (.invokestatic 165, 3) := by decide +kernel
theorem dX8_sold_18 : decode cX8_sold 18 = .ok (.ifCond .eq 21, 3) := by decide +kernel
theorem dX8_sold_21 : decode cX8_sold 21 = .ok (.iload 4, 2) := by decide +kernel
theorem dX8_sold_23 : decode cX8_sold 23 = .ok (.iconst (-1), 1) := by decide +kernel
theorem dX8_sold_24 : decode cX8_sold 24 = .ok (.iconst 4, 1) := by decide +kernel
theorem dX8_sold_25 : decode cX8_sold 25 = .ok (.invokestatic 95, 3) := by decide +kernel
theorem dX8_sold_28 : decode cX8_sold 28 = .ok (.ifCond .eq 11, 3) := by decide +kernel
theorem dX8_sold_31 : decode cX8_sold 31 = .ok (.iload 5, 2) := by decide +kernel
theorem dX8_sold_33 : decode cX8_sold 33 = .ok (.invokestatic 193, 3) := by decide +kernel
theorem dX8_sold_36 : decode cX8_sold 36 = .ok (.ifCond .ne 9, 3) := by decide +kernel
theorem dX8_sold_39 : decode cX8_sold 39 = .ok (.bipush (-2), 2) := by decide +kernel
theorem dX8_sold_41 : decode cX8_sold 41 = .ok (.invokestatic 196, 3) := by decide +kernel
theorem dX8_sold_44 : decode cX8_sold 44 = .ok (.lreturn, 1) := by decide +kernel
theorem dX8_sold_45 : decode cX8_sold 45 = .ok (.aload_n 0, 1) := by decide +kernel
theorem dX8_sold_46 : decode cX8_sold 46 = .ok (.getfield 49, 3) := by decide +kernel
theorem dX8_sold_49 : decode cX8_sold 49 = .ok (.iload_n 1, 1) := by decide +kernel
theorem dX8_sold_50 : decode cX8_sold 50 = .ok (.iload_n 2, 1) := by decide +kernel
theorem dX8_sold_51 : decode cX8_sold 51 = .ok (.iload_n 3, 1) := by decide +kernel
theorem dX8_sold_52 : decode cX8_sold 52 = .ok (.aload_n 0, 1) := by decide +kernel
theorem dX8_sold_53 : decode cX8_sold 53 = .ok (.getfield 62, 3) := by decide +kernel
theorem dX8_sold_56 : decode cX8_sold 56 = .ok (.aload_n 0, 1) := by decide +kernel
theorem dX8_sold_57 : decode cX8_sold 57 = .ok (.getfield 78, 3) := by decide +kernel
theorem dX8_sold_60 : decode cX8_sold 60 = .ok (.invokevirtual 200, 3) := by decide +kernel
theorem dX8_sold_63 : decode cX8_sold 63 = .ok (.iload 4, 2) := by decide +kernel
theorem dX8_sold_65 : decode cX8_sold 65 = .ok (.iconst (-1), 1) := by decide +kernel
theorem dX8_sold_66 : decode cX8_sold 66 = .ok (.if_icmp .ne 13, 3) := by decide +kernel
theorem dX8_sold_69 : decode cX8_sold 69 = .ok (.aload_n 0, 1) := by decide +kernel
theorem dX8_sold_70 : decode cX8_sold 70 = .ok (.getfield 49, 3) := by decide +kernel
theorem dX8_sold_73 : decode cX8_sold 73 = .ok (.invokevirtual 204, 3) := by decide +kernel
theorem dX8_sold_76 : decode cX8_sold 76 = .ok (.goto 13, 3) := by decide +kernel
theorem dX8_sold_79 : decode cX8_sold 79 = .ok (.aload_n 0, 1) := by decide +kernel
theorem dX8_sold_80 : decode cX8_sold 80 = .ok (.getfield 49, 3) := by decide +kernel
theorem dX8_sold_83 : decode cX8_sold 83 = .ok (.getfield 208, 3) := by decide +kernel
theorem dX8_sold_86 : decode cX8_sold 86 = .ok (.iload 4, 2) := by decide +kernel
theorem dX8_sold_88 : decode cX8_sold 88 = .ok (.laload, 1) := by decide +kernel
theorem dX8_sold_89 : decode cX8_sold 89 = .ok (.ldc2_w 212, 3) := by decide +kernel
theorem dX8_sold_92 : decode cX8_sold 92 = .ok (.iload 5, 2) := by decide +kernel
theorem dX8_sold_94 : decode cX8_sold 94 = .ok (.invokestatic 214, 3) := by decide +kernel
theorem dX8_sold_97 : decode cX8_sold 97 = .ok (.lreturn, 1) := by decide +kernel
theorem dX8_straps_0 : decode cX8_straps 0 = .ok (.aload_n 0, 1) := by decide +kernel
theorem dX8_straps_1 : decode cX8_straps 1 = .ok (.invokevirtual 230, 3) := by decide +kernel
theorem dX8_straps_4 : decode cX8_straps 4 = .ok (.aload_n 0, 1) := by decide +kernel
theorem dX8_straps_5 : decode cX8_straps 5 = .ok (.getfield 58, 3) := by decide +kernel
theorem dX8_straps_8 : decode cX8_straps 8 = .ok (.aload_n 0, 1) := by decide +kernel
theorem dX8_straps_9 : decode cX8_straps 9 = .ok (.getfield 85, 3) := by decide +kernel
theorem dX8_straps_12 : decode cX8_straps 12 = .ok (.invokevirtual 237, 3) := by decide +kernel
theorem dX8_straps_15 : decode cX8_straps 15 = .ok (.aload_n 0, 1) := by decide +kernel
theorem dX8_straps_16 : decode cX8_straps 16 = .ok (.getfield 58, 3) := by decide +kernel
theorem dX8_straps_19 : decode cX8_straps 19 = .ok (.aload_n 0, 1) := by decide +kernel
theorem dX8_straps_20 : decode cX8_straps 20 = .ok (.getfield 85, 3) := by decide +kernel
theorem dX8_straps_23 : decode cX8_straps 23 = .ok (.invokevirtual 301, 3) := by decide +kernel
theorem dX8_straps_26 : decode cX8_straps 26 = .ok (.ireturn, 1) := by decide +kernel
theorem dX8_thing_0 : decode cX8_thing 0 = .ok (.iload_n 1, 1) := by decide +kernel
theorem dX8_thing_1 : decode cX8_thing 1 = .ok (.invokestatic 91, 3) := by decide +kernel
theorem dX8_thing_4 : decode cX8_thing 4 = .ok (.ifCond .eq 25, 3) := by decide +kernel
theorem dX8_thing_7 : decode cX8_thing 7 = .ok (.iload_n 2, 1) := by decide +kernel
theorem dX8_thing_8 : decode cX8_thing 8 = .ok (.iconst 0, 1) := by decide +kernel
theorem dX8_thing_9 : decode cX8_thing 9 = .ok (.iconst 5, 1) := by decide +kernel
theorem dX8_thing_10 : decode cX8_thing 10 = .ok (.invokestatic 95, 3) := by decide +kernel
theorem dX8_thing_13 : decode cX8_thing 13 = .ok (.ifCond .eq 16, 3) := by decide +kernel
theorem dX8_thing_16 : decode cX8_thing 16 = .ok (.aload_n 0, 1) := by decide +kernel
theorem dX8_thing_17 : decode cX8_thing 17 = .ok (.getfield 12, 3) := by decide +kernel
theorem dX8_thing_20 : decode cX8_thing 20 = .ok (.iload_n 1, 1) := by decide +kernel
theorem dX8_thing_21 : decode cX8_thing 21 = .ok (.iload_n 2, 1) := by decide +kernel
theorem dX8_thing_22 : decode cX8_thing 22 = .ok (.iload_n 3, 1) := by decide +kernel
theorem dX8_thing_23 : decode cX8_thing 23 = .ok (.invokevirtual 99, 3) := by decide +kernel
theorem dX8_thing_26 : decode cX8_thing 26 = .ok (.ifCond .ne 6, 3) := by decide +kernel
theorem dX8_thing_29 : decode cX8_thing 29 = .ok (.bipush (-2), 2) := by decide +kernel
theorem dX8_thing_31 : decode cX8_thing 31 = .ok (.ireturn, 1) := by decide +kernel
theorem dX8_thing_32 : decode cX8_thing 32 = .ok (.aload_n 0, 1) := by decide +kernel
theorem dX8_thing_33 : decode cX8_thing 33 = .ok (.getfield 12, 3) := by decide +kernel
theorem dX8_thing_36 : decode cX8_thing 36 = .ok (.getfield 102, 3) := by decide +kernel
theorem dX8_thing_39 : decode cX8_thing 39 = .ok (.iload_n 1, 1) := by decide +kernel
theorem dX8_thing_40 : decode cX8_thing 40 = .ok (.aaload, 1) := by decide +kernel
theorem dX8_thing_41 : decode cX8_thing 41 = .ok (.iload_n 2, 1) := by decide +kernel
theorem dX8_thing_42 : decode cX8_thing 42 = .ok (.iaload, 1) := by decide +kernel
theorem dX8_thing_43 : decode cX8_thing 43 = .ok (.istore 4, 2) := by decide +kernel
theorem dX8_thing_45 : decode cX8_thing 45 = .ok (.aload_n 0, 1) := by decide +kernel
theorem dX8_thing_46 : decode cX8_thing 46 = .ok (.getfield 12, 3) := by decide +kernel
theorem dX8_thing_49 : decode cX8_thing 49 = .ok (.getfield 102, 3) := by decide +kernel
theorem dX8_thing_52 : decode cX8_thing 52 = .ok (.iload_n 1, 1) := by decide +kernel
theorem dX8_thing_53 : decode cX8_thing 53 = .ok (.aaload, 1) := by decide +kernel
theorem dX8_thing_54 : decode cX8_thing 54 = .ok (.iload_n 2, 1) := by decide +kernel
theorem dX8_thing_55 : decode cX8_thing 55 = .ok (.iload_n 3, 1) := by decide +kernel
theorem dX8_thing_56 : decode cX8_thing 56 = .ok (.iastore, 1) := by decide +kernel
theorem dX8_thing_57 : decode cX8_thing 57 = .ok (.aload_n 0, 1) := by decide +kernel
theorem dX8_thing_58 : decode cX8_thing 58 = .ok (.getfield 74, 3) := by decide +kernel
theorem dX8_thing_61 : decode cX8_thing 61 = .ok (.invokevirtual 106, 3) := by decide +kernel
theorem dX8_thing_64 : decode cX8_thing 64 = .ok (.iload 4, 2) := by decide +kernel
theorem dX8_thing_66 : decode cX8_thing 66 = .ok (.ireturn, 1) := by decide +kernel
theorem dX8_trust_0 : decode cX8_trust 0 = .ok (.iload_n 1, 1) := by decide +kernel
theorem dX8_trust_1 : decode cX8_trust 1 = .ok (.invokestatic 91, 3) := by decide +kernel
theorem dX8_trust_4 : decode cX8_trust 4 = .ok (.ifCond .eq 45, 3) := by decide +kernel
theorem dX8_trust_7 : decode cX8_trust 7 = .ok (.iload_n 2, 1) := by decide +kernel
theorem dX8_trust_8 : decode cX8_trust 8 = .ok (.iconst 0, 1) := by decide +kernel
theorem dX8_trust_9 : decode cX8_trust 9 = .ok (.aload_n 0, 1) := by decide +kernel
theorem dX8_trust_10 : decode cX8_trust 10 = .ok (.getfield 78, 3) := by decide +kernel
theorem dX8_trust_13 : decode cX8_trust 13 = .ok (.iconst 1, 1) := by decide +kernel
theorem dX8_trust_14 : decode cX8_trust 14 = .ok (.isub, 1) := by decide +kernel
theorem dX8_trust_15 : decode cX8_trust 15 = .ok (.invokestatic 95, 3) := by decide +kernel
theorem dX8_trust_18 : decode cX8_trust 18 = .ok (.ifCond .eq 31, 3) := by decide +kernel
theorem dX8_trust_21 : decode cX8_trust 21 = .ok (.iload_n 3, 1) := by decide +kernel
theorem dX8_trust_22 : decode cX8_trust 22 = .ok (.iconst 1, 1) := by decide +kernel
theorem dX8_trust_23 : decode cX8_trust 23 = .ok (.iconst 4, 1) := by decide +kernel
theorem dX8_trust_24 : decode cX8_trust 24 = .ok (.invokestatic 95, 3) := by decide +kernel
theorem dX8_trust_27 : decode cX8_trust 27 = .ok (.ifCond .eq 22, 3) := by decide +kernel
theorem dX8_trust_30 : decode cX8_trust 30 = .ok (.iload 4, 2) := by decide +kernel
theorem dX8_trust_32 : decode cX8_trust 32 = .ok (.invokestatic 165, 3) := by decide +kernel
theorem dX8_trust_35 : decode cX8_trust 35 = .ok (.ifCond .eq 14, 3) := by decide +kernel
theorem dX8_trust_38 : decode cX8_trust 38 = .ok (.iload 5, 2) := by decide +kernel
theorem dX8_trust_40 : decode cX8_trust 40 = .ok (.iconst 0, 1) := by decide +kernel
theorem dX8_trust_41 : decode cX8_trust 41 = .ok (.bipush 16, 2) := by decide +kernel
theorem dX8_trust_43 : decode cX8_trust 43 = .ok (.invokestatic 95, 3) := by decide +kernel
theorem dX8_trust_46 : decode cX8_trust 46 = .ok (.ifCond .ne 6, 3) := by decide +kernel
theorem dX8_trust_49 : decode cX8_trust 49 = .ok (.bipush (-2), 2) := by decide +kernel
theorem dX8_trust_51 : decode cX8_trust 51 = .ok (.ireturn, 1) := by decide +kernel
theorem dX8_trust_52 : decode cX8_trust 52 = .ok (.aload_n 0, 1) := by decide +kernel
theorem dX8_trust_53 : decode cX8_trust 53 = .ok (.getfield 49, 3) := by decide +kernel
theorem dX8_trust_56 : decode cX8_trust 56 = .ok (.aload_n 0, 1) := by decide +kernel
theorem dX8_trust_57 : decode cX8_trust 57 = .ok (.getfield 62, 3) := by decide +kernel
theorem dX8_trust_60 : decode cX8_trust 60 = .ok (.aload_n 0, 1) := by decide +kernel
theorem dX8_trust_61 : decode cX8_trust 61 = .ok (.getfield 78, 3) := by decide +kernel
theorem dX8_trust_64 : decode cX8_trust 64 = .ok (.invokevirtual 218, 3) := by decide +kernel
theorem dX8_trust_67 : decode cX8_trust 67 = .ok (.aload_n 0, 1) := by decide +kernel
theorem dX8_trust_68 : decode cX8_trust 68 = .ok (.getfield 78, 3) := by decide +kernel
theorem dX8_trust_71 : decode cX8_trust 71 = .ok (.iload_n 2, 1) := by decide +kernel
theorem dX8_trust_72 : decode cX8_trust 72 = .ok (.isub, 1) := by decide +kernel
theorem dX8_trust_73 : decode cX8_trust 73 = .ok (.istore 6, 2) := by decide +kernel
theorem dX8_trust_75 : decode cX8_trust 75 = .ok (.iload_n 1, 1) := by decide +kernel
theorem dX8_trust_76 : decode cX8_trust 76 = .ok (.iconst 5, 1) := by decide +kernel
theorem dX8_trust_77 : decode cX8_trust 77 = .ok (.imul, 1) := by decide +kernel
theorem dX8_trust_78 : decode cX8_trust 78 = .ok (.iload_n 3, 1) := by decide +kernel
theorem dX8_trust_79 : decode cX8_trust 79 = .ok (.iadd, 1) := by decide +kernel
theorem dX8_trust_80 : decode cX8_trust 80 = .ok (.istore 7, 2) := by decide +kernel
theorem dX8_trust_82 : decode cX8_trust 82 = .ok (.iload 5, 2) := by decide +kernel
theorem dX8_trust_84 : decode cX8_trust 84 = .ok (.aload_n 0, 1) := by decide +kernel
theorem dX8_trust_85 : decode cX8_trust 85 = .ok (.getfield 12, 3) := by decide +kernel
theorem dX8_trust_88 : decode cX8_trust 88 = .ok (.getfield 102, 3) := by decide +kernel
theorem dX8_trust_91 : decode cX8_trust 91 = .ok (.iload_n 1, 1) := by decide +kernel
theorem dX8_trust_92 : decode cX8_trust 92 = .ok (.aaload, 1) := by decide +kernel
theorem dX8_trust_93 : decode cX8_trust 93 = .ok (.iconst 3, 1) := by decide +kernel
theorem dX8_trust_94 : decode cX8_trust 94 = .ok (.iload 4, 2) := by decide +kernel
theorem dX8_trust_96 : decode cX8_trust 96 = .ok (.iadd, 1) := by decide +kernel
theorem dX8_trust_97 : decode cX8_trust 97 = .ok (.iaload, 1) := by decide +kernel
theorem dX8_trust_98 : decode cX8_trust 98 = .ok (.imul, 1) := by decide +kernel
theorem dX8_trust_99 : decode cX8_trust 99 = .ok (.i2l, 1) := by decide +kernel
theorem dX8_trust_100 : decode cX8_trust 100 = .ok (.ldc2_w 283, 3) := by decide +kernel
theorem dX8_trust_103 : decode cX8_trust 103 = .ok (.lmul, 1) := by decide +kernel
theorem dX8_trust_104 : decode cX8_trust 104 = .ok (.lstore 8, 2) := by decide +kernel
theorem dX8_trust_106 : decode cX8_trust 106 = .ok (.lload 8, 2) := by decide +kernel
theorem dX8_trust_108 : decode cX8_trust 108 = .ok (.aload_n 0, 1) := by decide +kernel
theorem dX8_trust_109 : decode cX8_trust 109 = .ok (.getfield 49, 3) := by decide +kernel
theorem dX8_trust_112 : decode cX8_trust 112 = .ok (.getfield 226, 3) := by decide +kernel
theorem dX8_trust_115 : decode cX8_trust 115 = .ok (.iload 6, 2) := by decide +kernel
theorem dX8_trust_117 : decode cX8_trust 117 = .ok (.iconst 1, 1) := by decide +kernel
theorem dX8_trust_118 : decode cX8_trust 118 = .ok (.isub, 1) := by decide +kernel
theorem dX8_trust_119 : decode cX8_trust 119 = .ok (.aaload, 1) := by decide +kernel
theorem dX8_trust_120 : decode cX8_trust 120 = .ok (.iload 7, 2) := by decide +kernel
theorem dX8_trust_122 : decode cX8_trust 122 = .ok (.iconst 1, 1) := by decide +kernel
theorem dX8_trust_123 : decode cX8_trust 123 = .ok (.isub, 1) := by decide +kernel
theorem dX8_trust_124 : decode cX8_trust 124 = .ok (.laload, 1) := by decide +kernel
theorem dX8_trust_125 : decode cX8_trust 125 = .ok (.ladd, 1) := by decide +kernel
theorem dX8_trust_126 : decode cX8_trust 126 = .ok (.aload_n 0, 1) := by decide +kernel
theorem dX8_trust_127 : decode cX8_trust 127 = .ok (.getfield 49, 3) := by decide +kernel
theorem dX8_trust_130 : decode cX8_trust 130 = .ok (.getfield 226, 3) := by decide +kernel
theorem dX8_trust_133 : decode cX8_trust 133 = .ok (.iload 6, 2) := by decide +kernel
theorem dX8_trust_135 : decode cX8_trust 135 = .ok (.aaload, 1) := by decide +kernel
theorem dX8_trust_136 : decode cX8_trust 136 = .ok (.iload 7, 2) := by decide +kernel
theorem dX8_trust_138 : decode cX8_trust 138 = .ok (.laload, 1) := by decide +kernel
theorem dX8_trust_139 : decode cX8_trust 139 = .ok (.lcmp, 1) := by decide +kernel
theorem dX8_trust_140 : decode cX8_trust 140 = .ok (.ifCond .le 7, 3) := by decide +kernel
theorem dX8_trust_143 : decode cX8_trust 143 = .ok (.iconst 1, 1) := by decide +kernel
theorem dX8_trust_144 : decode cX8_trust 144 = .ok (.goto 4, 3) := by decide +kernel
theorem dX8_trust_147 : decode cX8_trust 147 = .ok (.iconst 0, 1) := by decide +kernel
theorem dX8_trust_148 : decode cX8_trust 148 = .ok (.ireturn, 1) := by decide +kernel
theorem dX8_two_0 : decode cX8_two 0 = .ok (.iload_n 1, 1) := by decide +kernel
theorem dX8_two_1 : decode cX8_two 1 = .ok (.iconst 0, 1) := by decide +kernel
theorem dX8_two_2 : decode cX8_two 2 = .ok (.iconst 1, 1) := by decide +kernel
theorem dX8_two_3 : decode cX8_two 3 = .ok (.invokestatic 95, 3) := by decide +kernel
theorem dX8_two_6 : decode cX8_two 6 = .ok (.ifCond .ne 6, 3) := by decide +kernel
theorem dX8_two_9 : decode cX8_two 9 = .ok (.bipush (-2), 2) := by decide +kernel
theorem dX8_two_11 : decode cX8_two 11 = .ok (.ireturn, 1) := by decide +kernel
theorem dX8_two_12 : decode cX8_two 12 = .ok (.aload_n 0, 1) := by decide +kernel
theorem dX8_two_13 : decode cX8_two 13 = .ok (.invokevirtual 257, 3) := by decide +kernel
theorem dX8_two_16 : decode cX8_two 16 = .ok (.ifCond .eq 6, 3) := by decide +kernel
theorem dX8_two_19 : decode cX8_two 19 = .ok (.bipush (-4), 2) := by decide +kernel
theorem dX8_two_21 : decode cX8_two 21 = .ok (.ireturn, 1) := by decide +kernel
theorem dX8_two_22 : decode cX8_two 22 = .ok (.aload_n 0, 1) := by decide +kernel
theorem dX8_two_23 : decode cX8_two 23 = .ok (.getfield 74, 3) := by decide +kernel
theorem dX8_two_26 : decode cX8_two 26 = .ok (.aload_n 0, 1) := by decide +kernel
theorem dX8_two_27 : decode cX8_two 27 = .ok (.getfield 88, 3) := by decide +kernel
theorem dX8_two_30 : decode cX8_two 30 = .ok (.aload_n 0, 1) := by decide +kernel
theorem dX8_two_31 : decode cX8_two 31 = .ok (.getfield 82, 3) := by decide +kernel
theorem dX8_two_34 : decode cX8_two 34 = .ok (.aload_n 0, 1) := by decide +kernel
theorem dX8_two_35 : decode cX8_two 35 = .ok (.getfield 85, 3) := by decide +kernel
theorem dX8_two_38 : decode cX8_two 38 = .ok (.invokevirtual 261, 3) := by decide +kernel
theorem dX8_two_41 : decode cX8_two 41 = .ok (.aload_n 0, 1) := by decide +kernel
theorem dX8_two_42 : decode cX8_two 42 = .ok (.getfield 74, 3) := by decide +kernel
theorem dX8_two_45 : decode cX8_two 45 = .ok (.aload_n 0, 1) := by decide +kernel
theorem dX8_two_46 : decode cX8_two 46 = .ok (.getfield 88, 3) := by decide +kernel
theorem dX8_two_49 : decode cX8_two 49 = .ok (.invokevirtual 285, 3) := by decide +kernel
theorem dX8_two_52 : decode cX8_two 52 = .ok (.iload_n 1, 1) := by decide +kernel
theorem dX8_two_53 : decode cX8_two 53 = .ok (.ifCond .ne 13, 3) := by decide +kernel
theorem dX8_two_56 : decode cX8_two 56 = .ok (.aload_n 0, 1) := by decide +kernel
theorem dX8_two_57 : decode cX8_two 57 = .ok (.getfield 74, 3) := by decide +kernel
theorem dX8_two_60 : decode cX8_two 60 = .ok (.getfield 288, 3) := by decide +kernel
theorem dX8_two_63 : decode cX8_two 63 = .ok (.goto 10, 3) := by decide +kernel
theorem dX8_two_66 : decode cX8_two 66 = .ok (.aload_n 0, 1) := by decide +kernel
theorem dX8_two_67 : decode cX8_two 67 = .ok (.getfield 74, 3) := by decide +kernel
theorem dX8_two_70 : decode cX8_two 70 = .ok (.getfield 291, 3) := by decide +kernel
theorem dX8_two_73 : decode cX8_two 73 = .ok (.ireturn, 1) := by decide +kernel
theorem dX8_type_0 : decode cX8_type 0 = .ok (.iload_n 1, 1) := by decide +kernel
theorem dX8_type_1 : decode cX8_type 1 = .ok (.iconst 0, 1) := by decide +kernel
theorem dX8_type_2 : decode cX8_type 2 = .ok (.sipush 255, 3) := by decide +kernel
theorem dX8_type_5 : decode cX8_type 5 = .ok (.invokestatic 95, 3) := by decide +kernel
theorem dX8_type_8 : decode cX8_type 8 = .ok (.ifCond .ne 6, 3) := by decide +kernel
theorem dX8_type_11 : decode cX8_type 11 = .ok (.bipush (-2), 2) := by decide +kernel
theorem dX8_type_13 : decode cX8_type 13 = .ok (.ireturn, 1) := by decide +kernel
theorem dX8_type_14 : decode cX8_type 14 = .ok (.aload_n 0, 1) := by decide +kernel
theorem dX8_type_15 : decode cX8_type 15 = .ok (.getfield 33, 3) := by decide +kernel
theorem dX8_type_18 : decode cX8_type 18 = .ok (.iload_n 1, 1) := by decide +kernel
theorem dX8_type_19 : decode cX8_type 19 = .ok (.invokevirtual 122, 3) := by decide +kernel
theorem dX8_type_22 : decode cX8_type 22 = .ok (.ifCond .eq 13, 3) := by decide +kernel
theorem dX8_type_25 : decode cX8_type 25 = .ok (.aload_n 0, 1) := by decide +kernel
theorem dX8_type_26 : decode cX8_type 26 = .ok (.getfield 33, 3) := by decide +kernel
theorem dX8_type_29 : decode cX8_type 29 = .ok (.getfield 125, 3) := by decide +kernel
theorem dX8_type_32 : decode cX8_type 32 = .ok (.goto 5, 3) := by decide +kernel
theorem dX8_type_35 : decode cX8_type 35 = .ok (.bipush (-4), 2) := by decide +kernel
theorem dX8_type_37 : decode cX8_type 37 = .ok (.ireturn, 1) := by decide +kernel
theorem dX8_value_0 : decode cX8_value 0 = .ok (.iload_n 1, 1) := by decide +kernel
theorem dX8_value_1 : decode cX8_value 1 = .ok (.invokestatic 91, 3) := by decide +kernel
theorem dX8_value_4 : decode cX8_value 4 = .ok (.ifCond .eq 30, 3) := by decide +kernel
theorem dX8_value_7 : decode cX8_value 7 = .ok (.iload_n 2, 1) := by decide +kernel
theorem dX8_value_8 : decode cX8_value 8 = .ok (.iconst 0, 1) := by decide +kernel
theorem dX8_value_9 : decode cX8_value 9 = .ok (.aload_n 0, 1) := by decide +kernel
theorem dX8_value_10 : decode cX8_value 10 = .ok (.getfield 78, 3) := by decide +kernel
theorem dX8_value_13 : decode cX8_value 13 = .ok (.invokestatic 95, 3) := by decide +kernel
theorem dX8_value_16 : decode cX8_value 16 = .ok (.ifCond .eq 18, 3) := by decide +kernel
theorem dX8_value_19 : decode cX8_value 19 = .ok (.iload_n 3, 1) := by decide +kernel
theorem dX8_value_20 : decode cX8_value 20 = .ok (.invokestatic 190, 3) := by decide +kernel
theorem dX8_value_23 : decode cX8_value 23 = .ok (.ifCond .eq 11, 3) := by decide +kernel
theorem dX8_value_26 : decode cX8_value 26 = .ok (.iload 4, 2) := by decide +kernel
theorem dX8_value_28 : decode cX8_value 28 = .ok (.invokestatic 193, 3) := by decide +kernel
theorem dX8_value_31 : decode cX8_value 31 = .ok (.ifCond .ne 9, 3) := by decide +kernel
theorem dX8_value_34 : decode cX8_value 34 = .ok (.bipush (-2), 2) := by decide +kernel
theorem dX8_value_36 : decode cX8_value 36 = .ok (.invokestatic 196, 3) := by decide +kernel
theorem dX8_value_39 : decode cX8_value 39 = .ok (.lreturn, 1) := by decide +kernel
theorem dX8_value_40 : decode cX8_value 40 = .ok (.aload_n 0, 1) := by decide +kernel
theorem dX8_value_41 : decode cX8_value 41 = .ok (.getfield 49, 3) := by decide +kernel
theorem dX8_value_44 : decode cX8_value 44 = .ok (.aload_n 0, 1) := by decide +kernel
theorem dX8_value_45 : decode cX8_value 45 = .ok (.getfield 62, 3) := by decide +kernel
theorem dX8_value_48 : decode cX8_value 48 = .ok (.aload_n 0, 1) := by decide +kernel
theorem dX8_value_49 : decode cX8_value 49 = .ok (.getfield 78, 3) := by decide +kernel
theorem dX8_value_52 : decode cX8_value 52 = .ok (.invokevirtual 218, 3) := by decide +kernel
theorem dX8_value_55 : decode cX8_value 55 = .ok (.aload_n 0, 1) := by decide +kernel
theorem dX8_value_56 : decode cX8_value 56 = .ok (.getfield 49, 3) := by decide +kernel
theorem dX8_value_59 : decode cX8_value 59 = .ok (.getfield 226, 3) := by decide +kernel
theorem dX8_value_62 : decode cX8_value 62 = .ok (.aload_n 0, 1) := by decide +kernel
theorem dX8_value_63 : decode cX8_value 63 = .ok (.getfield 78, 3) := by decide +kernel
theorem dX8_value_66 : decode cX8_value 66 = .ok (.iload_n 2, 1) := by decide +kernel
theorem dX8_value_67 : decode cX8_value 67 = .ok (.isub, 1) := by decide +kernel
theorem dX8_value_68 : decode cX8_value 68 = .ok (.aaload, 1) := by decide +kernel
theorem dX8_value_69 : decode cX8_value 69 = .ok (.iload_n 1, 1) := by decide +kernel
theorem dX8_value_70 : decode cX8_value 70 = .ok (.iconst 5, 1) := by decide +kernel
theorem dX8_value_71 : decode cX8_value 71 = .ok (.imul, 1) := by decide +kernel
theorem dX8_value_72 : decode cX8_value 72 = .ok (.iload_n 3, 1) := by decide +kernel
theorem dX8_value_73 : decode cX8_value 73 = .ok (.iadd, 1) := by decide +kernel
theorem dX8_value_74 : decode cX8_value 74 = .ok (.laload, 1) := by decide +kernel
theorem dX8_value_75 : decode cX8_value 75 = .ok (.ldc2_w 212, 3) := by decide +kernel
theorem dX8_value_78 : decode cX8_value 78 = .ok (.iload 4, 2) := by decide +kernel
theorem dX8_value_80 : decode cX8_value 80 = .ok (.invokestatic 214, 3) := by decide +kernel
theorem dX8_value_83 : decode cX8_value 83 = .ok (.lreturn, 1) := by decide +kernel
theorem dX8_wants_0 : decode cX8_wants 0 = .ok (.aload_n 0, 1) := by decide +kernel
theorem dX8_wants_1 : decode cX8_wants 1 = .ok (.getfield 33, 3) := by decide +kernel
theorem dX8_wants_4 : decode cX8_wants 4 = .ok (.invokevirtual 128, 3) := by decide +kernel
theorem dX8_wants_7 : decode cX8_wants 7 = .ok (.iconst (-1), 1) := by decide +kernel
theorem dX8_wants_8 : decode cX8_wants 8 = .ok (.if_icmp .eq 6, 3) := by decide +kernel
theorem dX8_wants_11 : decode cX8_wants 11 = .ok (.bipush (-3), 2) := by decide +kernel
theorem dX8_wants_13 : decode cX8_wants 13 = .ok (.ireturn, 1) := by decide +kernel
theorem dX8_wants_14 : decode cX8_wants 14 = .ok (.aload_n 0, 1) := by decide +kernel
theorem dX8_wants_15 : decode cX8_wants 15 = .ok (.getfield 33, 3) := by decide +kernel
theorem dX8_wants_18 : decode cX8_wants 18 = .ok (.aload_n 0, 1) := by decide +kernel
theorem dX8_wants_19 : decode cX8_wants 19 = .ok (.getfield 26, 3) := by decide +kernel
theorem dX8_wants_22 : decode cX8_wants 22 = .ok (.invokevirtual 132, 3) := by decide +kernel
theorem dX8_wants_25 : decode cX8_wants 25 = .ok (.istore_n 1, 1) := by decide +kernel
theorem dX8_wants_26 : decode cX8_wants 26 = .ok (.aload_n 0, 1) := by decide +kernel
theorem dX8_wants_27 : decode cX8_wants 27 = .ok (.getfield 33, 3) := by decide +kernel
theorem dX8_wants_30 : decode cX8_wants 30 = .ok (.iconst 0, 1) := by decide +kernel
theorem dX8_wants_31 : decode cX8_wants 31 = .ok (.putfield 125, 3) := by decide +kernel
theorem dX8_wants_34 : decode cX8_wants 34 = .ok (.aload_n 0, 1) := by decide +kernel
theorem dX8_wants_35 : decode cX8_wants 35 = .ok (.getfield 74, 3) := by decide +kernel
theorem dX8_wants_38 : decode cX8_wants 38 = .ok (.invokevirtual 106, 3) := by decide +kernel
theorem dX8_wants_41 : decode cX8_wants 41 = .ok (.iload_n 1, 1) := by decide +kernel
theorem dX8_wants_42 : decode cX8_wants 42 = .ok (.ireturn, 1) := by decide +kernel
theorem dX8_way_0 : decode cX8_way 0 = .ok (.iload_n 1, 1) := by decide +kernel
theorem dX8_way_1 : decode cX8_way 1 = .ok (.invokestatic 109, 3) := by decide +kernel
theorem dX8_way_4 : decode cX8_way 4 = .ok (.ifCond .eq 24, 3) := by decide +kernel
theorem dX8_way_7 : decode cX8_way 7 = .ok (.iload_n 2, 1) := by decide +kernel
theorem dX8_way_8 : decode cX8_way 8 = .ok (.invokestatic 109, 3) := by decide +kernel
theorem dX8_way_11 : decode cX8_way 11 = .ok (.ifCond .eq 17, 3) := by decide +kernel
theorem dX8_way_14 : decode cX8_way 14 = .ok (.aload_n 0, 1) := by decide +kernel
theorem dX8_way_15 : decode cX8_way 15 = .ok (.getfield 19, 3) := by decide +kernel
theorem dX8_way_18 : decode cX8_way 18 = .ok (.getfield 119, 3) := by decide +kernel
theorem dX8_way_21 : decode cX8_way 21 = .ok (.iload_n 1, 1) := by decide +kernel
theorem dX8_way_22 : decode cX8_way 22 = .ok (.aaload, 1) := by decide +kernel
theorem dX8_way_23 : decode cX8_way 23 = .ok (.iload_n 2, 1) := by decide +kernel
theorem dX8_way_24 : decode cX8_way 24 = .ok (.iaload, 1) := by decide +kernel
theorem dX8_way_25 : decode cX8_way 25 = .ok (.goto 5, 3) := by decide +kernel
theorem dX8_way_28 : decode cX8_way 28 = .ok (.bipush (-2), 2) := by decide +kernel
theorem dX8_way_30 : decode cX8_way 30 = .ok (.ireturn, 1) := by decide +kernel
theorem dX8_wipe_0 : decode cX8_wipe 0 = .ok (.aload_n 0, 1) := by decide +kernel
theorem dX8_wipe_1 : decode cX8_wipe 1 = .ok (.getfield 33, 3) := by decide +kernel
theorem dX8_wipe_4 : decode cX8_wipe 4 = .ok (.getfield 125, 3) := by decide +kernel
theorem dX8_wipe_7 : decode cX8_wipe 7 = .ok (.istore_n 1, 1) := by decide +kernel
theorem dX8_wipe_8 : decode cX8_wipe 8 = .ok (.aload_n 0, 1) := by decide +kernel
theorem dX8_wipe_9 : decode cX8_wipe 9 = .ok (.getfield 33, 3) := by decide +kernel
theorem dX8_wipe_12 : decode cX8_wipe 12 = .ok (.iconst 0, 1) := by decide +kernel
theorem dX8_wipe_13 : decode cX8_wipe 13 = .ok (.putfield 125, 3) := by decide +kernel
theorem dX8_wipe_16 : decode cX8_wipe 16 = .ok (.iload_n 1, 1) := by decide +kernel
theorem dX8_wipe_17 : decode cX8_wipe 17 = .ok (.ireturn, 1) := by decide +kernel
theorem dX8_write_0 : decode cX8_write 0 = .ok (.iload_n 1, 1) := by decide +kernel
theorem dX8_write_1 : decode cX8_write 1 = .ok (.invokestatic 136, 3) := by decide +kernel
theorem dX8_write_4 : decode cX8_write 4 = .ok (.ifCond .ne 6, 3) := by decide +kernel
theorem dX8_write_7 : decode cX8_write 7 = .ok (.bipush (-2), 2) := by decide +kernel
theorem dX8_write_9 : decode cX8_write 9 = .ok (.ireturn, 1) := by decide +kernel
theorem dX8_write_10 : decode cX8_write 10 = .ok (.aload_n 0, 1) := by decide +kernel
theorem dX8_write_11 : decode cX8_write 11 = .ok (.getfield 40, 3) := by decide +kernel
theorem dX8_write_14 : decode cX8_write 14 = .ok (.iload_n 1, 1) := by decide +kernel
theorem dX8_write_15 : decode cX8_write 15 = .ok (.invokevirtual 142, 3) := by decide +kernel
theorem dX8_write_18 : decode cX8_write 18 = .ok (.ifCond .eq 12, 3) := by decide +kernel
theorem dX8_write_21 : decode cX8_write 21 = .ok (.aload_n 0, 1) := by decide +kernel
theorem dX8_write_22 : decode cX8_write 22 = .ok (.getfield 40, 3) := by decide +kernel
theorem dX8_write_25 : decode cX8_write 25 = .ok (.iconst 1, 1) := by decide +kernel
theorem dX8_write_26 : decode cX8_write 26 = .ok (.invokevirtual 145, 3) := by decide +kernel
theorem dX8_write_29 : decode cX8_write 29 = .ok (.ireturn, 1) := by decide +kernel
theorem dX8_write_30 : decode cX8_write 30 = .ok (.aload_n 0, 1) := by decide +kernel
theorem dX8_write_31 : decode cX8_write 31 = .ok (.invokevirtual 230, 3) := by decide +kernel
theorem dX8_write_34 : decode cX8_write 34 = .ok (.aload_n 0, 1) := by decide +kernel
theorem dX8_write_35 : decode cX8_write 35 = .ok (.getfield 58, 3) := by decide +kernel
theorem dX8_write_38 : decode cX8_write 38 = .ok (.aload_n 0, 1) := by decide +kernel
theorem dX8_write_39 : decode cX8_write 39 = .ok (.getfield 85, 3) := by decide +kernel
theorem dX8_write_42 : decode cX8_write 42 = .ok (.invokevirtual 237, 3) := by decide +kernel
theorem dX8_write_45 : decode cX8_write 45 = .ok (.aload_n 0, 1) := by decide +kernel
theorem dX8_write_46 : decode cX8_write 46 = .ok (.getfield 40, 3) := by decide +kernel
theorem dX8_write_49 : decode cX8_write 49 = .ok (.getfield 149, 3) := by decide +kernel
theorem dX8_write_52 : decode cX8_write 52 = .ok (.iload_n 1, 1) := by decide +kernel
theorem dX8_write_53 : decode cX8_write 53 = .ok (.iaload, 1) := by decide +kernel
theorem dX8_write_54 : decode cX8_write 54 = .ok (.bipush 6, 2) := by decide +kernel
theorem dX8_write_56 : decode cX8_write 56 = .ok (.invokestatic 152, 3) := by decide +kernel
theorem dX8_write_59 : decode cX8_write 59 = .ok (.istore_n 2, 1) := by decide +kernel
theorem dX8_write_60 : decode cX8_write 60 = .ok (.iconst 0, 1) := by decide +kernel
theorem dX8_write_61 : decode cX8_write 61 = .ok (.istore_n 3, 1) := by decide +kernel
theorem dX8_write_62 : decode cX8_write 62 = .ok (.iload_n 3, 1) := by decide +kernel
theorem dX8_write_63 : decode cX8_write 63 = .ok (.iload_n 2, 1) := by decide +kernel
theorem dX8_write_64 : decode cX8_write 64 = .ok (.if_icmp .ge 27, 3) := by decide +kernel
theorem dX8_write_67 : decode cX8_write 67 = .ok (.aload_n 0, 1) := by decide +kernel
theorem dX8_write_68 : decode cX8_write 68 = .ok (.getfield 40, 3) := by decide +kernel
theorem dX8_write_71 : decode cX8_write 71 = .ok (.iload_n 1, 1) := by decide +kernel
theorem dX8_write_72 : decode cX8_write 72 = .ok (.iload_n 3, 1) := by decide +kernel
theorem dX8_write_73 : decode cX8_write 73 = .ok (.aload_n 0, 1) := by decide +kernel
theorem dX8_write_74 : decode cX8_write 74 = .ok (.getfield 58, 3) := by decide +kernel
theorem dX8_write_77 : decode cX8_write 77 = .ok (.getfield 241, 3) := by decide +kernel
theorem dX8_write_80 : decode cX8_write 80 = .ok (.iload_n 3, 1) := by decide +kernel
theorem dX8_write_81 : decode cX8_write 81 = .ok (.iaload, 1) := by decide +kernel
theorem dX8_write_82 : decode cX8_write 82 = .ok (.invokevirtual 313, 3) := by decide +kernel
theorem dX8_write_85 : decode cX8_write 85 = .ok (.iinc 3 1, 3) := by decide +kernel
theorem dX8_write_88 : decode cX8_write 88 = .ok (.goto (-26), 3) := by decide +kernel
theorem dX8_write_91 : decode cX8_write 91 = .ok (.iload_n 2, 1) := by decide +kernel
theorem dX8_write_92 : decode cX8_write 92 = .ok (.ireturn, 1) := by decide +kernel
theorem dX9_in_0 : decode cX9_in 0 = .ok (.iload_n 0, 1) := by decide +kernel
theorem dX9_in_1 : decode cX9_in 1 = .ok (.iload_n 1, 1) := by decide +kernel
theorem dX9_in_2 : decode cX9_in 2 = .ok (.if_icmp .lt 12, 3) := by decide +kernel
theorem dX9_in_5 : decode cX9_in 5 = .ok (.iload_n 0, 1) := by decide +kernel
theorem dX9_in_6 : decode cX9_in 6 = .ok (.iload_n 2, 1) := by decide +kernel
theorem dX9_in_7 : decode cX9_in 7 = .ok (.if_icmp .gt 7, 3) := by decide +kernel
theorem dX9_in_10 : decode cX9_in 10 = .ok (.iconst 1, 1) := by decide +kernel
theorem dX9_in_11 : decode cX9_in 11 = .ok (.goto 4, 3) := by decide +kernel
theorem dX9_in_14 : decode cX9_in 14 = .ok (.iconst 0, 1) := by decide +kernel
theorem dX9_in_15 : decode cX9_in 15 = .ok (.ireturn, 1) := by decide +kernel
theorem dX9_isThing_0 : decode cX9_isThing 0 = .ok (.iload_n 0, 1) := by decide +kernel
theorem dX9_isThing_1 : decode cX9_isThing 1 = .ok (.iconst 0, 1) := by decide +kernel
theorem dX9_isThing_2 : decode cX9_isThing 2 = .ok (.iconst 5, 1) := by decide +kernel
theorem dX9_isThing_3 : decode cX9_isThing 3 = .ok (.invokestatic 114, 3) := by decide +kernel
theorem dX9_isThing_6 : decode cX9_isThing 6 = .ok (.ireturn, 1) := by decide +kernel
theorem dX9_place_0 : decode cX9_place 0 = .ok (.iconst 3, 1) := by decide +kernel
theorem dX9_place_1 : decode cX9_place 1 = .ok (.bipush 6, 2) := by decide +kernel
theorem dX9_place_3 : decode cX9_place 3 = .ok (.iload_n 0, 1) := by decide +kernel
theorem dX9_place_4 : decode cX9_place 4 = .ok (.imul, 1) := by decide +kernel
theorem dX9_place_5 : decode cX9_place 5 = .ok (.iload_n 1, 1) := by decide +kernel
theorem dX9_place_6 : decode cX9_place 6 = .ok (.iadd, 1) := by decide +kernel
theorem dX9_place_7 : decode cX9_place 7 = .ok (.imul, 1) := by decide +kernel
theorem dX9_place_8 : decode cX9_place 8 = .ok (.ireturn, 1) := by decide +kernel
theorem dX9_chanceNow_0 : decode cX9_chanceNow 0 = .ok (.aload_n 0, 1) := by decide +kernel
theorem dX9_chanceNow_1 : decode cX9_chanceNow 1 = .ok (.getfield 38, 3) := by decide +kernel
theorem dX9_chanceNow_4 : decode cX9_chanceNow 4 = .ok (.iload_n 1, 1) := by decide +kernel
theorem dX9_chanceNow_5 : decode cX9_chanceNow 5 = .ok (.iload_n 2, 1) := by decide +kernel
theorem dX9_chanceNow_6 : decode cX9_chanceNow 6 = .ok (.invokestatic 162, 3) := by decide +kernel
theorem dX9_chanceNow_9 : decode cX9_chanceNow 9 = .ok (.iload_n 3, 1) := by decide +kernel
theorem dX9_chanceNow_10 : decode cX9_chanceNow 10 = .ok (.iadd, 1) := by decide +kernel
theorem dX9_chanceNow_11 : decode cX9_chanceNow 11 = .ok (.iaload, 1) := by decide +kernel
theorem dX9_chanceNow_12 : decode cX9_chanceNow 12 = .ok (.aload_n 0, 1) := by decide +kernel
theorem dX9_chanceNow_13 : decode cX9_chanceNow 13 = .ok (.getfield 41, 3) := by decide +kernel
theorem dX9_chanceNow_16 : decode cX9_chanceNow 16 = .ok (.iload_n 2, 1) := by decide +kernel
theorem dX9_chanceNow_17 : decode cX9_chanceNow 17 = .ok (.iaload, 1) := by decide +kernel
theorem dX9_chanceNow_18 : decode cX9_chanceNow 18 = .ok (.isub, 1) := by decide +kernel
theorem dX9_chanceNow_19 : decode cX9_chanceNow 19 = .ok (.istore 4, 2) := by decide +kernel
theorem dX9_chanceNow_21 : decode cX9_chanceNow 21 = .ok (.iload 4, 2) := by decide +kernel
theorem dX9_chanceNow_23 : decode cX9_chanceNow 23 = .ok (.ifCond .ge 7, 3) := by decide +kernel
theorem dX9_chanceNow_26 : decode cX9_chanceNow 26 = .ok (.iconst 0, 1) := by decide +kernel
theorem dX9_chanceNow_27 : decode cX9_chanceNow 27 = .ok (.goto 5, 3) := by decide +kernel
theorem dX9_chanceNow_30 : decode cX9_chanceNow 30 = .ok (.iload 4, 2) := by decide +kernel
theorem dX9_chanceNow_32 : decode cX9_chanceNow 32 = .ok (.ireturn, 1) := by decide +kernel
theorem dX9_sixteen_0 : decode cX9_sixteen 0 = .ok (.lconst 1, 1) := by decide +kernel
theorem dX9_sixteen_1 : decode cX9_sixteen 1 = .ok (.iconst 4, 1) := by decide +kernel
theorem dX9_sixteen_2 : decode cX9_sixteen 2 = .ok (.iload_n 0, 1) := by decide +kernel
theorem dX9_sixteen_3 : decode cX9_sixteen 3 = .ok (.imul, 1) := by decide +kernel
theorem dX9_sixteen_4 : decode cX9_sixteen 4 = .ok (.lshl, 1) := by decide +kernel
theorem dX9_sixteen_5 : decode cX9_sixteen 5 = .ok (.lreturn, 1) := by decide +kernel
theorem dX9_spot_0 : decode cX9_spot 0 = .ok (.iconst 5, 1) := by decide +kernel
theorem dX9_spot_1 : decode cX9_spot 1 = .ok (.bipush 8, 2) := by decide +kernel
theorem dX9_spot_3 : decode cX9_spot 3 = .ok (.iload_n 0, 1) := by decide +kernel
theorem dX9_spot_4 : decode cX9_spot 4 = .ok (.imul, 1) := by decide +kernel
theorem dX9_spot_5 : decode cX9_spot 5 = .ok (.iload_n 1, 1) := by decide +kernel
theorem dX9_spot_6 : decode cX9_spot 6 = .ok (.iadd, 1) := by decide +kernel
theorem dX9_spot_7 : decode cX9_spot 7 = .ok (.imul, 1) := by decide +kernel
theorem dX9_spot_8 : decode cX9_spot 8 = .ok (.iload_n 2, 1) := by decide +kernel
theorem dX9_spot_9 : decode cX9_spot 9 = .ok (.iadd, 1) := by decide +kernel
theorem dX9_spot_10 : decode cX9_spot 10 = .ok (.ireturn, 1) := by decide +kernel
theorem dX9_laysWorth_0 : decode cX9_laysWorth 0 = .ok (.iconst 0, 1) := by decide +kernel
theorem dX9_laysWorth_1 : decode cX9_laysWorth 1 = .ok (.istore_n 1, 1) := by decide +kernel
theorem dX9_laysWorth_2 : decode cX9_laysWorth 2 = .ok (.iload_n 1, 1) := by decide +kernel
theorem dX9_laysWorth_3 : decode cX9_laysWorth 3 = .ok (.bipush 6, 2) := by decide +kernel
theorem dX9_laysWorth_5 : decode cX9_laysWorth 5 = .ok (.if_icmp .ge 259, 3) := by decide +kernel
theorem dX9_laysWorth_8 : decode cX9_laysWorth 8 = .ok (.iconst 0, 1) := by decide +kernel
theorem dX9_laysWorth_9 : decode cX9_laysWorth 9 = .ok (.istore_n 2, 1) := by decide +kernel
theorem dX9_laysWorth_10 : decode cX9_laysWorth 10 = .ok (.iload_n 2, 1) := by decide +kernel
theorem dX9_laysWorth_11 : decode cX9_laysWorth 11 = .ok (.iconst 5, 1) := by decide +kernel
theorem dX9_laysWorth_12 : decode cX9_laysWorth 12 = .ok (.if_icmp .ge 39, 3) := by decide +kernel
theorem dX9_laysWorth_15 : decode cX9_laysWorth 15 = .ok (.aload_n 0, 1) := by decide +kernel
theorem dX9_laysWorth_16 : decode cX9_laysWorth 16 = .ok (.getfield 65, 3) := by decide +kernel
theorem dX9_laysWorth_19 : decode cX9_laysWorth 19 = .ok (.iload_n 1, 1) := by decide +kernel
theorem dX9_laysWorth_20 : decode cX9_laysWorth 20 = .ok (.aload_n 0, 1) := by decide +kernel
theorem dX9_laysWorth_21 : decode cX9_laysWorth 21 = .ok (.getfield 184, 3) := by decide +kernel
theorem dX9_laysWorth_24 : decode cX9_laysWorth 24 = .ok (.iload_n 2, 1) := by decide +kernel
theorem dX9_laysWorth_25 : decode cX9_laysWorth 25 = .ok (.invokestatic 190, 3) := by decide +kernel
theorem dX9_laysWorth_28 : decode cX9_laysWorth 28 = .ok (.iload_n 2, 1) := by decide +kernel
theorem dX9_laysWorth_29 : decode cX9_laysWorth 29 = .ok (.aload_n 0, 1) := by decide +kernel
theorem dX9_laysWorth_30 : decode cX9_laysWorth 30 = .ok (.getfield 7, 3) := by decide +kernel
theorem dX9_laysWorth_33 : decode cX9_laysWorth 33 = .ok (.iload_n 1, 1) := by decide +kernel
theorem dX9_laysWorth_34 : decode cX9_laysWorth 34 = .ok (.iaload, 1) := by decide +kernel
theorem dX9_laysWorth_35 : decode cX9_laysWorth 35 = .ok (.aload_n 0, 1) := by decide +kernel
theorem dX9_laysWorth_36 : decode cX9_laysWorth 36 = .ok (.getfield 16, 3) := by decide +kernel
theorem dX9_laysWorth_39 : decode cX9_laysWorth 39 = .ok (.iload_n 1, 1) := by decide +kernel
theorem dX9_laysWorth_40 : decode cX9_laysWorth 40 = .ok (.iaload, 1) := by decide +kernel
theorem dX9_laysWorth_41 : decode cX9_laysWorth 41 = .ok (.isub, 1) := by decide +kernel
theorem dX9_laysWorth_42 : decode cX9_laysWorth 42 = .ok (.imul, 1) := by decide +kernel
theorem dX9_laysWorth_43 : decode cX9_laysWorth 43 = .ok (.i2l, 1) := by decide +kernel
theorem dX9_laysWorth_44 : decode cX9_laysWorth 44 = .ok (.lastore, 1) := by decide +kernel
theorem dX9_laysWorth_45 : decode cX9_laysWorth 45 = .ok (.iinc 2 1, 3) := by decide +kernel
theorem dX9_laysWorth_48 : decode cX9_laysWorth 48 = .ok (.goto (-38), 3) := by decide +kernel
theorem dX9_laysWorth_51 : decode cX9_laysWorth 51 = .ok (.aload_n 0, 1) := by decide +kernel
theorem dX9_laysWorth_52 : decode cX9_laysWorth 52 = .ok (.getfield 184, 3) := by decide +kernel
theorem dX9_laysWorth_55 : decode cX9_laysWorth 55 = .ok (.iconst 1, 1) := by decide +kernel
theorem dX9_laysWorth_56 : decode cX9_laysWorth 56 = .ok (.isub, 1) := by decide +kernel
theorem dX9_laysWorth_57 : decode cX9_laysWorth 57 = .ok (.istore_n 2, 1) := by decide +kernel
theorem dX9_laysWorth_58 : decode cX9_laysWorth 58 = .ok (.iload_n 2, 1) := by decide +kernel
theorem dX9_laysWorth_59 : decode cX9_laysWorth 59 = .ok (.ifCond .lt 199, 3) := by decide +kernel
theorem dX9_laysWorth_62 : decode cX9_laysWorth 62 = .ok (.aload_n 0, 1) := by decide +kernel
theorem dX9_laysWorth_63 : decode cX9_laysWorth 63 = .ok (.getfield 184, 3) := by decide +kernel
theorem dX9_laysWorth_66 : decode cX9_laysWorth 66 = .ok (.iconst 1, 1) := by decide +kernel
theorem dX9_laysWorth_67 : decode cX9_laysWorth 67 = .ok (.isub, 1) := by decide +kernel
theorem dX9_laysWorth_68 : decode cX9_laysWorth 68 = .ok (.iload_n 2, 1) := by decide +kernel
theorem dX9_laysWorth_69 : decode cX9_laysWorth 69 = .ok (.isub, 1) := by decide +kernel
theorem dX9_laysWorth_70 : decode cX9_laysWorth 70 = .ok (.invokestatic 193, 3) := by decide +kernel
theorem dX9_laysWorth_73 : decode cX9_laysWorth 73 = .ok (.lstore_n 3, 1) := by decide +kernel
theorem dX9_laysWorth_74 : decode cX9_laysWorth 74 = .ok (.aload_n 0, 1) := by decide +kernel
theorem dX9_laysWorth_75 : decode cX9_laysWorth 75 = .ok (.getfield 65, 3) := by decide +kernel
theorem dX9_laysWorth_78 : decode cX9_laysWorth 78 = .ok (.iload_n 1, 1) := by decide +kernel
theorem dX9_laysWorth_79 : decode cX9_laysWorth 79 = .ok (.iload_n 2, 1) := by decide +kernel
theorem dX9_laysWorth_80 : decode cX9_laysWorth 80 = .ok (.iconst 0, 1) := by decide +kernel
theorem dX9_laysWorth_81 : decode cX9_laysWorth 81 = .ok (.invokestatic 190, 3) := by decide +kernel
theorem dX9_laysWorth_84 : decode cX9_laysWorth 84 = .ok (.lconst 0, 1) := by decide +kernel
theorem dX9_laysWorth_85 : decode cX9_laysWorth 85 = .ok (.lastore, 1) := by decide +kernel
theorem dX9_laysWorth_86 : decode cX9_laysWorth 86 = .ok (.iconst 1, 1) := by decide +kernel
theorem dX9_laysWorth_87 : decode cX9_laysWorth 87 = .ok (.istore 5, 2) := by decide +kernel
theorem dX9_laysWorth_89 : decode cX9_laysWorth 89 = .ok (.iload 5, 2) := by decide +kernel
theorem dX9_laysWorth_91 : decode cX9_laysWorth 91 = .ok (.iconst 5, 1) := by decide +kernel
theorem dX9_laysWorth_92 : decode cX9_laysWorth 92 = .ok (.if_icmp .ge 160, 3) := by decide +kernel
theorem dX9_laysWorth_95 : decode cX9_laysWorth 95 = .ok (.aload_n 0, 1) := by decide +kernel
theorem dX9_laysWorth_96 : decode cX9_laysWorth 96 = .ok (.getfield 65, 3) := by decide +kernel
theorem dX9_laysWorth_99 : decode cX9_laysWorth 99 = .ok (.iload_n 1, 1) := by decide +kernel
theorem dX9_laysWorth_100 : decode cX9_laysWorth 100 = .ok (.iload_n 2, 1) := by decide +kernel
theorem dX9_laysWorth_101 : decode cX9_laysWorth 101 = .ok (.iconst 1, 1) := by decide +kernel
theorem dX9_laysWorth_102 : decode cX9_laysWorth 102 = .ok (.iadd, 1) := by decide +kernel
theorem dX9_laysWorth_103 : decode cX9_laysWorth 103 = .ok (.iload 5, 2) := by decide +kernel
theorem dX9_laysWorth_105 : decode cX9_laysWorth 105 = .ok (.invokestatic 190, 3) := by decide +kernel
theorem dX9_laysWorth_108 : decode cX9_laysWorth 108 = .ok (.laload, 1) := by decide +kernel
theorem dX9_laysWorth_109 : decode cX9_laysWorth 109 = .ok (.lstore 6, 2) := by decide +kernel
theorem dX9_laysWorth_111 : decode cX9_laysWorth 111 = .ok (.aload_n 0, 1) := by decide +kernel
theorem dX9_laysWorth_112 : decode cX9_laysWorth 112 = .ok (.getfield 65, 3) := by decide +kernel
theorem dX9_laysWorth_115 : decode cX9_laysWorth 115 = .ok (.iload_n 1, 1) := by decide +kernel
theorem dX9_laysWorth_116 : decode cX9_laysWorth 116 = .ok (.iload_n 2, 1) := by decide +kernel
theorem dX9_laysWorth_117 : decode cX9_laysWorth 117 = .ok (.iconst 1, 1) := by decide +kernel
theorem dX9_laysWorth_118 : decode cX9_laysWorth 118 = .ok (.iadd, 1) := by decide +kernel
theorem dX9_laysWorth_119 : decode cX9_laysWorth 119 = .ok (.iload 5, 2) := by decide +kernel
theorem dX9_laysWorth_121 : decode cX9_laysWorth 121 = .ok (.iconst 1, 1) := by decide +kernel
theorem dX9_laysWorth_122 : decode cX9_laysWorth 122 = .ok (.isub, 1) := by decide +kernel
theorem dX9_laysWorth_123 : decode cX9_laysWorth 123 = .ok (.invokestatic 190, 3) := by decide +kernel
theorem dX9_laysWorth_126 : decode cX9_laysWorth 126 = .ok (.laload, 1) := by decide +kernel
theorem dX9_laysWorth_127 : decode cX9_laysWorth 127 = .ok (.lstore 8, 2) := by decide +kernel
theorem dX9_laysWorth_129 : decode cX9_laysWorth 129 = .ok (.ldc2_w 197, 3) := by decide +kernel
theorem dX9_laysWorth_132 : decode cX9_laysWorth 132 = .ok (.lload 6, 2) := by decide +kernel
theorem dX9_laysWorth_134 : decode cX9_laysWorth 134 = .ok (.lmul, 1) := by decide +kernel
theorem dX9_laysWorth_135 : decode cX9_laysWorth 135 = .ok (.lstore 10, 2) := by decide +kernel
theorem dX9_laysWorth_137 : decode cX9_laysWorth 137 = .ok (.iconst 3, 1) := by decide +kernel
theorem dX9_laysWorth_138 : decode cX9_laysWorth 138 = .ok (.istore 12, 2) := by decide +kernel
theorem dX9_laysWorth_140 : decode cX9_laysWorth 140 = .ok (.iconst 2, 1) := by decide +kernel
theorem dX9_laysWorth_141 : decode cX9_laysWorth 141 = .ok (.istore 13, 2) := by decide +kernel
theorem dX9_laysWorth_143 : decode cX9_laysWorth 143 = .ok (.iload 13, 2) := by decide +kernel
theorem dX9_laysWorth_145 : decode cX9_laysWorth 145 = .ok (.ifCond .lt 73, 3) := by decide +kernel
theorem dX9_laysWorth_148 : decode cX9_laysWorth 148 = .ok (.aload_n 0, 1) := by decide +kernel
theorem dX9_laysWorth_149 : decode cX9_laysWorth 149 = .ok (.aload_n 0, 1) := by decide +kernel
theorem dX9_laysWorth_150 : decode cX9_laysWorth 150 = .ok (.getfield 62, 3) := by decide +kernel
theorem dX9_laysWorth_153 : decode cX9_laysWorth 153 = .ok (.iload_n 2, 1) := by decide +kernel
theorem dX9_laysWorth_154 : decode cX9_laysWorth 154 = .ok (.iaload, 1) := by decide +kernel
theorem dX9_laysWorth_155 : decode cX9_laysWorth 155 = .ok (.iload_n 1, 1) := by decide +kernel
theorem dX9_laysWorth_156 : decode cX9_laysWorth 156 = .ok (.iload 13, 2) := by decide +kernel
theorem dX9_laysWorth_158 : decode cX9_laysWorth 158 = .ok (.invokevirtual 175, 3) := by decide +kernel
theorem dX9_laysWorth_161 : decode cX9_laysWorth 161 = .ok (.i2l, 1) := by decide +kernel
theorem dX9_laysWorth_162 : decode cX9_laysWorth 162 = .ok (.lstore 14, 2) := by decide +kernel
theorem dX9_laysWorth_164 : decode cX9_laysWorth 164 = .ok (.lload 14, 2) := by decide +kernel
theorem dX9_laysWorth_166 : decode cX9_laysWorth 166 = .ok (.aload_n 0, 1) := by decide +kernel
theorem dX9_laysWorth_167 : decode cX9_laysWorth 167 = .ok (.getfield 19, 3) := by decide +kernel
theorem dX9_laysWorth_170 : decode cX9_laysWorth 170 = .ok (.iconst 3, 1) := by decide +kernel
theorem dX9_laysWorth_171 : decode cX9_laysWorth 171 = .ok (.iload_n 1, 1) := by decide +kernel
theorem dX9_laysWorth_172 : decode cX9_laysWorth 172 = .ok (.imul, 1) := by decide +kernel
theorem dX9_laysWorth_173 : decode cX9_laysWorth 173 = .ok (.iload 13, 2) := by decide +kernel
theorem dX9_laysWorth_175 : decode cX9_laysWorth 175 = .ok (.iadd, 1) := by decide +kernel
theorem dX9_laysWorth_176 : decode cX9_laysWorth 176 = .ok (.iaload, 1) := by decide +kernel
theorem dX9_laysWorth_177 : decode cX9_laysWorth 177 = .ok (.i2l, 1) := by decide +kernel
theorem dX9_laysWorth_178 : decode cX9_laysWorth 178 = .ok (.lload_n 3, 1) := by decide +kernel
theorem dX9_laysWorth_179 : decode cX9_laysWorth 179 = .ok (.lmul, 1) := by decide +kernel
theorem dX9_laysWorth_180 : decode cX9_laysWorth 180 = .ok (.lload 8, 2) := by decide +kernel
theorem dX9_laysWorth_182 : decode cX9_laysWorth 182 = .ok (.ladd, 1) := by decide +kernel
theorem dX9_laysWorth_183 : decode cX9_laysWorth 183 = .ok (.lmul, 1) := by decide +kernel
theorem dX9_laysWorth_184 : decode cX9_laysWorth 184 = .ok (.ldc2_w 197, 3) := by decide +kernel
theorem dX9_laysWorth_187 : decode cX9_laysWorth 187 = .ok (.lload 14, 2) := by decide +kernel
theorem dX9_laysWorth_189 : decode cX9_laysWorth 189 = .ok (.lsub, 1) := by decide +kernel
theorem dX9_laysWorth_190 : decode cX9_laysWorth 190 = .ok (.lload 6, 2) := by decide +kernel
theorem dX9_laysWorth_192 : decode cX9_laysWorth 192 = .ok (.lmul, 1) := by decide +kernel
theorem dX9_laysWorth_193 : decode cX9_laysWorth 193 = .ok (.ladd, 1) := by decide +kernel
theorem dX9_laysWorth_194 : decode cX9_laysWorth 194 = .ok (.lstore 16, 2) := by decide +kernel
theorem dX9_laysWorth_196 : decode cX9_laysWorth 196 = .ok (.lload 16, 2) := by decide +kernel
theorem dX9_laysWorth_198 : decode cX9_laysWorth 198 = .ok (.lload 10, 2) := by decide +kernel
theorem dX9_laysWorth_200 : decode cX9_laysWorth 200 = .ok (.lcmp, 1) := by decide +kernel
theorem dX9_laysWorth_201 : decode cX9_laysWorth 201 = .ok (.ifCond .lt 11, 3) := by decide +kernel
theorem dX9_laysWorth_204 : decode cX9_laysWorth 204 = .ok (.lload 16, 2) := by decide +kernel
theorem dX9_laysWorth_206 : decode cX9_laysWorth 206 = .ok (.lstore 10, 2) := by decide +kernel
theorem dX9_laysWorth_208 : decode cX9_laysWorth 208 = .ok (.iload 13, 2) := by decide +kernel
theorem dX9_laysWorth_210 : decode cX9_laysWorth 210 = .ok (.istore 12, 2) := by decide +kernel
theorem dX9_laysWorth_212 : decode cX9_laysWorth 212 = .ok (.iinc 13 (-1), 3) := by decide +kernel
theorem dX9_laysWorth_215 : decode cX9_laysWorth 215 = .ok (.goto (-72), 3) := by decide +kernel
theorem dX9_laysWorth_218 : decode cX9_laysWorth 218 = .ok (.aload_n 0, 1) := by decide +kernel
theorem dX9_laysWorth_219 : decode cX9_laysWorth 219 = .ok (.getfield 65, 3) := by decide +kernel
theorem dX9_laysWorth_222 : decode cX9_laysWorth 222 = .ok (.iload_n 1, 1) := by decide +kernel
theorem dX9_laysWorth_223 : decode cX9_laysWorth 223 = .ok (.iload_n 2, 1) := by decide +kernel
theorem dX9_laysWorth_224 : decode cX9_laysWorth 224 = .ok (.iload 5, 2) := by decide +kernel
theorem dX9_laysWorth_226 : decode cX9_laysWorth 226 = .ok (.invokestatic 190, 3) := by decide +kernel
theorem dX9_laysWorth_229 : decode cX9_laysWorth 229 = .ok (.lload 10, 2) := by decide +kernel
theorem dX9_laysWorth_231 : decode cX9_laysWorth 231 = .ok (.lastore, 1) := by decide +kernel
theorem dX9_laysWorth_232 : decode cX9_laysWorth 232 = .ok (.aload_n 0, 1) := by decide +kernel
theorem dX9_laysWorth_233 : decode cX9_laysWorth 233 = .ok (.getfield 69, 3) := by decide +kernel
theorem dX9_laysWorth_236 : decode cX9_laysWorth 236 = .ok (.iload_n 1, 1) := by decide +kernel
theorem dX9_laysWorth_237 : decode cX9_laysWorth 237 = .ok (.iload_n 2, 1) := by decide +kernel
theorem dX9_laysWorth_238 : decode cX9_laysWorth 238 = .ok (.iload 5, 2) := by decide +kernel
theorem dX9_laysWorth_240 : decode cX9_laysWorth 240 = .ok (.invokestatic 190, 3) := by decide +kernel
theorem dX9_laysWorth_243 : decode cX9_laysWorth 243 = .ok (.iload 12, 2) := by decide +kernel
theorem dX9_laysWorth_245 : decode cX9_laysWorth 245 = .ok (.iastore, 1) := by decide +kernel
theorem dX9_laysWorth_246 : decode cX9_laysWorth 246 = .ok (.iinc 5 1, 3) := by decide +kernel
theorem dX9_laysWorth_249 : decode cX9_laysWorth 249 = .ok (.goto (-160), 3) := by decide +kernel
theorem dX9_laysWorth_252 : decode cX9_laysWorth 252 = .ok (.iinc 2 (-1), 3) := by decide +kernel
theorem dX9_laysWorth_255 : decode cX9_laysWorth 255 = .ok (.goto (-197), 3) := by decide +kernel
theorem dX9_laysWorth_258 : decode cX9_laysWorth 258 = .ok (.iinc 1 1, 3) := by decide +kernel
theorem dX9_laysWorth_261 : decode cX9_laysWorth 261 = .ok (.goto (-259), 3) := by decide +kernel
theorem dX9_laysWorth_264 : decode cX9_laysWorth 264 = .ok (.return_, 1) := by decide +kernel
theorem dX9_looksAtRow_0 : decode cX9_looksAtRow 0 = .ok (.aload_n 0, 1) := by decide +kernel
theorem dX9_looksAtRow_1 : decode cX9_looksAtRow 1 = .ok (.aload_n 0, 1) := by decide +kernel
theorem dX9_looksAtRow_2 : decode cX9_looksAtRow 2 = .ok (.getfield 178, 3) := by decide +kernel
theorem dX9_looksAtRow_5 : decode cX9_looksAtRow 5 = .ok (.putfield 184, 3) := by decide +kernel
theorem dX9_looksAtRow_8 : decode cX9_looksAtRow 8 = .ok (.iconst 0, 1) := by decide +kernel
theorem dX9_looksAtRow_9 : decode cX9_looksAtRow 9 = .ok (.istore_n 1, 1) := by decide +kernel
theorem dX9_looksAtRow_10 : decode cX9_looksAtRow 10 = .ok (.iload_n 1, 1) := by decide +kernel
theorem dX9_looksAtRow_11 : decode cX9_looksAtRow 11 = .ok (.aload_n 0, 1) := by decide +kernel
theorem dX9_looksAtRow_12 : decode cX9_looksAtRow 12 = .ok (.getfield 178, 3) := by decide +kernel
theorem dX9_looksAtRow_15 : decode cX9_looksAtRow 15 = .ok (.if_icmp .ge 21, 3) := by decide +kernel
theorem dX9_looksAtRow_18 : decode cX9_looksAtRow 18 = .ok (.aload_n 0, 1) := by decide +kernel
theorem dX9_looksAtRow_19 : decode cX9_looksAtRow 19 = .ok (.getfield 62, 3) := by decide +kernel
