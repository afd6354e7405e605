theorem dX3_addDay_0 : decode cX3_addDay 0 = .ok (.iload_n 1, 1) := by decide +kernel
theorem dX3_addDay_1 : decode cX3_addDay 1 = .ok (.iconst 1, 1) := by decide +kernel
theorem dX3_addDay_2 : decode cX3_addDay 2 = .ok (.isub, 1) := by decide +kernel
theorem dX3_addDay_3 : decode cX3_addDay 3 = .ok (.istore_n 2, 1) := by decide +kernel
theorem dX3_addDay_4 : decode cX3_addDay 4 = .ok (.iconst 1, 1) := by decide +kernel
theorem dX3_addDay_5 : decode cX3_addDay 5 = .ok (.istore_n 3, 1) := by decide +kernel
theorem dX3_addDay_6 : decode cX3_addDay 6 = .ok (.iload_n 3, 1) := by decide +kernel
theorem dX3_addDay_7 : decode cX3_addDay 7 = .ok (.iconst 1, 1) := by decide +kernel
theorem dX3_addDay_8 : decode cX3_addDay 8 = .ok (.iload_n 1, 1) := by decide +kernel
theorem dX3_addDay_9 : decode cX3_addDay 9 = .ok (.ishl, 1) := by decide +kernel
theorem dX3_addDay_10 : decode cX3_addDay 10 = .ok (.if_icmp .ge 69, 3) := by decide +kernel
theorem dX3_addDay_13 : decode cX3_addDay 13 = .ok (.aload_n 0, 1) := by decide +kernel
theorem dX3_addDay_14 : decode cX3_addDay 14 = .ok (.iload_n 3, 1) := by decide +kernel
theorem dX3_addDay_15 : decode cX3_addDay 15 = .ok (.iload_n 1, 1) := by decide +kernel
theorem dX3_addDay_16 : decode cX3_addDay 16 = .ok (.invokevirtual 60, 3) := by decide +kernel
theorem dX3_addDay_19 : decode cX3_addDay 19 = .ok (.ifCond .eq 54, 3) := by decide +kernel
theorem dX3_addDay_22 : decode cX3_addDay 22 = .ok (.iconst 1, 1) := by decide +kernel
theorem dX3_addDay_23 : decode cX3_addDay 23 = .ok (.istore 4, 2) := by decide +kernel
theorem dX3_addDay_25 : decode cX3_addDay 25 = .ok (.iload 4, 2) := by decide +kernel
theorem dX3_addDay_27 : decode cX3_addDay 27 = .ok (.iconst 1, 1) := by decide +kernel
theorem dX3_addDay_28 : decode cX3_addDay 28 = .ok (.iload_n 1, 1) := by decide +kernel
theorem dX3_addDay_29 : decode cX3_addDay 29 = .ok (.ishl, 1) := by decide +kernel
theorem dX3_addDay_30 : decode cX3_addDay 30 = .ok (.if_icmp .ge 43, 3) := by decide +kernel
theorem dX3_addDay_33 : decode cX3_addDay 33 = .ok (.aload_n 0, 1) := by decide +kernel
theorem dX3_addDay_34 : decode cX3_addDay 34 = .ok (.iload 4, 2) := by decide +kernel
theorem dX3_addDay_36 : decode cX3_addDay 36 = .ok (.iload_n 1, 1) := by decide +kernel
theorem dX3_addDay_37 : decode cX3_addDay 37 = .ok (.invokevirtual 60, 3) := by decide +kernel
theorem dX3_addDay_40 : decode cX3_addDay 40 = .ok (.ifCond .eq 27, 3) := by decide +kernel
theorem dX3_addDay_43 : decode cX3_addDay 43 = .ok (.aload_n 0, 1) := by decide +kernel
theorem dX3_addDay_44 : decode cX3_addDay 44 = .ok (.getfield 15, 3) := by decide +kernel
theorem dX3_addDay_47 : decode cX3_addDay 47 = .ok (.iload_n 3, 1) := by decide +kernel
theorem dX3_addDay_48 : decode cX3_addDay 48 = .ok (.i2l, 1) := by decide +kernel
theorem dX3_addDay_49 : decode cX3_addDay 49 = .ok (.iload 4, 2) := by decide +kernel
theorem dX3_addDay_51 : decode cX3_addDay 51 = .ok (.i2l, 1) := by decide +kernel
theorem dX3_addDay_52 : decode cX3_addDay 52 = .ok (.invokevirtual 63, 3) := by decide +kernel
theorem dX3_addDay_55 : decode cX3_addDay 55 = .ok (.iload_n 2, 1) := by decide +kernel
theorem dX3_addDay_56 : decode cX3_addDay 56 = .ok (.aload_n 0, 1) := by decide +kernel
theorem dX3_addDay_57 : decode cX3_addDay 57 = .ok (.getfield 15, 3) := by decide +kernel
theorem dX3_addDay_60 : decode cX3_addDay 60 = .ok (.invokevirtual 67, 3) := by decide +kernel
theorem dX3_addDay_63 : decode cX3_addDay 63 = .ok (.invokestatic 71, 3) := by decide +kernel
theorem dX3_addDay_66 : decode cX3_addDay 66 = .ok (.istore_n 2, 1) := by decide +kernel
theorem dX3_addDay_67 : decode cX3_addDay 67 = .ok (.iinc 4 1, 3) := by decide +kernel
theorem dX3_addDay_70 : decode cX3_addDay 70 = .ok (.goto (-45), 3) := by decide +kernel
theorem dX3_addDay_73 : decode cX3_addDay 73 = .ok (.iinc 3 1, 3) := by decide +kernel
theorem dX3_addDay_76 : decode cX3_addDay 76 = .ok (.goto (-70), 3) := by decide +kernel
theorem dX3_addDay_79 : decode cX3_addDay 79 = .ok (.iload_n 2, 1) := by decide +kernel
theorem dX3_addDay_80 : decode cX3_addDay 80 = .ok (.iconst 1, 1) := by decide +kernel
theorem dX3_addDay_81 : decode cX3_addDay 81 = .ok (.iadd, 1) := by decide +kernel
theorem dX3_addDay_82 : decode cX3_addDay 82 = .ok (.ireturn, 1) := by decide +kernel
theorem dX3_fill_0 : decode cX3_fill 0 = .ok (.aload_n 0, 1) := by decide +kernel
theorem dX3_fill_1 : decode cX3_fill 1 = .ok (.getfield 26, 3) := by decide +kernel
theorem dX3_fill_4 : decode cX3_fill 4 = .ok (.ifCond .le 4, 3) := by decide +kernel
theorem dX3_fill_7 : decode cX3_fill 7 = .ok (.return_, 1) := by decide +kernel
theorem dX3_fill_8 : decode cX3_fill 8 = .ok (.aload_n 0, 1) := by decide +kernel
theorem dX3_fill_9 : decode cX3_fill 9 = .ok (.getfield 15, 3) := by decide +kernel
theorem dX3_fill_12 : decode cX3_fill 12 = .ok (.invokevirtual 41, 3) := by decide +kernel
theorem dX3_fill_15 : decode cX3_fill 15 = .ok (.iconst 1, 1) := by decide +kernel
theorem dX3_fill_16 : decode cX3_fill 16 = .ok (.istore_n 1, 1) := by decide +kernel
theorem dX3_fill_17 : decode cX3_fill 17 = .ok (.iconst 1, 1) := by decide +kernel
theorem dX3_fill_18 : decode cX3_fill 18 = .ok (.istore_n 2, 1) := by decide +kernel
theorem dX3_fill_19 : decode cX3_fill 19 = .ok (.iload_n 2, 1) := by decide +kernel
theorem dX3_fill_20 : decode cX3_fill 20 = .ok (.iconst 3, 1) := by decide +kernel
theorem dX3_fill_21 : decode cX3_fill 21 = .ok (.if_icmp .gt 15, 3) := by decide +kernel
theorem dX3_fill_24 : decode cX3_fill 24 = .ok (.aload_n 0, 1) := by decide +kernel
theorem dX3_fill_25 : decode cX3_fill 25 = .ok (.iload_n 1, 1) := by decide +kernel
theorem dX3_fill_26 : decode cX3_fill 26 = .ok (.invokevirtual 46, 3) := by decide +kernel
theorem dX3_fill_29 : decode cX3_fill 29 = .ok (.istore_n 1, 1) := by decide +kernel
theorem dX3_fill_30 : decode cX3_fill 30 = .ok (.iinc 2 1, 3) := by decide +kernel
theorem dX3_fill_33 : decode cX3_fill 33 = .ok (.goto (-14), 3) := by decide +kernel
theorem dX3_fill_36 : decode cX3_fill 36 = .ok (.iconst 0, 1) := by decide +kernel
theorem dX3_fill_37 : decode cX3_fill 37 = .ok (.istore_n 2, 1) := by decide +kernel
theorem dX3_fill_38 : decode cX3_fill 38 = .ok (.iload_n 2, 1) := by decide +kernel
theorem dX3_fill_39 : decode cX3_fill 39 = .ok (.iload_n 1, 1) := by decide +kernel
theorem dX3_fill_40 : decode cX3_fill 40 = .ok (.if_icmp .ge 21, 3) := by decide +kernel
theorem dX3_fill_43 : decode cX3_fill 43 = .ok (.aload_n 0, 1) := by decide +kernel
theorem dX3_fill_44 : decode cX3_fill 44 = .ok (.aload_n 0, 1) := by decide +kernel
theorem dX3_fill_45 : decode cX3_fill 45 = .ok (.getfield 19, 3) := by decide +kernel
theorem dX3_fill_48 : decode cX3_fill 48 = .ok (.iload_n 2, 1) := by decide +kernel
theorem dX3_fill_49 : decode cX3_fill 49 = .ok (.invokevirtual 50, 3) := by decide +kernel
theorem dX3_fill_52 : decode cX3_fill 52 = .ok (.invokevirtual 56, 3) := by decide +kernel
theorem dX3_fill_55 : decode cX3_fill 55 = .ok (.iinc 2 1, 3) := by decide +kernel
theorem dX3_fill_58 : decode cX3_fill 58 = .ok (.goto (-20), 3) := by decide +kernel
theorem dX3_fill_61 : decode cX3_fill 61 = .ok (.return_, 1) := by decide +kernel
theorem dX3_isBornBy_0 : decode cX3_isBornBy 0 = .ok (.iload_n 2, 1) := by decide +kernel
theorem dX3_isBornBy_1 : decode cX3_isBornBy 1 = .ok (.ifCond .lt 38, 3) := by decide +kernel
theorem dX3_isBornBy_4 : decode cX3_isBornBy 4 = .ok (.iload_n 2, 1) := by decide +kernel
theorem dX3_isBornBy_5 : decode cX3_isBornBy 5 = .ok (.aload_n 0, 1) := by decide +kernel
theorem dX3_isBornBy_6 : decode cX3_isBornBy 6 = .ok (.getfield 11, 3) := by decide +kernel
theorem dX3_isBornBy_9 : decode cX3_isBornBy 9 = .ok (.arraylength, 1) := by decide +kernel
theorem dX3_isBornBy_10 : decode cX3_isBornBy 10 = .ok (.if_icmp .ge 29, 3) := by decide +kernel
theorem dX3_isBornBy_13 : decode cX3_isBornBy 13 = .ok (.aload_n 0, 1) := by decide +kernel
theorem dX3_isBornBy_14 : decode cX3_isBornBy 14 = .ok (.getfield 11, 3) := by decide +kernel
theorem dX3_isBornBy_17 : decode cX3_isBornBy 17 = .ok (.iload_n 2, 1) := by decide +kernel
theorem dX3_isBornBy_18 : decode cX3_isBornBy 18 = .ok (.aaload, 1) := by decide +kernel
theorem dX3_isBornBy_19 : decode cX3_isBornBy 19 = .ok (.ifnull 20, 3) := by decide +kernel
theorem dX3_isBornBy_22 : decode cX3_isBornBy 22 = .ok (.aload_n 0, 1) := by decide +kernel
theorem dX3_isBornBy_23 : decode cX3_isBornBy 23 = .ok (.getfield 11, 3) := by decide +kernel
theorem dX3_isBornBy_26 : decode cX3_isBornBy 26 = .ok (.iload_n 2, 1) := by decide +kernel
theorem dX3_isBornBy_27 : decode cX3_isBornBy 27 = .ok (.aaload, 1) := by decide +kernel
theorem dX3_isBornBy_28 : decode cX3_isBornBy 28 = .ok (.getfield 38, 3) := by decide +kernel
theorem dX3_isBornBy_31 : decode cX3_isBornBy 31 = .ok (.iload_n 1, 1) := by decide +kernel
theorem dX3_isBornBy_32 : decode cX3_isBornBy 32 = .ok (.if_icmp .gt 7, 3) := by decide +kernel
theorem dX3_isBornBy_35 : decode cX3_isBornBy 35 = .ok (.iconst 1, 1) := by decide +kernel
theorem dX3_isBornBy_36 : decode cX3_isBornBy 36 = .ok (.goto 4, 3) := by decide +kernel
theorem dX3_isBornBy_39 : decode cX3_isBornBy 39 = .ok (.iconst 0, 1) := by decide +kernel
theorem dX3_isBornBy_40 : decode cX3_isBornBy 40 = .ok (.ireturn, 1) := by decide +kernel
theorem dX3_isDay_0 : decode cX3_isDay 0 = .ok (.iload_n 0, 1) := by decide +kernel
theorem dX3_isDay_1 : decode cX3_isDay 1 = .ok (.ifCond .lt 12, 3) := by decide +kernel
theorem dX3_isDay_4 : decode cX3_isDay 4 = .ok (.iload_n 0, 1) := by decide +kernel
theorem dX3_isDay_5 : decode cX3_isDay 5 = .ok (.iconst 3, 1) := by decide +kernel
theorem dX3_isDay_6 : decode cX3_isDay 6 = .ok (.if_icmp .gt 7, 3) := by decide +kernel
theorem dX3_isDay_9 : decode cX3_isDay 9 = .ok (.iconst 1, 1) := by decide +kernel
theorem dX3_isDay_10 : decode cX3_isDay 10 = .ok (.goto 4, 3) := by decide +kernel
theorem dX3_isDay_13 : decode cX3_isDay 13 = .ok (.iconst 0, 1) := by decide +kernel
theorem dX3_isDay_14 : decode cX3_isDay 14 = .ok (.ireturn, 1) := by decide +kernel
theorem dX3_isUnordered_0 : decode cX3_isUnordered 0 = .ok (.iconst 0, 1) := by decide +kernel
theorem dX3_isUnordered_1 : decode cX3_isUnordered 1 = .ok (.istore_n 3, 1) := by decide +kernel
theorem dX3_isUnordered_2 : decode cX3_isUnordered 2 = .ok (.iload_n 3, 1) := by decide +kernel
theorem dX3_isUnordered_3 : decode cX3_isUnordered 3 = .ok (.iload_n 2, 1) := by decide +kernel
theorem dX3_isUnordered_4 : decode cX3_isUnordered 4 = .ok (.if_icmp .ge 70, 3) := by decide +kernel
theorem dX3_isUnordered_7 : decode cX3_isUnordered 7 = .ok (.iconst 0, 1) := by decide +kernel
theorem dX3_isUnordered_8 : decode cX3_isUnordered 8 = .ok (.istore 4, 2) := by decide +kernel
theorem dX3_isUnordered_10 : decode cX3_isUnordered 10 = .ok (.iload 4, 2) := by decide +kernel
theorem dX3_isUnordered_12 : decode cX3_isUnordered 12 = .ok (.iload_n 2, 1) := by decide +kernel
theorem dX3_isUnordered_13 : decode cX3_isUnordered 13 = .ok (.if_icmp .ge 55, 3) := by decide +kernel
theorem dX3_isUnordered_16 : decode cX3_isUnordered 16 = .ok (.iload_n 1, 1) := by decide +kernel
theorem dX3_isUnordered_17 : decode cX3_isUnordered 17 = .ok (.iload_n 3, 1) := by decide +kernel
theorem dX3_isUnordered_18 : decode cX3_isUnordered 18 = .ok (.ishr, 1) := by decide +kernel
theorem dX3_isUnordered_19 : decode cX3_isUnordered 19 = .ok (.iload_n 1, 1) := by decide +kernel
theorem dX3_isUnordered_20 : decode cX3_isUnordered 20 = .ok (.iload 4, 2) := by decide +kernel
theorem dX3_isUnordered_22 : decode cX3_isUnordered 22 = .ok (.ishr, 1) := by decide +kernel
theorem dX3_isUnordered_23 : decode cX3_isUnordered 23 = .ok (.iand, 1) := by decide +kernel
theorem dX3_isUnordered_24 : decode cX3_isUnordered 24 = .ok (.iconst 1, 1) := by decide +kernel
theorem dX3_isUnordered_25 : decode cX3_isUnordered 25 = .ok (.iand, 1) := by decide +kernel
theorem dX3_isUnordered_26 : decode cX3_isUnordered 26 = .ok (.ifCond .eq 7, 3) := by decide +kernel
theorem dX3_isUnordered_29 : decode cX3_isUnordered 29 = .ok (.iconst 1, 1) := by decide +kernel
theorem dX3_isUnordered_30 : decode cX3_isUnordered 30 = .ok (.goto 4, 3) := by decide +kernel
theorem dX3_isUnordered_33 : decode cX3_isUnordered 33 = .ok (.iconst 0, 1) := by decide +kernel
theorem dX3_isUnordered_34 : decode cX3_isUnordered 34 = .ok (.istore 5, 2) := by decide +kernel
theorem dX3_isUnordered_36 : decode cX3_isUnordered 36 = .ok (.iload 5, 2) := by decide +kernel
theorem dX3_isUnordered_38 : decode cX3_isUnordered 38 = .ok (.ifCond .eq 24, 3) := by decide +kernel
theorem dX3_isUnordered_41 : decode cX3_isUnordered 41 = .ok (.iload_n 3, 1) := by decide +kernel
theorem dX3_isUnordered_42 : decode cX3_isUnordered 42 = .ok (.iload 4, 2) := by decide +kernel
theorem dX3_isUnordered_44 : decode cX3_isUnordered 44 = .ok (.if_icmp .eq 18, 3) := by decide +kernel
theorem dX3_isUnordered_47 : decode cX3_isUnordered 47 = .ok (.aload_n 0, 1) := by decide +kernel
theorem dX3_isUnordered_48 : decode cX3_isUnordered 48 = .ok (.getfield 15, 3) := by decide +kernel
theorem dX3_isUnordered_51 : decode cX3_isUnordered 51 = .ok (.iload_n 3, 1) := by decide +kernel
theorem dX3_isUnordered_52 : decode cX3_isUnordered 52 = .ok (.iload 4, 2) := by decide +kernel
theorem dX3_isUnordered_54 : decode cX3_isUnordered 54 = .ok (.invokevirtual 77, 3) := by decide +kernel
theorem dX3_isUnordered_57 : decode cX3_isUnordered 57 = .ok (.ifCond .eq 5, 3) := by decide +kernel
theorem dX3_isUnordered_60 : decode cX3_isUnordered 60 = .ok (.iconst 0, 1) := by decide +kernel
theorem dX3_isUnordered_61 : decode cX3_isUnordered 61 = .ok (.ireturn, 1) := by decide +kernel
theorem dX3_isUnordered_62 : decode cX3_isUnordered 62 = .ok (.iinc 4 1, 3) := by decide +kernel
theorem dX3_isUnordered_65 : decode cX3_isUnordered 65 = .ok (.goto (-55), 3) := by decide +kernel
theorem dX3_isUnordered_68 : decode cX3_isUnordered 68 = .ok (.iinc 3 1, 3) := by decide +kernel
theorem dX3_isUnordered_71 : decode cX3_isUnordered 71 = .ok (.goto (-69), 3) := by decide +kernel
theorem dX3_isUnordered_74 : decode cX3_isUnordered 74 = .ok (.iconst 1, 1) := by decide +kernel
theorem dX3_isUnordered_75 : decode cX3_isUnordered 75 = .ok (.ireturn, 1) := by decide +kernel
theorem dX3_many_0 : decode cX3_many 0 = .ok (.aload_n 0, 1) := by decide +kernel
theorem dX3_many_1 : decode cX3_many 1 = .ok (.invokevirtual 23, 3) := by decide +kernel
theorem dX3_many_4 : decode cX3_many 4 = .ok (.iconst 0, 1) := by decide +kernel
theorem dX3_many_5 : decode cX3_many 5 = .ok (.istore_n 2, 1) := by decide +kernel
theorem dX3_many_6 : decode cX3_many 6 = .ok (.iconst 0, 1) := by decide +kernel
theorem dX3_many_7 : decode cX3_many 7 = .ok (.istore_n 3, 1) := by decide +kernel
theorem dX3_many_8 : decode cX3_many 8 = .ok (.iload_n 3, 1) := by decide +kernel
theorem dX3_many_9 : decode cX3_many 9 = .ok (.aload_n 0, 1) := by decide +kernel
theorem dX3_many_10 : decode cX3_many 10 = .ok (.getfield 26, 3) := by decide +kernel
theorem dX3_many_13 : decode cX3_many 13 = .ok (.if_icmp .ge 21, 3) := by decide +kernel
theorem dX3_many_16 : decode cX3_many 16 = .ok (.aload_n 0, 1) := by decide +kernel
theorem dX3_many_17 : decode cX3_many 17 = .ok (.iload_n 1, 1) := by decide +kernel
theorem dX3_many_18 : decode cX3_many 18 = .ok (.iload_n 3, 1) := by decide +kernel
theorem dX3_many_19 : decode cX3_many 19 = .ok (.invokevirtual 30, 3) := by decide +kernel
theorem dX3_many_22 : decode cX3_many 22 = .ok (.ifCond .eq 6, 3) := by decide +kernel
theorem dX3_many_25 : decode cX3_many 25 = .ok (.iinc 2 1, 3) := by decide +kernel
theorem dX3_many_28 : decode cX3_many 28 = .ok (.iinc 3 1, 3) := by decide +kernel
theorem dX3_many_31 : decode cX3_many 31 = .ok (.goto (-23), 3) := by decide +kernel
theorem dX3_many_34 : decode cX3_many 34 = .ok (.iload_n 2, 1) := by decide +kernel
theorem dX3_many_35 : decode cX3_many 35 = .ok (.ireturn, 1) := by decide +kernel
theorem dX3_numbered_0 : decode cX3_numbered 0 = .ok (.aload_n 0, 1) := by decide +kernel
theorem dX3_numbered_1 : decode cX3_numbered 1 = .ok (.invokevirtual 23, 3) := by decide +kernel
theorem dX3_numbered_4 : decode cX3_numbered 4 = .ok (.iconst 0, 1) := by decide +kernel
theorem dX3_numbered_5 : decode cX3_numbered 5 = .ok (.istore_n 3, 1) := by decide +kernel
theorem dX3_numbered_6 : decode cX3_numbered 6 = .ok (.iconst 0, 1) := by decide +kernel
theorem dX3_numbered_7 : decode cX3_numbered 7 = .ok (.istore 4, 2) := by decide +kernel
theorem dX3_numbered_9 : decode cX3_numbered 9 = .ok (.iload 4, 2) := by decide +kernel
theorem dX3_numbered_11 : decode cX3_numbered 11 = .ok (.aload_n 0, 1) := by decide +kernel
theorem dX3_numbered_12 : decode cX3_numbered 12 = .ok (.getfield 26, 3) := by decide +kernel
theorem dX3_numbered_15 : decode cX3_numbered 15 = .ok (.if_icmp .ge 35, 3) := by decide +kernel
theorem dX3_numbered_18 : decode cX3_numbered 18 = .ok (.aload_n 0, 1) := by decide +kernel
theorem dX3_numbered_19 : decode cX3_numbered 19 = .ok (.iload_n 1, 1) := by decide +kernel
theorem dX3_numbered_20 : decode cX3_numbered 20 = .ok (.iload 4, 2) := by decide +kernel
theorem dX3_numbered_22 : decode cX3_numbered 22 = .ok (.invokevirtual 30, 3) := by decide +kernel
theorem dX3_numbered_25 : decode cX3_numbered 25 = .ok (.ifCond .eq 19, 3) := by decide +kernel
theorem dX3_numbered_28 : decode cX3_numbered 28 = .ok (.iload_n 3, 1) := by decide +kernel
theorem dX3_numbered_29 : decode cX3_numbered 29 = .ok (.iload_n 2, 1) := by decide +kernel
theorem dX3_numbered_30 : decode cX3_numbered 30 = .ok (.if_icmp .ne 11, 3) := by decide +kernel
theorem dX3_numbered_33 : decode cX3_numbered 33 = .ok (.aload_n 0, 1) := by decide +kernel
theorem dX3_numbered_34 : decode cX3_numbered 34 = .ok (.getfield 11, 3) := by decide +kernel
theorem dX3_numbered_37 : decode cX3_numbered 37 = .ok (.iload 4, 2) := by decide +kernel
theorem dX3_numbered_39 : decode cX3_numbered 39 = .ok (.aaload, 1) := by decide +kernel
theorem dX3_numbered_40 : decode cX3_numbered 40 = .ok (.areturn, 1) := by decide +kernel
theorem dX3_numbered_41 : decode cX3_numbered 41 = .ok (.iinc 3 1, 3) := by decide +kernel
theorem dX3_numbered_44 : decode cX3_numbered 44 = .ok (.iinc 4 1, 3) := by decide +kernel
theorem dX3_numbered_47 : decode cX3_numbered 47 = .ok (.goto (-38), 3) := by decide +kernel
theorem dX3_numbered_50 : decode cX3_numbered 50 = .ok (.aconst_null, 1) := by decide +kernel
theorem dX3_numbered_51 : decode cX3_numbered 51 = .ok (.areturn, 1) := by decide +kernel
theorem dX3_sortIn_0 : decode cX3_sortIn 0 = .ok (.aload_n 1, 1) := by decide +kernel
theorem dX3_sortIn_1 : decode cX3_sortIn 1 = .ok (.ifnull 15, 3) := by decide +kernel
theorem dX3_sortIn_4 : decode cX3_sortIn 4 = .ok (.aload_n 0, 1) := by decide +kernel
theorem dX3_sortIn_5 : decode cX3_sortIn 5 = .ok (.getfield 26, 3) := by decide +kernel
theorem dX3_sortIn_8 : decode cX3_sortIn 8 = .ok (.aload_n 0, 1) := by decide +kernel
theorem dX3_sortIn_9 : decode cX3_sortIn 9 = .ok (.getfield 11, 3) := by decide +kernel
theorem dX3_sortIn_12 : decode cX3_sortIn 12 = .ok (.arraylength, 1) := by decide +kernel
theorem dX3_sortIn_13 : decode cX3_sortIn 13 = .ok (.if_icmp .lt 4, 3) := by decide +kernel
theorem dX3_sortIn_16 : decode cX3_sortIn 16 = .ok (.return_, 1) := by decide +kernel
theorem dX3_sortIn_17 : decode cX3_sortIn 17 = .ok (.aload_n 0, 1) := by decide +kernel
theorem dX3_sortIn_18 : decode cX3_sortIn 18 = .ok (.getfield 26, 3) := by decide +kernel
theorem dX3_sortIn_21 : decode cX3_sortIn 21 = .ok (.istore_n 2, 1) := by decide +kernel
theorem dX3_sortIn_22 : decode cX3_sortIn 22 = .ok (.iload_n 2, 1) := by decide +kernel
theorem dX3_sortIn_23 : decode cX3_sortIn 23 = .ok (.ifCond .le 38, 3) := by decide +kernel
theorem dX3_sortIn_26 : decode cX3_sortIn 26 = .ok (.aload_n 1, 1) := by decide +kernel
theorem dX3_sortIn_27 : decode cX3_sortIn 27 = .ok (.aload_n 0, 1) := by decide +kernel
theorem dX3_sortIn_28 : decode cX3_sortIn 28 = .ok (.getfield 11, 3) := by decide +kernel
theorem dX3_sortIn_31 : decode cX3_sortIn 31 = .ok (.iload_n 2, 1) := by decide +kernel
theorem dX3_sortIn_32 : decode cX3_sortIn 32 = .ok (.iconst 1, 1) := by decide +kernel
theorem dX3_sortIn_33 : decode cX3_sortIn 33 = .ok (.isub, 1) := by decide +kernel
theorem dX3_sortIn_34 : decode cX3_sortIn 34 = .ok (.aaload, 1) := by decide +kernel
theorem dX3_sortIn_35 : decode cX3_sortIn 35 = .ok (.invokevirtual 34, 3) := by decide +kernel
theorem dX3_sortIn_38 : decode cX3_sortIn 38 = .ok (.ifCond .ge 23, 3) := by decide +kernel
theorem dX3_sortIn_41 : decode cX3_sortIn 41 = .ok (.aload_n 0, 1) := by decide +kernel
theorem dX3_sortIn_42 : decode cX3_sortIn 42 = .ok (.getfield 11, 3) := by decide +kernel
theorem dX3_sortIn_45 : decode cX3_sortIn 45 = .ok (.iload_n 2, 1) := by decide +kernel
theorem dX3_sortIn_46 : decode cX3_sortIn 46 = .ok (.aload_n 0, 1) := by decide +kernel
theorem dX3_sortIn_47 : decode cX3_sortIn 47 = .ok (.getfield 11, 3) := by decide +kernel
theorem dX3_sortIn_50 : decode cX3_sortIn 50 = .ok (.iload_n 2, 1) := by decide +kernel
theorem dX3_sortIn_51 : decode cX3_sortIn 51 = .ok (.iconst 1, 1) := by decide +kernel
theorem dX3_sortIn_52 : decode cX3_sortIn 52 = .ok (.isub, 1) := by decide +kernel
theorem dX3_sortIn_53 : decode cX3_sortIn 53 = .ok (.aaload, 1) := by decide +kernel
theorem dX3_sortIn_54 : decode cX3_sortIn 54 = .ok (.aastore, 1) := by decide +kernel
theorem dX3_sortIn_55 : decode cX3_sortIn 55 = .ok (.iinc 2 (-1), 3) := by decide +kernel
theorem dX3_sortIn_58 : decode cX3_sortIn 58 = .ok (.goto (-36), 3) := by decide +kernel
theorem dX3_sortIn_61 : decode cX3_sortIn 61 = .ok (.aload_n 0, 1) := by decide +kernel
theorem dX3_sortIn_62 : decode cX3_sortIn 62 = .ok (.getfield 11, 3) := by decide +kernel
theorem dX3_sortIn_65 : decode cX3_sortIn 65 = .ok (.iload_n 2, 1) := by decide +kernel
theorem dX3_sortIn_66 : decode cX3_sortIn 66 = .ok (.aload_n 1, 1) := by decide +kernel
theorem dX3_sortIn_67 : decode cX3_sortIn 67 = .ok (.aastore, 1) := by decide +kernel
theorem dX3_sortIn_68 : decode cX3_sortIn 68 = .ok (.aload_n 0, 1) := by decide +kernel
theorem dX3_sortIn_69 : decode cX3_sortIn 69 = .ok (.dup, 1) := by decide +kernel
theorem dX3_sortIn_70 : decode cX3_sortIn 70 = .ok (.getfield 26, 3) := by decide +kernel
theorem dX3_sortIn_73 : decode cX3_sortIn 73 = .ok (.iconst 1, 1) := by decide +kernel
theorem dX3_sortIn_74 : decode cX3_sortIn 74 = .ok (.iadd, 1) := by decide +kernel
theorem dX3_sortIn_75 : decode cX3_sortIn 75 = .ok (.putfield 26, 3) := by decide +kernel
theorem dX3_sortIn_78 : decode cX3_sortIn 78 = .ok (.return_, 1) := by decide +kernel
/-- X3 isDay (I)Z -/
def f_X3_isDay (n : Nat) (p0 : Int) (mi : Mem) : Option Rz :=
  jn (fun (s0_14 : Int) (m14 : Mem) =>
    rtZ s0_14 m14
  ) fun (j14 : Int → Mem → Option Rz) =>
  jn (fun (m13 : Mem) =>
    j14 0 m13
  ) fun (j13 : Mem → Option Rz) =>
  if p0 < 0 then (
    j13 mi
  ) else
  if 3 < p0 then (
    j13 mi
  ) else
  j14 1 mi
set_option maxRecDepth 100000 in
set_option maxHeartbeats 4000000 in
theorem s_X3_isDay (l : Launch) (sc : g_S) (E : Mem → g_H) (R : Nat → Prop) (hE : LE E R) (hR : RCL R) (n : Nat)  (p0 : Int) (hp0 : inR p0) (mi : Mem) (r : Rz) (H : f_X3_isDay n p0 mi = some r) : AMet l sc yX3_isDay cX3_isDay 1 (some FieldType.boolean) 0 0 0 [iv p0] (E mi) (pI E r) := by
  unfold f_X3_isDay at H
  refine AMet.of (own := RX3) (by decide +kernel) rfl (Nat.le_of_ble_eq_true rfl) [(0, iv p0)] rfl (fun D base ad => ?_)
  refine aw_iload_n (pc := 0) dX3_isDay_0 rfl ?_
  refine jn_ind (fun (f9 : Int → Mem → Option Rz) => ∀ (s0_14 : Int) (m14 : Mem), inR s0_14 → f9 s0_14 m14 = some r → AW l D base sc RX3 yX3_isDay cX3_isDay 1 (some FieldType.boolean) 0 0 0 ad (E mi) (pI E r) 0 0 (E m14) 14 [] [iv s0_14]) (fun s0_14 m14 hs0_14 H => ?_) (fun j14 hj14 H => ?_) H
  · -- 14
    exact cx_zret (pc := 14) rfl (Nat.le_of_ble_eq_true rfl) (Nat.le_of_ble_eq_true rfl) dX3_isDay_14 H
  refine jn_ind (fun (f9 : Mem → Option Rz) => ∀ (m13 : Mem), f9 m13 = some r → AW l D base sc RX3 yX3_isDay cX3_isDay 1 (some FieldType.boolean) 0 0 0 ad (E mi) (pI E r) 0 0 (E m13) 13 [] []) (fun m13 H => ?_) (fun j13 hj13 H => ?_) H
  · -- 13
    refine cx_iconst (pc := 13) dX3_isDay_13 ?_
    exact AW.sel [] rfl (hj14 _ _ (inR_lit _ rfl) H)
  refine cx_if_lt (pc := 1) 13 hp0 dX3_isDay_1 rfl H (fun H => ?_) (fun H => ?_)
  · -- 1: 13
    exact AW.sel [] rfl (hj13 _ H)
  · -- 1: 4
    refine aw_iload_n (pc := 4) dX3_isDay_4 rfl ?_
    refine cx_iconst (pc := 5) dX3_isDay_5 ?_
    refine cx_icmp_gt (pc := 6) 13 hp0 (inR_lit _ rfl) dX3_isDay_6 rfl H (fun H => ?_) (fun H => ?_)
    · -- 6: 13
      exact AW.sel [] rfl (hj13 _ H)
    · -- 6: 9
      refine cx_iconst (pc := 9) dX3_isDay_9 ?_
      refine aw_goto (pc := 10) 14 dX3_isDay_10 rfl ?_
      exact AW.sel [] rfl (hj14 _ _ (inR_lit _ rfl) H)
/-- X3 isUnordered (II)Z -/
def f_X3_isUnordered (n : Nat) (p1 : Int) (p2 : Int) (mi : Mem) : Option Rz :=
  lp (F := Int → Mem → Option Rz) (fun _ _ => none) (fun w2 v3_2 m2 =>
    if v3_2 < p2 then (
      lp (F := Int → Mem → Option Rz) (fun _ _ => none) (fun w10 v4_10 m10 =>
        if v4_10 < p2 then (
          jn (fun (s0_34 : Int) (m34 : Mem) =>
            jn (fun (m62 : Mem) =>
              w10 (w32 (v4_10 + 1)) m62
            ) fun (j62 : Mem → Option Rz) =>
            if s0_34 = 0 then (
              j62 m34
            ) else
            if v3_2 = v4_10 then (
              j62 m34
            ) else
            cal (f_X9_isAtMost n v3_2 v4_10 m34) fun x54 m54 =>
            if x54 = 0 then (
              j62 m54
            ) else
            rtZ 0 m54
          ) fun (j34 : Int → Mem → Option Rz) =>
          if iand (iand (ishr p1 v3_2) (ishr p1 v4_10)) 1 = 0 then (
            j34 0 m10
          ) else
          j34 1 m10
        ) else
        w2 (w32 (v3_2 + 1)) m10
      ) n 0 m2
    ) else
    rtZ 1 m2
  ) n 0 mi
set_option maxRecDepth 100000 in
set_option maxHeartbeats 4000000 in
theorem s_X3_isUnordered (l : Launch) (sc : g_S) (E : Mem → g_H) (R : Nat → Prop) (hE : LE E R) (hR : RCL R) (n : Nat)  (p1 : Int) (p2 : Int) (hp1 : inR p1) (hp2 : inR p2) (mi : Mem) (r : Rz) (H : f_X3_isUnordered n p1 p2 mi = some r) : AMet l sc yX3_isUnordered cX3_isUnordered 6 (some FieldType.boolean) 2 0 0 [.ref 39, iv p1, iv p2] (E mi) (pI E r) := by
  have r4 : R 4 := hR.1 4 (Nat.le_of_ble_eq_true rfl) (Nat.le_of_ble_eq_true rfl)
  have r39 : R 39 := hR.1 39 (Nat.le_of_ble_eq_true rfl) (Nat.le_of_ble_eq_true rfl)
  unfold f_X3_isUnordered at H
  refine AMet.of (own := RX3) (by decide +kernel) rfl (Nat.le_of_ble_eq_true rfl) [(0, .ref 39), (1, iv p1), (2, iv p2)] rfl (fun D base ad => ?_)
  refine cx_iconst (pc := 0) dX3_isUnordered_0 ?_
  refine aw_istore_n (pc := 1) [(3, iv 0), (0, .ref 39), (1, iv p1), (2, iv p2)] dX3_isUnordered_1 rfl (by decide) ?_
  refine AW.sel [1, 2, 3, 0] rfl (lp_ind (bot := fun _ _ => none) (fun (f9 : Int → Mem → Option Rz) => ∀ (v3_2 : Int) (m2 : Mem), inR v3_2 → f9 v3_2 m2 = some r → AW l D base sc RX3 yX3_isUnordered cX3_isUnordered 6 (some FieldType.boolean) 2 0 0 ad (E mi) (pI E r) 0 0 (E m2) 2 [(0, .ref 39), (1, iv p1), (2, iv p2), (3, iv v3_2)] []) (fun _ _ _ h9 => nomatch h9) (fun w2 ih2 v3_2 m2 hv3_2 H => ?_) n _ _ (inR_lit _ rfl) H)
  refine aw_iload_n (pc := 2) dX3_isUnordered_2 rfl ?_
  refine aw_iload_n (pc := 3) dX3_isUnordered_3 rfl ?_
  refine cx_icmp_ge (pc := 4) 74 hv3_2 hp2 dX3_isUnordered_4 rfl H (fun H => ?_) (fun H => ?_)
  · -- 4: 7
    refine cx_iconst (pc := 7) dX3_isUnordered_7 ?_
    refine aw_istore (pc := 8) [(4, iv 0), (0, .ref 39), (1, iv p1), (2, iv p2), (3, iv v3_2)] dX3_isUnordered_8 rfl (by decide) ?_
    refine AW.sel [1, 2, 3, 4, 0] rfl (lp_ind (bot := fun _ _ => none) (fun (f9 : Int → Mem → Option Rz) => ∀ (v4_10 : Int) (m10 : Mem), inR v4_10 → f9 v4_10 m10 = some r → AW l D base sc RX3 yX3_isUnordered cX3_isUnordered 6 (some FieldType.boolean) 2 0 0 ad (E mi) (pI E r) 0 0 (E m10) 10 [(0, .ref 39), (1, iv p1), (2, iv p2), (3, iv v3_2), (4, iv v4_10)] []) (fun _ _ _ h9 => nomatch h9) (fun w10 ih10 v4_10 m10 hv4_10 H => ?_) n _ _ (inR_lit _ rfl) H)
    refine aw_iload (pc := 10) dX3_isUnordered_10 rfl ?_
    refine aw_iload_n (pc := 12) dX3_isUnordered_12 rfl ?_
    refine cx_icmp_ge (pc := 13) 68 hv4_10 hp2 dX3_isUnordered_13 rfl H (fun H => ?_) (fun H => ?_)
    · -- 13: 16
      refine aw_iload_n (pc := 16) dX3_isUnordered_16 rfl ?_
      refine aw_iload_n (pc := 17) dX3_isUnordered_17 rfl ?_
      refine cx_ishr (pc := 18) dX3_isUnordered_18 ?_
      refine aw_iload_n (pc := 19) dX3_isUnordered_19 rfl ?_
      refine aw_iload (pc := 20) dX3_isUnordered_20 rfl ?_
      refine cx_ishr (pc := 22) dX3_isUnordered_22 ?_
      refine cx_iand (pc := 23) dX3_isUnordered_23 ?_
      refine cx_iconst (pc := 24) dX3_isUnordered_24 ?_
      refine cx_iand (pc := 25) dX3_isUnordered_25 ?_
      refine jn_ind (fun (f9 : Int → Mem → Option Rz) => ∀ (s0_34 : Int) (m34 : Mem), inR s0_34 → f9 s0_34 m34 = some r → AW l D base sc RX3 yX3_isUnordered cX3_isUnordered 6 (some FieldType.boolean) 2 0 0 ad (E mi) (pI E r) 0 0 (E m34) 34 [(0, .ref 39), (1, iv p1), (2, iv p2), (3, iv v3_2), (4, iv v4_10)] [iv s0_34]) (fun s0_34 m34 hs0_34 H => ?_) (fun j34 hj34 H => ?_) H
      · -- 34
        refine aw_istore (pc := 34) [(5, iv s0_34), (0, .ref 39), (1, iv p1), (2, iv p2), (3, iv v3_2), (4, iv v4_10)] dX3_isUnordered_34 rfl (by decide) ?_
        refine aw_iload (pc := 36) dX3_isUnordered_36 rfl ?_
        refine jn_ind (fun (f9 : Mem → Option Rz) => ∀ (m62 : Mem), f9 m62 = some r → AW l D base sc RX3 yX3_isUnordered cX3_isUnordered 6 (some FieldType.boolean) 2 0 0 ad (E mi) (pI E r) 0 0 (E m62) 62 [(0, .ref 39), (1, iv p1), (2, iv p2), (3, iv v3_2), (4, iv v4_10)] []) (fun m62 H => ?_) (fun j62 hj62 H => ?_) H
        · -- 62
          refine cx_iinc (pc := 62) [(4, iv (w32 (v4_10 + 1))), (0, .ref 39), (1, iv p1), (2, iv p2), (3, iv v3_2)] dX3_isUnordered_62 rfl rfl (by decide) ?_
          refine aw_goto (pc := 65) 10 dX3_isUnordered_65 rfl ?_
          exact AW.sel [1, 2, 3, 4, 0] rfl (ih10 _ _ (inR_w32 _) H)
        refine cx_if_eq (pc := 38) 62 hs0_34 dX3_isUnordered_38 rfl H (fun H => ?_) (fun H => ?_)
        · -- 38: 62
          exact AW.sel [1, 2, 3, 4, 5] rfl (hj62 _ H)
        · -- 38: 41
          refine aw_iload_n (pc := 41) dX3_isUnordered_41 rfl ?_
          refine aw_iload (pc := 42) dX3_isUnordered_42 rfl ?_
          refine cx_icmp_eq (pc := 44) 62 hv3_2 hv4_10 dX3_isUnordered_44 rfl H (fun H => ?_) (fun H => ?_)
          · -- 44: 62
            exact AW.sel [1, 2, 3, 4, 5] rfl (hj62 _ H)
          · -- 44: 47
            refine aw_aload_n (pc := 47) dX3_isUnordered_47 rfl ?_
            refine cx_gtC (pc := 48) 4 hE r39 fl_X3_15 rfl rfl (Nat.le_of_ble_eq_true rfl) dX3_isUnordered_48 ?_
            refine aw_iload_n (pc := 51) dX3_isUnordered_51 rfl ?_
            refine aw_iload (pc := 52) dX3_isUnordered_52 rfl ?_
            refine cx_callV (pc := 54) (P := pI) (dC := 1) (mcC := 0) (msC := 0) [iv v3_2, iv v4_10] hE r4 (fun r1 H1 => s_X9_isAtMost l sc E R hE hR.ys n v3_2 v4_10 hv3_2 hv4_10 m34 r1 H1) ca_X3_77 rfl ⟨_, rfl, rfl⟩ rfl rfl (Nat.le_of_ble_eq_true rfl) (Nat.le_of_ble_eq_true rfl) (Nat.le_of_ble_eq_true rfl) (Nat.le_of_ble_eq_true rfl) dX3_isUnordered_54 H (fun x54 m54 v54 hh54 H hp => ?_)
            refine cx_backI hp (fun hx54 => ?_)
            refine cx_if_eq (pc := 57) 62 hx54 dX3_isUnordered_57 rfl H (fun H => ?_) (fun H => ?_)
            · -- 57: 62
              exact AW.sel [1, 2, 3, 4, 5] rfl (hj62 _ H)
            · -- 57: 60
              refine cx_iconst (pc := 60) dX3_isUnordered_60 ?_
              exact cx_zret (pc := 61) rfl (Nat.le_of_ble_eq_true rfl) (Nat.le_of_ble_eq_true rfl) dX3_isUnordered_61 H
      refine cx_if_eq (pc := 26) 33 (inR_32 _) dX3_isUnordered_26 rfl H (fun H => ?_) (fun H => ?_)
      · -- 26: 33
        refine cx_iconst (pc := 33) dX3_isUnordered_33 ?_
        exact AW.sel [0, 1, 2, 3, 4] rfl (hj34 _ _ (inR_lit _ rfl) H)
      · -- 26: 29
        refine cx_iconst (pc := 29) dX3_isUnordered_29 ?_
        refine aw_goto (pc := 30) 34 dX3_isUnordered_30 rfl ?_
        exact AW.sel [0, 1, 2, 3, 4] rfl (hj34 _ _ (inR_lit _ rfl) H)
    · -- 13: 68
      refine cx_iinc (pc := 68) [(3, iv (w32 (v3_2 + 1))), (0, .ref 39), (1, iv p1), (2, iv p2), (4, iv v4_10)] dX3_isUnordered_68 rfl rfl (by decide) ?_
      refine aw_goto (pc := 71) 2 dX3_isUnordered_71 rfl ?_
      exact AW.sel [1, 2, 3, 0] rfl (ih2 _ _ (inR_w32 _) H)
  · -- 4: 74
    refine cx_iconst (pc := 74) dX3_isUnordered_74 ?_
    exact cx_zret (pc := 75) rfl (Nat.le_of_ble_eq_true rfl) (Nat.le_of_ble_eq_true rfl) dX3_isUnordered_75 H
/-- X3 addDay (I)I -/
def f_X3_addDay (n : Nat) (p1 : Int) (mi : Mem) : Option Rz :=
  nm (w32 (p1 - 1)) fun z3 =>
  lp (F := Int → Int → Mem → Option Rz) (fun _ _ _ => none) (fun w6 v2_6 v3_6 m6 =>
    if v3_6 < ishl 1 p1 then (
      cal (f_X3_isUnordered n v3_6 p1 m6) fun x16 m16 =>
      jn (fun (v2_73 : Int) (m73 : Mem) =>
        w6 v2_73 (w32 (v3_6 + 1)) m73
      ) fun (j73 : Int → Mem → Option Rz) =>
      if x16 = 0 then (
        j73 v2_6 m16
      ) else
      lp (F := Int → Int → Mem → Option Rz) (fun _ _ _ => none) (fun w25 v2_25 v4_25 m25 =>
        if v4_25 < ishl 1 p1 then (
          cal (f_X3_isUnordered n v4_25 p1 m25) fun x37 m37 =>
          jn (fun (v2_67 : Int) (m67 : Mem) =>
            w25 v2_67 (w32 (v4_25 + 1)) m67
          ) fun (j67 : Int → Mem → Option Rz) =>
          if x37 = 0 then (
            j67 v2_25 m37
          ) else
          cal (f_X9_beginWith n (i2j v3_6) (i2j v4_25) m37) fun _ m52 =>
          cal (f_X9_end n m52) fun x60 m60 =>
          nm (imax v2_25 x60) fun z66 =>
          j67 z66 m60
        ) else
        j73 v2_25 m25
      ) n v2_6 1 m16
    ) else
    rt (w32 (v2_6 + 1)) m6
  ) n z3 1 mi
set_option maxRecDepth 100000 in
set_option maxHeartbeats 4000000 in
theorem s_X3_addDay (l : Launch) (sc : g_S) (E : Mem → g_H) (R : Nat → Prop) (hE : LE E R) (hR : RCL R) (n : Nat)  (p1 : Int) (hp1 : inR p1) (mi : Mem) (r : Rz) (H : f_X3_addDay n p1 mi = some r) : AMet l sc yX3_addDay cX3_addDay 5 (some FieldType.int) 3 0 0 [.ref 39, iv p1] (E mi) (pI E r) := by
  have r4 : R 4 := hR.1 4 (Nat.le_of_ble_eq_true rfl) (Nat.le_of_ble_eq_true rfl)
  have r39 : R 39 := hR.1 39 (Nat.le_of_ble_eq_true rfl) (Nat.le_of_ble_eq_true rfl)
  unfold f_X3_addDay at H
  refine AMet.of (own := RX3) (by decide +kernel) rfl (Nat.le_of_ble_eq_true rfl) [(0, .ref 39), (1, iv p1)] rfl (fun D base ad => ?_)
  refine aw_iload_n (pc := 0) dX3_addDay_0 rfl ?_
  refine cx_iconst (pc := 1) dX3_addDay_1 ?_
  refine cx_isub (pc := 2) dX3_addDay_2 ?_
  refine cx_nm (inR_w32 _) H (fun z3 hz3 H => ?_)
  refine aw_istore_n (pc := 3) [(2, iv z3), (0, .ref 39), (1, iv p1)] dX3_addDay_3 rfl (by decide) ?_
  refine cx_iconst (pc := 4) dX3_addDay_4 ?_
  refine aw_istore_n (pc := 5) [(3, iv 1), (2, iv z3), (0, .ref 39), (1, iv p1)] dX3_addDay_5 rfl (by decide) ?_
  refine AW.sel [2, 3, 1, 0] rfl (lp_ind (bot := fun _ _ _ => none) (fun (f9 : Int → Int → Mem → Option Rz) => ∀ (v2_6 : Int) (v3_6 : Int) (m6 : Mem), inR v2_6 → inR v3_6 → f9 v2_6 v3_6 m6 = some r → AW l D base sc RX3 yX3_addDay cX3_addDay 5 (some FieldType.int) 3 0 0 ad (E mi) (pI E r) 0 0 (E m6) 6 [(0, .ref 39), (1, iv p1), (2, iv v2_6), (3, iv v3_6)] []) (fun _ _ _ _ _ h9 => nomatch h9) (fun w6 ih6 v2_6 v3_6 m6 hv2_6 hv3_6 H => ?_) n _ _ _ hz3 (inR_lit _ rfl) H)
  refine aw_iload_n (pc := 6) dX3_addDay_6 rfl ?_
  refine cx_iconst (pc := 7) dX3_addDay_7 ?_
  refine aw_iload_n (pc := 8) dX3_addDay_8 rfl ?_
  refine cx_ishl (pc := 9) dX3_addDay_9 ?_
  refine cx_icmp_ge (pc := 10) 79 hv3_6 (inR_32 _) dX3_addDay_10 rfl H (fun H => ?_) (fun H => ?_)
  · -- 10: 13
    refine aw_aload_n (pc := 13) dX3_addDay_13 rfl ?_
    refine aw_iload_n (pc := 14) dX3_addDay_14 rfl ?_
    refine aw_iload_n (pc := 15) dX3_addDay_15 rfl ?_
    refine cx_callV (pc := 16) (P := pI) (dC := 2) (mcC := 0) (msC := 0) [iv v3_6, iv p1] hE r39 (fun r1 H1 => s_X3_isUnordered l sc E R hE hR n v3_6 p1 hv3_6 hp1 m6 r1 H1) ca_X3_60 rfl ⟨_, rfl, rfl⟩ rfl rfl (Nat.le_of_ble_eq_true rfl) (Nat.le_of_ble_eq_true rfl) (Nat.le_of_ble_eq_true rfl) (Nat.le_of_ble_eq_true rfl) dX3_addDay_16 H (fun x16 m16 v16 hh16 H hp => ?_)
    refine cx_backI hp (fun hx16 => ?_)
    refine jn_ind (fun (f9 : Int → Mem → Option Rz) => ∀ (v2_73 : Int) (m73 : Mem), inR v2_73 → f9 v2_73 m73 = some r → AW l D base sc RX3 yX3_addDay cX3_addDay 5 (some FieldType.int) 3 0 0 ad (E mi) (pI E r) 0 0 (E m73) 73 [(0, .ref 39), (1, iv p1), (2, iv v2_73), (3, iv v3_6)] []) (fun v2_73 m73 hv2_73 H => ?_) (fun j73 hj73 H => ?_) H
    · -- 73
      refine cx_iinc (pc := 73) [(3, iv (w32 (v3_6 + 1))), (0, .ref 39), (1, iv p1), (2, iv v2_73)] dX3_addDay_73 rfl rfl (by decide) ?_
      refine aw_goto (pc := 76) 6 dX3_addDay_76 rfl ?_
      exact AW.sel [1, 2, 3, 0] rfl (ih6 _ _ _ hv2_73 (inR_w32 _) H)
    refine cx_if_eq (pc := 19) 73 hx16 dX3_addDay_19 rfl H (fun H => ?_) (fun H => ?_)
    · -- 19: 73
      exact AW.sel [0, 1, 2, 3] rfl (hj73 _ _ hv2_6 H)
    · -- 19: 22
      refine cx_iconst (pc := 22) dX3_addDay_22 ?_
      refine aw_istore (pc := 23) [(4, iv 1), (0, .ref 39), (1, iv p1), (2, iv v2_6), (3, iv v3_6)] dX3_addDay_23 rfl (by decide) ?_
      refine AW.sel [1, 2, 3, 4, 0] rfl (lp_ind (bot := fun _ _ _ => none) (fun (f9 : Int → Int → Mem → Option Rz) => ∀ (v2_25 : Int) (v4_25 : Int) (m25 : Mem), inR v2_25 → inR v4_25 → f9 v2_25 v4_25 m25 = some r → AW l D base sc RX3 yX3_addDay cX3_addDay 5 (some FieldType.int) 3 0 0 ad (E mi) (pI E r) 0 0 (E m25) 25 [(0, .ref 39), (1, iv p1), (2, iv v2_25), (3, iv v3_6), (4, iv v4_25)] []) (fun _ _ _ _ _ h9 => nomatch h9) (fun w25 ih25 v2_25 v4_25 m25 hv2_25 hv4_25 H => ?_) n _ _ _ hv2_6 (inR_lit _ rfl) H)
      refine aw_iload (pc := 25) dX3_addDay_25 rfl ?_
      refine cx_iconst (pc := 27) dX3_addDay_27 ?_
      refine aw_iload_n (pc := 28) dX3_addDay_28 rfl ?_
      refine cx_ishl (pc := 29) dX3_addDay_29 ?_
      refine cx_icmp_ge (pc := 30) 73 hv4_25 (inR_32 _) dX3_addDay_30 rfl H (fun H => ?_) (fun H => ?_)
      · -- 30: 33
        refine aw_aload_n (pc := 33) dX3_addDay_33 rfl ?_
        refine aw_iload (pc := 34) dX3_addDay_34 rfl ?_
        refine aw_iload_n (pc := 36) dX3_addDay_36 rfl ?_
        refine cx_callV (pc := 37) (P := pI) (dC := 2) (mcC := 0) (msC := 0) [iv v4_25, iv p1] hE r39 (fun r1 H1 => s_X3_isUnordered l sc E R hE hR n v4_25 p1 hv4_25 hp1 m25 r1 H1) ca_X3_60 rfl ⟨_, rfl, rfl⟩ rfl rfl (Nat.le_of_ble_eq_true rfl) (Nat.le_of_ble_eq_true rfl) (Nat.le_of_ble_eq_true rfl) (Nat.le_of_ble_eq_true rfl) dX3_addDay_37 H (fun x37 m37 v37 hh37 H hp => ?_)
        refine cx_backI hp (fun hx37 => ?_)
        refine jn_ind (fun (f9 : Int → Mem → Option Rz) => ∀ (v2_67 : Int) (m67 : Mem), inR v2_67 → f9 v2_67 m67 = some r → AW l D base sc RX3 yX3_addDay cX3_addDay 5 (some FieldType.int) 3 0 0 ad (E mi) (pI E r) 0 0 (E m67) 67 [(0, .ref 39), (1, iv p1), (2, iv v2_67), (3, iv v3_6), (4, iv v4_25)] []) (fun v2_67 m67 hv2_67 H => ?_) (fun j67 hj67 H => ?_) H
        · -- 67
          refine cx_iinc (pc := 67) [(4, iv (w32 (v4_25 + 1))), (0, .ref 39), (1, iv p1), (2, iv v2_67), (3, iv v3_6)] dX3_addDay_67 rfl rfl (by decide) ?_
          refine aw_goto (pc := 70) 25 dX3_addDay_70 rfl ?_
          exact AW.sel [1, 2, 3, 4, 0] rfl (ih25 _ _ _ hv2_67 (inR_w32 _) H)
        refine cx_if_eq (pc := 40) 67 hx37 dX3_addDay_40 rfl H (fun H => ?_) (fun H => ?_)
        · -- 40: 67
          exact AW.sel [0, 1, 2, 3, 4] rfl (hj67 _ _ hv2_25 H)
        · -- 40: 43
          refine aw_aload_n (pc := 43) dX3_addDay_43 rfl ?_
          refine cx_gtC (pc := 44) 4 hE r39 fl_X3_15 rfl rfl (Nat.le_of_ble_eq_true rfl) dX3_addDay_44 ?_
          refine aw_iload_n (pc := 47) dX3_addDay_47 rfl ?_
          refine cx_i2l (pc := 48) dX3_addDay_48 ?_
          refine aw_iload (pc := 49) dX3_addDay_49 rfl ?_
          refine cx_i2l (pc := 51) dX3_addDay_51 ?_
          refine cx_callV (pc := 52) (P := pV) (dC := 2) (mcC := 0) (msC := 0) [jv (i2j v3_6), jv (i2j v4_25)] hE r4 (fun r1 H1 => s_X9_beginWith l sc E R hE hR.ys n (i2j v3_6) (i2j v4_25) m37 r1 H1) ca_X3_63 rfl ⟨_, rfl, rfl⟩ rfl rfl (Nat.le_of_ble_eq_true rfl) (Nat.le_of_ble_eq_true rfl) (Nat.le_of_ble_eq_true rfl) (Nat.le_of_ble_eq_true rfl) dX3_addDay_52 H (fun x52 m52 v52 hh52 H hp => ?_)
          refine cx_backV hp ?_
          refine aw_iload_n (pc := 55) dX3_addDay_55 rfl ?_
          refine aw_aload_n (pc := 56) dX3_addDay_56 rfl ?_
          refine cx_gtC (pc := 57) 4 hE r39 fl_X3_15 rfl rfl (Nat.le_of_ble_eq_true rfl) dX3_addDay_57 ?_
          refine cx_callV (pc := 60) (P := pI) (dC := 2) (mcC := 0) (msC := 0) [] hE r4 (fun r1 H1 => s_X9_end l sc E R hE hR.ys n m52 r1 H1) ca_X3_67 rfl ⟨_, rfl, rfl⟩ rfl rfl (Nat.le_of_ble_eq_true rfl) (Nat.le_of_ble_eq_true rfl) (Nat.le_of_ble_eq_true rfl) (Nat.le_of_ble_eq_true rfl) dX3_addDay_60 H (fun x60 m60 v60 hh60 H hp => ?_)
          refine cx_backI hp (fun hx60 => ?_)
          refine cx_mmax (pc := 63) hv2_25 hx60 mimax_y mimax_c (g_mem 820 (by decide +kernel) rfl) ca_X3_71 (Nat.le_of_ble_eq_true rfl) (Nat.le_of_ble_eq_true rfl) (Nat.le_of_ble_eq_true rfl) (Nat.le_of_ble_eq_true rfl) dX3_addDay_63 ?_
          refine cx_nm (inR_max hv2_25 hx60) H (fun z66 hz66 H => ?_)
          refine aw_istore_n (pc := 66) [(2, iv z66), (0, .ref 39), (1, iv p1), (3, iv v3_6), (4, iv v4_25)] dX3_addDay_66 rfl (by decide) ?_
          exact AW.sel [1, 2, 0, 3, 4] rfl (hj67 _ _ hz66 H)
      · -- 30: 73
        exact AW.sel [0, 1, 2, 3] rfl (hj73 _ _ hv2_25 H)
  · -- 10: 79
    refine aw_iload_n (pc := 79) dX3_addDay_79 rfl ?_
    refine cx_iconst (pc := 80) dX3_addDay_80 ?_
    refine cx_iadd (pc := 81) dX3_addDay_81 ?_
    exact cx_iret (pc := 82) (inR_w32 _) rfl (Nat.le_of_ble_eq_true rfl) (Nat.le_of_ble_eq_true rfl) dX3_addDay_82 H
/-- X3 sortIn (LUppityGames$Game;)V -/
def f_X3_sortIn (n : Nat) (p1 : Nat) (mi : Mem) : Option Rz :=
  jn (fun (m16 : Mem) =>
    rt 0 m16
  ) fun (j16 : Mem → Option Rz) =>
  if p1 = 0 then (
    j16 mi
  ) else
  gtF mi 39 3 fun x5 =>
  if x5 < 67 then (
    gtF mi 39 3 fun x18 =>
    lp (F := Int → Mem → Option Rz) (fun _ _ => none) (fun w22 v2_22 m22 =>
      jn (fun (m61 : Mem) =>
        stG m61 40 v2_22 p1 fun m67 =>
        gtF m67 39 3 fun x70 =>
        ptF m67 39 3 (w32 (x70 + 1)) fun m75 =>
        rt 0 m75
      ) fun (j61 : Mem → Option Rz) =>
      if 0 < v2_22 then (
        ldG m22 40 (w32 (v2_22 - 1)) fun x34 =>
        isD p1 <|
        isG m22 p1 <| cal (f_X1_compareWords n p1 x34 m22) fun x35 m35 =>
        if x35 < 0 then (
          ldG m35 40 (w32 (v2_22 - 1)) fun x53 =>
          stG m35 40 v2_22 x53 fun m54 =>
          w22 (w32 (v2_22 + (-1))) m54
        ) else
        j61 m35
      ) else
      j61 m22
    ) n x18 mi
  ) else
  j16 mi
set_option maxRecDepth 100000 in
set_option maxHeartbeats 4000000 in
theorem s_X3_sortIn (l : Launch) (sc : g_S) (E : Mem → g_H) (R : Nat → Prop) (hE : LE E R) (hR : RCL R) (n : Nat)  (p1 : Nat)  (mi : Mem) (r : Rz) (H : f_X3_sortIn n p1 mi = some r) : AMet l sc yX3_sortIn cX3_sortIn 3 none 2 0 0 [.ref 39, rv p1] (E mi) (pV E r) := by
  have r39 : R 39 := hR.1 39 (Nat.le_of_ble_eq_true rfl) (Nat.le_of_ble_eq_true rfl)
  have r40 : R 40 := hR.1 40 (Nat.le_of_ble_eq_true rfl) (Nat.le_of_ble_eq_true rfl)
  unfold f_X3_sortIn at H
  refine AMet.of (own := RX3) (by decide +kernel) rfl (by rcases rv_or p1 with ep1 | ⟨_, ep1⟩ <;> simp only [ep1] <;> exact Nat.le_of_ble_eq_true rfl) [(0, .ref 39), (1, rv p1)] (by rcases rv_or p1 with ep1 | ⟨_, ep1⟩ <;> simp only [ep1] <;> rfl) (fun D base ad => ?_)
  refine cx_aload_n (pc := 0) dX3_sortIn_0 rfl ?_
  refine jn_ind (fun (f9 : Mem → Option Rz) => ∀ (m16 : Mem), f9 m16 = some r → AW l D base sc RX3 yX3_sortIn cX3_sortIn 3 none 2 0 0 ad (E mi) (pV E r) 0 0 (E m16) 16 [] []) (fun m16 H => ?_) (fun j16 hj16 H => ?_) H
  · -- 16
    exact cx_vret (pc := 16) rfl (Nat.le_of_ble_eq_true rfl) (Nat.le_of_ble_eq_true rfl) dX3_sortIn_16 H
  refine cx_ifnull (pc := 1) 16 dX3_sortIn_1 rfl H (fun H => ?_) (fun H => ?_)
  · -- 1: 16
    exact AW.sel [] rfl (hj16 _ H)
  · -- 1: 4
    refine aw_aload_n (pc := 4) dX3_sortIn_4 rfl ?_
    refine cx_gtF (pc := 5) hE r39 fl_X3_26 rfl rfl (Nat.le_of_ble_eq_true rfl) dX3_sortIn_5 H (fun x5 hx5 H => ?_)
    refine aw_aload_n (pc := 8) dX3_sortIn_8 rfl ?_
    refine cx_gtC (pc := 9) 40 hE r39 fl_X3_11 rfl rfl (Nat.le_of_ble_eq_true rfl) dX3_sortIn_9 ?_
    refine cx_lenC (pc := 12) (c := 67) hE r40 (fun _ => ⟨_, _, rfl, rfl⟩) dX3_sortIn_12 ?_
    refine cx_icmp_lt (pc := 13) 17 hx5 (inR_lit _ rfl) dX3_sortIn_13 rfl H (fun H => ?_) (fun H => ?_)
    · -- 13: 17
      refine aw_aload_n (pc := 17) dX3_sortIn_17 rfl ?_
      refine cx_gtF (pc := 18) hE r39 fl_X3_26 rfl rfl (Nat.le_of_ble_eq_true rfl) dX3_sortIn_18 H (fun x18 hx18 H => ?_)
      refine aw_istore_n (pc := 21) [(2, iv x18), (0, .ref 39), (1, rv p1)] dX3_sortIn_21 (by unfold g_st1; simp only [List.filter, rv_cat]; rfl) (by decide) ?_
      refine AW.sel [1, 2, 0] rfl (lp_ind (bot := fun _ _ => none) (fun (f9 : Int → Mem → Option Rz) => ∀ (v2_22 : Int) (m22 : Mem), inR v2_22 → f9 v2_22 m22 = some r → AW l D base sc RX3 yX3_sortIn cX3_sortIn 3 none 2 0 0 ad (E mi) (pV E r) 0 0 (E m22) 22 [(0, .ref 39), (1, rv p1), (2, iv v2_22)] []) (fun _ _ _ h9 => nomatch h9) (fun w22 ih22 v2_22 m22 hv2_22 H => ?_) n _ _ hx18 H)
      refine aw_iload_n (pc := 22) dX3_sortIn_22 rfl ?_
      refine jn_ind (fun (f9 : Mem → Option Rz) => ∀ (m61 : Mem), f9 m61 = some r → AW l D base sc RX3 yX3_sortIn cX3_sortIn 3 none 2 0 0 ad (E mi) (pV E r) 0 0 (E m61) 61 [(0, .ref 39), (1, rv p1), (2, iv v2_22)] []) (fun m61 H => ?_) (fun j61 hj61 H => ?_) H
      · -- 61
        refine aw_aload_n (pc := 61) dX3_sortIn_61 rfl ?_
        refine cx_gtC (pc := 62) 40 hE r39 fl_X3_11 rfl rfl (Nat.le_of_ble_eq_true rfl) dX3_sortIn_62 ?_
        refine aw_iload_n (pc := 65) dX3_sortIn_65 rfl ?_
        refine cx_aload_n (pc := 66) dX3_sortIn_66 rfl ?_
        refine cx_stG (pc := 67) hE r40 hR.d hv2_22 dX3_sortIn_67 H (fun m67 H => ?_)
        refine aw_aload_n (pc := 68) dX3_sortIn_68 rfl ?_
        refine aw_dup (pc := 69) dX3_sortIn_69 rfl ?_
        refine cx_gtF (pc := 70) hE r39 fl_X3_26 rfl rfl (Nat.le_of_ble_eq_true rfl) dX3_sortIn_70 H (fun x70 hx70 H => ?_)
        refine cx_iconst (pc := 73) dX3_sortIn_73 ?_
        refine cx_iadd (pc := 74) dX3_sortIn_74 ?_
        refine cx_ptF (pc := 75) tyX3 hE r39 fl_X3_26 (fun r h => ⟨gty_X3 r h, by cases h; rfl⟩) rfl rfl rfl (Nat.le_of_ble_eq_true rfl) dX3_sortIn_75 H (fun m75 H => ?_)
        exact cx_vret (pc := 78) rfl (Nat.le_of_ble_eq_true rfl) (Nat.le_of_ble_eq_true rfl) dX3_sortIn_78 H
      refine cx_if_le (pc := 23) 61 hv2_22 dX3_sortIn_23 rfl H (fun H => ?_) (fun H => ?_)
      · -- 23: 26
        refine cx_aload_n (pc := 26) dX3_sortIn_26 rfl ?_
        refine aw_aload_n (pc := 27) dX3_sortIn_27 rfl ?_
        refine cx_gtC (pc := 28) 40 hE r39 fl_X3_11 rfl rfl (Nat.le_of_ble_eq_true rfl) dX3_sortIn_28 ?_
        refine aw_iload_n (pc := 31) dX3_sortIn_31 rfl ?_
        refine cx_iconst (pc := 32) dX3_sortIn_32 ?_
        refine cx_isub (pc := 33) dX3_sortIn_33 ?_
        refine cx_ldG (pc := 34) hE r40 (inR_w32 _) dX3_sortIn_34 H (fun x34 H => ?_)
        refine cx_nn1 H (fun hg35_1 H => ?_)
        refine cx_callG (pc := 35) (P := pI) (dC := 1) (mcC := 0) (msC := 0) [rv x34] hE hR.d (fun r1 H1 => s_X1_compareWords l sc E R hE hR.d n p1 x34 hg35_1 m22 r1 H1) ca_X3_34 ⟨_, rfl, rfl⟩ rfl rfl (Nat.le_of_ble_eq_true rfl) (Nat.le_of_ble_eq_true rfl) (Nat.le_of_ble_eq_true rfl) (Nat.le_of_ble_eq_true rfl) dX3_sortIn_35 H (fun x35 m35 v35 hh35 H hp => ?_)
        refine cx_backI hp (fun hx35 => ?_)
        refine cx_if_ge (pc := 38) 61 hx35 dX3_sortIn_38 rfl H (fun H => ?_) (fun H => ?_)
        · -- 38: 41
          refine aw_aload_n (pc := 41) dX3_sortIn_41 rfl ?_
          refine cx_gtC (pc := 42) 40 hE r39 fl_X3_11 rfl rfl (Nat.le_of_ble_eq_true rfl) dX3_sortIn_42 ?_
          refine aw_iload_n (pc := 45) dX3_sortIn_45 rfl ?_
          refine aw_aload_n (pc := 46) dX3_sortIn_46 rfl ?_
          refine cx_gtC (pc := 47) 40 hE r39 fl_X3_11 rfl rfl (Nat.le_of_ble_eq_true rfl) dX3_sortIn_47 ?_
          refine aw_iload_n (pc := 50) dX3_sortIn_50 rfl ?_
          refine cx_iconst (pc := 51) dX3_sortIn_51 ?_
          refine cx_isub (pc := 52) dX3_sortIn_52 ?_
          refine cx_ldG (pc := 53) hE r40 (inR_w32 _) dX3_sortIn_53 H (fun x53 H => ?_)
          refine cx_stG (pc := 54) hE r40 hR.d hv2_22 dX3_sortIn_54 H (fun m54 H => ?_)
          refine cx_iinc (pc := 55) [(2, iv (w32 (v2_22 + (-1)))), (0, .ref 39), (1, rv p1)] dX3_sortIn_55 rfl (by unfold g_st1; simp only [List.filter, rv_cat]; rfl) (by decide) ?_
          refine aw_goto (pc := 58) 22 dX3_sortIn_58 rfl ?_
          exact AW.sel [1, 2, 0] rfl (ih22 _ _ (inR_w32 _) H)
        · -- 38: 61
          exact AW.sel [0, 1, 2] rfl (hj61 _ H)
      · -- 23: 61
        exact AW.sel [0, 1, 2] rfl (hj61 _ H)
    · -- 13: 16
      exact AW.sel [] rfl (hj16 _ H)
/-- X3 fill ()V -/
def f_X3_fill (n N : Nat)  (mi : Mem) : Option Rz :=
  gtF mi 39 3 fun x1 =>
  if 0 < x1 then (
    rt 0 mi
  ) else
  cal (f_X9_clear n mi) fun _ m12 =>
  lp (F := Int → Int → Mem → Option Rz) (fun _ _ _ => none) (fun w19 v1_19 v2_19 m19 =>
    if 3 < v2_19 then (
      lp (F := Int → Mem → Option Rz) (fun _ _ => none) (fun w38 v2_38 m38 =>
        if v2_38 < v1_19 then (
          cal (f_X4_written n v2_38 m38) fun x49 m49 =>
          cal (f_X3_sortIn n x49.toNat m49) fun _ m52 =>
          w38 (w32 (v2_38 + 1)) m52
        ) else
        rt 0 m38
      ) N 0 m19
    ) else
    cal (f_X3_addDay n v1_19 m19) fun x26 m26 =>
    w19 x26 (w32 (v2_19 + 1)) m26
  ) n 1 1 m12
set_option maxRecDepth 100000 in
set_option maxHeartbeats 4000000 in
theorem s_X3_fill (l : Launch) (sc : g_S) (E : Mem → g_H) (R : Nat → Prop) (hE : LE E R) (hR : RCL R) (hsc : sc.1 = 0) (n N : Nat)    (mi : Mem) (r : Rz) (H : f_X3_fill n N  mi = some r) : AMet l sc yX3_fill cX3_fill 3 none 5 (4 * N) (125 * N) [.ref 39] (E mi) (pV E r) := by
  have r4 : R 4 := hR.1 4 (Nat.le_of_ble_eq_true rfl) (Nat.le_of_ble_eq_true rfl)
  have r18 : R 18 := hR.1 18 (Nat.le_of_ble_eq_true rfl) (Nat.le_of_ble_eq_true rfl)
  have r39 : R 39 := hR.1 39 (Nat.le_of_ble_eq_true rfl) (Nat.le_of_ble_eq_true rfl)
  unfold f_X3_fill at H
  refine AMet.of (own := RX3) (by decide +kernel) rfl (Nat.le_of_ble_eq_true rfl) [(0, .ref 39)] rfl (fun D base ad => ?_)
  refine aw_aload_n (pc := 0) dX3_fill_0 rfl ?_
  refine cx_gtF (pc := 1) hE r39 fl_X3_26 rfl rfl (Nat.le_of_ble_eq_true rfl) dX3_fill_1 H (fun x1 hx1 H => ?_)
  refine cx_if_le (pc := 4) 8 hx1 dX3_fill_4 rfl H (fun H => ?_) (fun H => ?_)
  · -- 4: 7
    exact cx_vret (pc := 7) rfl (by omega) (by omega) dX3_fill_7 H
  · -- 4: 8
    refine aw_aload_n (pc := 8) dX3_fill_8 rfl ?_
    refine cx_gtC (pc := 9) 4 hE r39 fl_X3_15 rfl rfl (Nat.le_of_ble_eq_true rfl) dX3_fill_9 ?_
    refine cx_callV (pc := 12) (P := pV) (dC := 3) (mcC := 0) (msC := 0) [] hE r4 (fun r1 H1 => s_X9_clear l sc E R hE hR.ys n mi r1 H1) ca_X3_41 rfl ⟨_, rfl, rfl⟩ rfl rfl (Nat.le_of_ble_eq_true rfl) (Nat.le_of_ble_eq_true rfl) (by omega) (by omega) dX3_fill_12 H (fun x12 m12 v12 hh12 H hp => ?_)
    refine cx_backV hp ?_
    refine cx_iconst (pc := 15) dX3_fill_15 ?_
    refine aw_istore_n (pc := 16) [(1, iv 1), (0, .ref 39)] dX3_fill_16 rfl (by decide) ?_
    refine cx_iconst (pc := 17) dX3_fill_17 ?_
    refine aw_istore_n (pc := 18) [(2, iv 1), (1, iv 1), (0, .ref 39)] dX3_fill_18 rfl (by decide) ?_
    refine AW.sel [2, 1, 0] rfl (lp_ind (bot := fun _ _ _ => none) (fun (f9 : Int → Int → Mem → Option Rz) => ∀ (v1_19 : Int) (v2_19 : Int) (m19 : Mem), inR v1_19 → inR v2_19 → f9 v1_19 v2_19 m19 = some r → AW l D base sc RX3 yX3_fill cX3_fill 3 none 5 (4 * N) (125 * N) ad (E mi) (pV E r) 0 0 (E m19) 19 [(0, .ref 39), (1, iv v1_19), (2, iv v2_19)] []) (fun _ _ _ _ _ h9 => nomatch h9) (fun w19 ih19 v1_19 v2_19 m19 hv1_19 hv2_19 H => ?_) n _ _ _ (inR_lit _ rfl) (inR_lit _ rfl) H)
    refine aw_iload_n (pc := 19) dX3_fill_19 rfl ?_
    refine cx_iconst (pc := 20) dX3_fill_20 ?_
    refine cx_icmp_gt (pc := 21) 36 hv2_19 (inR_lit _ rfl) dX3_fill_21 rfl H (fun H => ?_) (fun H => ?_)
    · -- 21: 36
      refine cx_iconst (pc := 36) dX3_fill_36 ?_
      refine aw_istore_n (pc := 37) [(2, iv 0), (0, .ref 39), (1, iv v1_19)] dX3_fill_37 rfl (by decide) ?_
      refine AW.sel [1, 2, 0] rfl (lp_indN (bot := fun _ _ => none) (fun n9 (f9 : Int → Mem → Option Rz) => ∀ (u38 w38v : Nat) (v2_38 : Int) (m38 : Mem), u38 + 4 * n9 ≤ 4 * N → w38v + 125 * n9 ≤ 125 * N → inR v2_38 → f9 v2_38 m38 = some r → AW l D base sc RX3 yX3_fill cX3_fill 3 none 5 (4 * N) (125 * N) ad (E mi) (pV E r) u38 w38v (E m38) 38 [(0, .ref 39), (1, iv v1_19), (2, iv v2_38)] []) (fun _ _ _ _ _ _ _ h9 => nomatch h9) (fun n9 w38 ih38 u38 w38v v2_38 m38 hA38 hB38 hv2_38 H => ?_) N _ _ _ _ (by omega) (by omega) (inR_lit _ rfl) H)
      refine aw_iload_n (pc := 38) dX3_fill_38 rfl ?_
      refine aw_iload_n (pc := 39) dX3_fill_39 rfl ?_
      refine cx_icmp_ge (pc := 40) 61 hv2_38 hv1_19 dX3_fill_40 rfl H (fun H => ?_) (fun H => ?_)
      · -- 40: 43
        refine aw_aload_n (pc := 43) dX3_fill_43 rfl ?_
        refine aw_aload_n (pc := 44) dX3_fill_44 rfl ?_
        refine cx_gtC (pc := 45) 18 hE r39 fl_X3_19 rfl rfl (Nat.le_of_ble_eq_true rfl) dX3_fill_45 ?_
        refine aw_iload_n (pc := 48) dX3_fill_48 rfl ?_
        refine cx_callV (pc := 49) (P := pG) (dC := 4) (mcC := 4) (msC := 125) [iv v2_38] hE r18 (fun r1 H1 => s_X4_written l sc E R hE hR.ys hsc n v2_38 hv2_38 m38 r1 H1) ca_X3_50 rfl ⟨_, rfl, rfl⟩ rfl rfl (Nat.le_of_ble_eq_true rfl) (Nat.le_of_ble_eq_true rfl) (by omega) (by omega) dX3_fill_49 H (fun x49 m49 v49 hh49 H hp => ?_)
        refine cx_backG hp ?_
        refine cx_callV (pc := 52) (P := pV) (dC := 2) (mcC := 0) (msC := 0) [rv x49.toNat] hE r39 (fun r1 H1 => s_X3_sortIn l sc E R hE hR n x49.toNat m49 r1 H1) ca_X3_56 rfl ⟨_, rfl, rfl⟩ rfl rfl (Nat.le_of_ble_eq_true rfl) (Nat.le_of_ble_eq_true rfl) (by omega) (by omega) dX3_fill_52 H (fun x52 m52 v52 hh52 H hp => ?_)
        refine cx_backV hp ?_
        refine cx_iinc (pc := 55) [(2, iv (w32 (v2_38 + 1))), (0, .ref 39), (1, iv v1_19)] dX3_fill_55 rfl rfl (by decide) ?_
        refine aw_goto (pc := 58) 38 dX3_fill_58 rfl ?_
        exact AW.sel [1, 2, 0] rfl (ih38 _ _ _ _ (by omega) (by omega) (inR_w32 _) H)
      · -- 40: 61
        exact cx_vret (pc := 61) rfl (by omega) (by omega) dX3_fill_61 H
    · -- 21: 24
      refine aw_aload_n (pc := 24) dX3_fill_24 rfl ?_
      refine aw_iload_n (pc := 25) dX3_fill_25 rfl ?_
      refine cx_callV (pc := 26) (P := pI) (dC := 3) (mcC := 0) (msC := 0) [iv v1_19] hE r39 (fun r1 H1 => s_X3_addDay l sc E R hE hR n v1_19 hv1_19 m19 r1 H1) ca_X3_46 rfl ⟨_, rfl, rfl⟩ rfl rfl (Nat.le_of_ble_eq_true rfl) (Nat.le_of_ble_eq_true rfl) (by omega) (by omega) dX3_fill_26 H (fun x26 m26 v26 hh26 H hp => ?_)
      refine cx_backI hp (fun hx26 => ?_)
      refine aw_istore_n (pc := 29) [(1, iv x26), (0, .ref 39), (2, iv v2_19)] dX3_fill_29 rfl (by decide) ?_
      refine cx_iinc (pc := 30) [(2, iv (w32 (v2_19 + 1))), (1, iv x26), (0, .ref 39)] dX3_fill_30 rfl rfl (by decide) ?_
      refine aw_goto (pc := 33) 19 dX3_fill_33 rfl ?_
      exact AW.sel [2, 1, 0] rfl (ih19 _ _ _ hx26 (inR_w32 _) H)
/-- X3 isBornBy (II)Z -/
def f_X3_isBornBy (n : Nat) (p1 : Int) (p2 : Int) (mi : Mem) : Option Rz :=
  jn (fun (s0_40 : Int) (m40 : Mem) =>
    rtZ s0_40 m40
  ) fun (j40 : Int → Mem → Option Rz) =>
  jn (fun (m39 : Mem) =>
    j40 0 m39
  ) fun (j39 : Mem → Option Rz) =>
  if p2 < 0 then (
    j39 mi
  ) else
  if p2 < 67 then (
    ldG mi 40 p2 fun x18 =>
    if x18 = 0 then (
      j39 mi
    ) else
    ldG mi 40 p2 fun x27 =>
    isD x27 <|
    gmF mi x27 3 fun x28 =>
    if p1 < x28 then (
      j39 mi
    ) else
    j40 1 mi
  ) else
  j39 mi
set_option maxRecDepth 100000 in
set_option maxHeartbeats 4000000 in
theorem s_X3_isBornBy (l : Launch) (sc : g_S) (E : Mem → g_H) (R : Nat → Prop) (hE : LE E R) (hR : RCL R) (n : Nat)  (p1 : Int) (p2 : Int) (hp1 : inR p1) (hp2 : inR p2) (mi : Mem) (r : Rz) (H : f_X3_isBornBy n p1 p2 mi = some r) : AMet l sc yX3_isBornBy cX3_isBornBy 3 (some FieldType.boolean) 0 0 0 [.ref 39, iv p1, iv p2] (E mi) (pI E r) := by
  have r39 : R 39 := hR.1 39 (Nat.le_of_ble_eq_true rfl) (Nat.le_of_ble_eq_true rfl)
  have r40 : R 40 := hR.1 40 (Nat.le_of_ble_eq_true rfl) (Nat.le_of_ble_eq_true rfl)
  unfold f_X3_isBornBy at H
  refine AMet.of (own := RX3) (by decide +kernel) rfl (Nat.le_of_ble_eq_true rfl) [(0, .ref 39), (1, iv p1), (2, iv p2)] rfl (fun D base ad => ?_)
  refine aw_iload_n (pc := 0) dX3_isBornBy_0 rfl ?_
  refine jn_ind (fun (f9 : Int → Mem → Option Rz) => ∀ (s0_40 : Int) (m40 : Mem), inR s0_40 → f9 s0_40 m40 = some r → AW l D base sc RX3 yX3_isBornBy cX3_isBornBy 3 (some FieldType.boolean) 0 0 0 ad (E mi) (pI E r) 0 0 (E m40) 40 [] [iv s0_40]) (fun s0_40 m40 hs0_40 H => ?_) (fun j40 hj40 H => ?_) H
  · -- 40
    exact cx_zret (pc := 40) rfl (Nat.le_of_ble_eq_true rfl) (Nat.le_of_ble_eq_true rfl) dX3_isBornBy_40 H
  refine jn_ind (fun (f9 : Mem → Option Rz) => ∀ (m39 : Mem), f9 m39 = some r → AW l D base sc RX3 yX3_isBornBy cX3_isBornBy 3 (some FieldType.boolean) 0 0 0 ad (E mi) (pI E r) 0 0 (E m39) 39 [] []) (fun m39 H => ?_) (fun j39 hj39 H => ?_) H
  · -- 39
    refine cx_iconst (pc := 39) dX3_isBornBy_39 ?_
    exact AW.sel [] rfl (hj40 _ _ (inR_lit _ rfl) H)
  refine cx_if_lt (pc := 1) 39 hp2 dX3_isBornBy_1 rfl H (fun H => ?_) (fun H => ?_)
  · -- 1: 39
    exact AW.sel [] rfl (hj39 _ H)
  · -- 1: 4
    refine aw_iload_n (pc := 4) dX3_isBornBy_4 rfl ?_
    refine aw_aload_n (pc := 5) dX3_isBornBy_5 rfl ?_
    refine cx_gtC (pc := 6) 40 hE r39 fl_X3_11 rfl rfl (Nat.le_of_ble_eq_true rfl) dX3_isBornBy_6 ?_
    refine cx_lenC (pc := 9) (c := 67) hE r40 (fun _ => ⟨_, _, rfl, rfl⟩) dX3_isBornBy_9 ?_
    refine cx_icmp_ge (pc := 10) 39 hp2 (inR_lit _ rfl) dX3_isBornBy_10 rfl H (fun H => ?_) (fun H => ?_)
    · -- 10: 13
      refine aw_aload_n (pc := 13) dX3_isBornBy_13 rfl ?_
      refine cx_gtC (pc := 14) 40 hE r39 fl_X3_11 rfl rfl (Nat.le_of_ble_eq_true rfl) dX3_isBornBy_14 ?_
      refine aw_iload_n (pc := 17) dX3_isBornBy_17 rfl ?_
      refine cx_ldG (pc := 18) hE r40 hp2 dX3_isBornBy_18 H (fun x18 H => ?_)
      refine cx_ifnull (pc := 19) 39 dX3_isBornBy_19 rfl H (fun H => ?_) (fun H => ?_)
      · -- 19: 39
        exact AW.sel [] rfl (hj39 _ H)
      · -- 19: 22
        refine aw_aload_n (pc := 22) dX3_isBornBy_22 rfl ?_
        refine cx_gtC (pc := 23) 40 hE r39 fl_X3_11 rfl rfl (Nat.le_of_ble_eq_true rfl) dX3_isBornBy_23 ?_
        refine aw_iload_n (pc := 26) dX3_isBornBy_26 rfl ?_
        refine cx_ldG (pc := 27) hE r40 hp2 dX3_isBornBy_27 H (fun x27 H => ?_)
        refine cx_nn0 H (fun hg28_1 H => ?_)
        refine cx_gmF (pc := 28) hE hR.d hg28_1 fl_X3_38 rfl (Nat.le_of_ble_eq_true rfl) dX3_isBornBy_28 H (fun x28 hx28 H => ?_)
        refine aw_iload_n (pc := 31) dX3_isBornBy_31 rfl ?_
        refine cx_icmp_gt (pc := 32) 39 hx28 hp1 dX3_isBornBy_32 rfl H (fun H => ?_) (fun H => ?_)
        · -- 32: 39
          exact AW.sel [] rfl (hj39 _ H)
        · -- 32: 35
          refine cx_iconst (pc := 35) dX3_isBornBy_35 ?_
          refine aw_goto (pc := 36) 40 dX3_isBornBy_36 rfl ?_
          exact AW.sel [] rfl (hj40 _ _ (inR_lit _ rfl) H)
    · -- 10: 39
      exact AW.sel [] rfl (hj39 _ H)
/-- X3 many (I)I -/
def f_X3_many (n N : Nat) (p1 : Int) (mi : Mem) : Option Rz :=
  cal (f_X3_fill n N mi) fun _ m1 =>
  lp (F := Int → Int → Mem → Option Rz) (fun _ _ _ => none) (fun w8 v2_8 v3_8 m8 =>
    gtF m8 39 3 fun x10 =>
    if v3_8 < x10 then (
      cal (f_X3_isBornBy n p1 v3_8 m8) fun x19 m19 =>
      jn (fun (v2_28 : Int) (m28 : Mem) =>
        w8 v2_28 (w32 (v3_8 + 1)) m28
      ) fun (j28 : Int → Mem → Option Rz) =>
      if x19 = 0 then (
        j28 v2_8 m19
      ) else
      j28 (w32 (v2_8 + 1)) m19
    ) else
    rt v2_8 m8
  ) n 0 0 m1
set_option maxRecDepth 100000 in
set_option maxHeartbeats 4000000 in
theorem s_X3_many (l : Launch) (sc : g_S) (E : Mem → g_H) (R : Nat → Prop) (hE : LE E R) (hR : RCL R) (hsc : sc.1 = 0) (n N : Nat)  (p1 : Int) (hp1 : inR p1) (mi : Mem) (r : Rz) (H : f_X3_many n N p1 mi = some r) : AMet l sc yX3_many cX3_many 4 (some FieldType.int) 6 (4 * N) (125 * N) [.ref 39, iv p1] (E mi) (pI E r) := by
  have r39 : R 39 := hR.1 39 (Nat.le_of_ble_eq_true rfl) (Nat.le_of_ble_eq_true rfl)
  unfold f_X3_many at H
  refine AMet.of (own := RX3) (by decide +kernel) rfl (Nat.le_of_ble_eq_true rfl) [(0, .ref 39), (1, iv p1)] rfl (fun D base ad => ?_)
  refine aw_aload_n (pc := 0) dX3_many_0 rfl ?_
  refine cx_callV (pc := 1) (P := pV) (dC := 5) (mcC := (4 * N)) (msC := (125 * N)) [] hE r39 (fun r1 H1 => s_X3_fill l sc E R hE hR hsc n N mi r1 H1) ca_X3_23 rfl ⟨_, rfl, rfl⟩ rfl rfl (Nat.le_of_ble_eq_true rfl) (Nat.le_of_ble_eq_true rfl) (by omega) (by omega) dX3_many_1 H (fun x1 m1 v1 hh1 H hp => ?_)
  refine cx_backV hp ?_
  refine cx_iconst (pc := 4) dX3_many_4 ?_
  refine aw_istore_n (pc := 5) [(2, iv 0), (0, .ref 39), (1, iv p1)] dX3_many_5 rfl (by decide) ?_
  refine cx_iconst (pc := 6) dX3_many_6 ?_
  refine aw_istore_n (pc := 7) [(3, iv 0), (2, iv 0), (0, .ref 39), (1, iv p1)] dX3_many_7 rfl (by decide) ?_
  refine AW.sel [2, 3, 1, 0] rfl (lp_ind (bot := fun _ _ _ => none) (fun (f9 : Int → Int → Mem → Option Rz) => ∀ (v2_8 : Int) (v3_8 : Int) (m8 : Mem), inR v2_8 → inR v3_8 → f9 v2_8 v3_8 m8 = some r → AW l D base sc RX3 yX3_many cX3_many 4 (some FieldType.int) 6 (4 * N) (125 * N) ad (E mi) (pI E r) (0 + 4 * N) (0 + 125 * N) (E m8) 8 [(0, .ref 39), (1, iv p1), (2, iv v2_8), (3, iv v3_8)] []) (fun _ _ _ _ _ h9 => nomatch h9) (fun w8 ih8 v2_8 v3_8 m8 hv2_8 hv3_8 H => ?_) n _ _ _ (inR_lit _ rfl) (inR_lit _ rfl) H)
  refine aw_iload_n (pc := 8) dX3_many_8 rfl ?_
  refine aw_aload_n (pc := 9) dX3_many_9 rfl ?_
  refine cx_gtF (pc := 10) hE r39 fl_X3_26 rfl rfl (Nat.le_of_ble_eq_true rfl) dX3_many_10 H (fun x10 hx10 H => ?_)
  refine cx_icmp_ge (pc := 13) 34 hv3_8 hx10 dX3_many_13 rfl H (fun H => ?_) (fun H => ?_)
  · -- 13: 16
    refine aw_aload_n (pc := 16) dX3_many_16 rfl ?_
    refine aw_iload_n (pc := 17) dX3_many_17 rfl ?_
    refine aw_iload_n (pc := 18) dX3_many_18 rfl ?_
    refine cx_callV (pc := 19) (P := pI) (dC := 0) (mcC := 0) (msC := 0) [iv p1, iv v3_8] hE r39 (fun r1 H1 => s_X3_isBornBy l sc E R hE hR n p1 v3_8 hp1 hv3_8 m8 r1 H1) ca_X3_30 rfl ⟨_, rfl, rfl⟩ rfl rfl (Nat.le_of_ble_eq_true rfl) (Nat.le_of_ble_eq_true rfl) (by omega) (by omega) dX3_many_19 H (fun x19 m19 v19 hh19 H hp => ?_)
    refine cx_backI hp (fun hx19 => ?_)
    refine jn_ind (fun (f9 : Int → Mem → Option Rz) => ∀ (v2_28 : Int) (m28 : Mem), inR v2_28 → f9 v2_28 m28 = some r → AW l D base sc RX3 yX3_many cX3_many 4 (some FieldType.int) 6 (4 * N) (125 * N) ad (E mi) (pI E r) ((0 + 4 * N) + 0) ((0 + 125 * N) + 0) (E m28) 28 [(0, .ref 39), (1, iv p1), (2, iv v2_28), (3, iv v3_8)] []) (fun v2_28 m28 hv2_28 H => ?_) (fun j28 hj28 H => ?_) H
    · -- 28
      refine cx_iinc (pc := 28) [(3, iv (w32 (v3_8 + 1))), (0, .ref 39), (1, iv p1), (2, iv v2_28)] dX3_many_28 rfl rfl (by decide) ?_
      refine aw_goto (pc := 31) 8 dX3_many_31 rfl ?_
      refine AW.widen (k' := (0 + 4 * N)) (n' := (0 + 125 * N)) (by omega) (by omega) ?_
      exact AW.sel [1, 2, 3, 0] rfl (ih8 _ _ _ hv2_28 (inR_w32 _) H)
    refine cx_if_eq (pc := 22) 28 hx19 dX3_many_22 rfl H (fun H => ?_) (fun H => ?_)
    · -- 22: 28
      exact AW.sel [0, 1, 2, 3] rfl (hj28 _ _ hv2_8 H)
    · -- 22: 25
      refine cx_iinc (pc := 25) [(2, iv (w32 (v2_8 + 1))), (0, .ref 39), (1, iv p1), (3, iv v3_8)] dX3_many_25 rfl rfl (by decide) ?_
      exact AW.sel [1, 2, 0, 3] rfl (hj28 _ _ (inR_w32 _) H)
  · -- 13: 34
    refine aw_iload_n (pc := 34) dX3_many_34 rfl ?_
    exact cx_iret (pc := 35) hv2_8 rfl (by omega) (by omega) dX3_many_35 H
/-- X3 numbered (II)LUppityGames$Game; -/
def f_X3_numbered (n N : Nat) (p1 : Int) (p2 : Int) (mi : Mem) : Option Rz :=
  cal (f_X3_fill n N mi) fun _ m1 =>
  lp (F := Int → Int → Mem → Option Rz) (fun _ _ _ => none) (fun w9 v3_9 v4_9 m9 =>
    gtF m9 39 3 fun x12 =>
    if v4_9 < x12 then (
      cal (f_X3_isBornBy n p1 v4_9 m9) fun x22 m22 =>
      jn (fun (v3_44 : Int) (m44 : Mem) =>
        w9 v3_44 (w32 (v4_9 + 1)) m44
      ) fun (j44 : Int → Mem → Option Rz) =>
      if x22 = 0 then (
        j44 v3_9 m22
      ) else
      if v3_9 = p2 then (
        ldG m22 40 v4_9 fun x39 =>
        rt (x39 : Nat) m22
      ) else
      j44 (w32 (v3_9 + 1)) m22
    ) else
    rt (0 : Nat) m9
  ) n 0 0 m1
set_option maxRecDepth 100000 in
set_option maxHeartbeats 4000000 in
theorem s_X3_numbered (l : Launch) (sc : g_S) (E : Mem → g_H) (R : Nat → Prop) (hE : LE E R) (hR : RCL R) (hsc : sc.1 = 0) (n N : Nat)  (p1 : Int) (p2 : Int) (hp1 : inR p1) (hp2 : inR p2) (mi : Mem) (r : Rz) (H : f_X3_numbered n N p1 p2 mi = some r) : AMet l sc yX3_numbered cX3_numbered 5 (some (FieldType.object "UppityGames$Game")) 6 (4 * N) (125 * N) [.ref 39, iv p1, iv p2] (E mi) (pG E r) := by
  have r39 : R 39 := hR.1 39 (Nat.le_of_ble_eq_true rfl) (Nat.le_of_ble_eq_true rfl)
  have r40 : R 40 := hR.1 40 (Nat.le_of_ble_eq_true rfl) (Nat.le_of_ble_eq_true rfl)
  unfold f_X3_numbered at H
  refine AMet.of (own := RX3) (by decide +kernel) rfl (Nat.le_of_ble_eq_true rfl) [(0, .ref 39), (1, iv p1), (2, iv p2)] rfl (fun D base ad => ?_)
  refine aw_aload_n (pc := 0) dX3_numbered_0 rfl ?_
  refine cx_callV (pc := 1) (P := pV) (dC := 5) (mcC := (4 * N)) (msC := (125 * N)) [] hE r39 (fun r1 H1 => s_X3_fill l sc E R hE hR hsc n N mi r1 H1) ca_X3_23 rfl ⟨_, rfl, rfl⟩ rfl rfl (Nat.le_of_ble_eq_true rfl) (Nat.le_of_ble_eq_true rfl) (by omega) (by omega) dX3_numbered_1 H (fun x1 m1 v1 hh1 H hp => ?_)
  refine cx_backV hp ?_
  refine cx_iconst (pc := 4) dX3_numbered_4 ?_
  refine aw_istore_n (pc := 5) [(3, iv 0), (0, .ref 39), (1, iv p1), (2, iv p2)] dX3_numbered_5 rfl (by decide) ?_
  refine cx_iconst (pc := 6) dX3_numbered_6 ?_
  refine aw_istore (pc := 7) [(4, iv 0), (3, iv 0), (0, .ref 39), (1, iv p1), (2, iv p2)] dX3_numbered_7 rfl (by decide) ?_
  refine AW.sel [2, 3, 4, 1, 0] rfl (lp_ind (bot := fun _ _ _ => none) (fun (f9 : Int → Int → Mem → Option Rz) => ∀ (v3_9 : Int) (v4_9 : Int) (m9 : Mem), inR v3_9 → inR v4_9 → f9 v3_9 v4_9 m9 = some r → AW l D base sc RX3 yX3_numbered cX3_numbered 5 (some (FieldType.object "UppityGames$Game")) 6 (4 * N) (125 * N) ad (E mi) (pG E r) (0 + 4 * N) (0 + 125 * N) (E m9) 9 [(0, .ref 39), (1, iv p1), (2, iv p2), (3, iv v3_9), (4, iv v4_9)] []) (fun _ _ _ _ _ h9 => nomatch h9) (fun w9 ih9 v3_9 v4_9 m9 hv3_9 hv4_9 H => ?_) n _ _ _ (inR_lit _ rfl) (inR_lit _ rfl) H)
  refine aw_iload (pc := 9) dX3_numbered_9 rfl ?_
  refine aw_aload_n (pc := 11) dX3_numbered_11 rfl ?_
  refine cx_gtF (pc := 12) hE r39 fl_X3_26 rfl rfl (Nat.le_of_ble_eq_true rfl) dX3_numbered_12 H (fun x12 hx12 H => ?_)
  refine cx_icmp_ge (pc := 15) 50 hv4_9 hx12 dX3_numbered_15 rfl H (fun H => ?_) (fun H => ?_)
  · -- 15: 18
    refine aw_aload_n (pc := 18) dX3_numbered_18 rfl ?_
    refine aw_iload_n (pc := 19) dX3_numbered_19 rfl ?_
    refine aw_iload (pc := 20) dX3_numbered_20 rfl ?_
    refine cx_callV (pc := 22) (P := pI) (dC := 0) (mcC := 0) (msC := 0) [iv p1, iv v4_9] hE r39 (fun r1 H1 => s_X3_isBornBy l sc E R hE hR n p1 v4_9 hp1 hv4_9 m9 r1 H1) ca_X3_30 rfl ⟨_, rfl, rfl⟩ rfl rfl (Nat.le_of_ble_eq_true rfl) (Nat.le_of_ble_eq_true rfl) (by omega) (by omega) dX3_numbered_22 H (fun x22 m22 v22 hh22 H hp => ?_)
    refine cx_backI hp (fun hx22 => ?_)
    refine jn_ind (fun (f9 : Int → Mem → Option Rz) => ∀ (v3_44 : Int) (m44 : Mem), inR v3_44 → f9 v3_44 m44 = some r → AW l D base sc RX3 yX3_numbered cX3_numbered 5 (some (FieldType.object "UppityGames$Game")) 6 (4 * N) (125 * N) ad (E mi) (pG E r) ((0 + 4 * N) + 0) ((0 + 125 * N) + 0) (E m44) 44 [(0, .ref 39), (1, iv p1), (2, iv p2), (3, iv v3_44), (4, iv v4_9)] []) (fun v3_44 m44 hv3_44 H => ?_) (fun j44 hj44 H => ?_) H
    · -- 44
      refine cx_iinc (pc := 44) [(4, iv (w32 (v4_9 + 1))), (0, .ref 39), (1, iv p1), (2, iv p2), (3, iv v3_44)] dX3_numbered_44 rfl rfl (by decide) ?_
      refine aw_goto (pc := 47) 9 dX3_numbered_47 rfl ?_
      refine AW.widen (k' := (0 + 4 * N)) (n' := (0 + 125 * N)) (by omega) (by omega) ?_
      exact AW.sel [1, 2, 3, 4, 0] rfl (ih9 _ _ _ hv3_44 (inR_w32 _) H)
    refine cx_if_eq (pc := 25) 44 hx22 dX3_numbered_25 rfl H (fun H => ?_) (fun H => ?_)
    · -- 25: 44
      exact AW.sel [0, 1, 2, 3, 4] rfl (hj44 _ _ hv3_9 H)
    · -- 25: 28
      refine aw_iload_n (pc := 28) dX3_numbered_28 rfl ?_
      refine aw_iload_n (pc := 29) dX3_numbered_29 rfl ?_
      refine cx_icmp_ne (pc := 30) 41 hv3_9 hp2 dX3_numbered_30 rfl H (fun H => ?_) (fun H => ?_)
      · -- 30: 33
        refine aw_aload_n (pc := 33) dX3_numbered_33 rfl ?_
        refine cx_gtC (pc := 34) 40 hE r39 fl_X3_11 rfl rfl (Nat.le_of_ble_eq_true rfl) dX3_numbered_34 ?_
        refine aw_iload (pc := 37) dX3_numbered_37 rfl ?_
        refine cx_ldG (pc := 39) hE r40 hv4_9 dX3_numbered_39 H (fun x39 H => ?_)
        exact cx_aret (pc := 40) ⟨_, rfl, Or.inl ⟨_, rfl⟩⟩ (by omega) (by omega) dX3_numbered_40 H
      · -- 30: 41
        refine cx_iinc (pc := 41) [(3, iv (w32 (v3_9 + 1))), (0, .ref 39), (1, iv p1), (2, iv p2), (4, iv v4_9)] dX3_numbered_41 rfl rfl (by decide) ?_
        exact AW.sel [1, 2, 3, 0, 4] rfl (hj44 _ _ (inR_w32 _) H)
  · -- 15: 50
    refine cx_null (pc := 50) dX3_numbered_50 ?_
    exact cx_aret (pc := 51) ⟨_, rfl, Or.inl ⟨_, rfl⟩⟩ (by omega) (by omega) dX3_numbered_51 H
theorem dX7_build_0 : decode cX7_build 0 = .ok (.iconst 0, 1) := by decide +kernel
theorem dX7_build_1 : decode cX7_build 1 = .ok (.istore_n 1, 1) := by decide +kernel
theorem dX7_build_2 : decode cX7_build 2 = .ok (.iconst 0, 1) := by decide +kernel
theorem dX7_build_3 : decode cX7_build 3 = .ok (.istore_n 2, 1) := by decide +kernel
theorem dX7_build_4 : decode cX7_build 4 = .ok (.iload_n 2, 1) := by decide +kernel
theorem dX7_build_5 : decode cX7_build 5 = .ok (.aload_n 0, 1) := by decide +kernel
theorem dX7_build_6 : decode cX7_build 6 = .ok (.getfield 34, 3) := by decide +kernel
theorem dX7_build_9 : decode cX7_build 9 = .ok (.if_icmp .ge 292, 3) := by decide +kernel
theorem dX7_build_12 : decode cX7_build 12 = .ok (.iload_n 2, 1) := by decide +kernel
theorem dX7_build_13 : decode cX7_build 13 = .ok (.aload_n 0, 1) := by decide +kernel
theorem dX7_build_14 : decode cX7_build 14 = .ok (.getfield 13, 3) := by decide +kernel
theorem dX7_build_17 : decode cX7_build 17 = .ok (.arraylength, 1) := by decide +kernel
theorem dX7_build_18 : decode cX7_build 18 = .ok (.if_icmp .ge 283, 3) := by decide +kernel
theorem dX7_build_21 : decode cX7_build 21 = .ok (.aload_n 0, 1) := by decide +kernel
theorem dX7_build_22 : decode cX7_build 22 = .ok (.getfield 13, 3) := by decide +kernel
theorem dX7_build_25 : decode cX7_build 25 = .ok (.iload_n 2, 1) := by decide +kernel
theorem dX7_build_26 : decode cX7_build 26 = .ok (.iaload, 1) := by decide +kernel
theorem dX7_build_27 : decode cX7_build 27 = .ok (.bipush 15, 2) := by decide +kernel
theorem dX7_build_29 : decode cX7_build 29 = .ok (.iand, 1) := by decide +kernel
theorem dX7_build_30 : decode cX7_build 30 = .ok (.istore_n 3, 1) := by decide +kernel
theorem dX7_build_31 : decode cX7_build 31 = .ok (.aload_n 0, 1) := by decide +kernel
theorem dX7_build_32 : decode cX7_build 32 = .ok (.getfield 13, 3) := by decide +kernel
theorem dX7_build_35 : decode cX7_build 35 = .ok (.iload_n 2, 1) := by decide +kernel
theorem dX7_build_36 : decode cX7_build 36 = .ok (.iaload, 1) := by decide +kernel
theorem dX7_build_37 : decode cX7_build 37 = .ok (.iconst 4, 1) := by decide +kernel
theorem dX7_build_38 : decode cX7_build 38 = .ok (.ishr, 1) := by decide +kernel
theorem dX7_build_39 : decode cX7_build 39 = .ok (.sipush 255, 3) := by decide +kernel
theorem dX7_build_42 : decode cX7_build 42 = .ok (.iand, 1) := by decide +kernel
theorem dX7_build_43 : decode cX7_build 43 = .ok (.istore 4, 2) := by decide +kernel
theorem dX7_build_45 : decode cX7_build 45 = .ok (.aload_n 0, 1) := by decide +kernel
theorem dX7_build_46 : decode cX7_build 46 = .ok (.getfield 13, 3) := by decide +kernel
theorem dX7_build_49 : decode cX7_build 49 = .ok (.iload_n 2, 1) := by decide +kernel
theorem dX7_build_50 : decode cX7_build 50 = .ok (.iaload, 1) := by decide +kernel
theorem dX7_build_51 : decode cX7_build 51 = .ok (.bipush 12, 2) := by decide +kernel
theorem dX7_build_53 : decode cX7_build 53 = .ok (.ishr, 1) := by decide +kernel
theorem dX7_build_54 : decode cX7_build 54 = .ok (.sipush 255, 3) := by decide +kernel
theorem dX7_build_57 : decode cX7_build 57 = .ok (.iand, 1) := by decide +kernel
theorem dX7_build_58 : decode cX7_build 58 = .ok (.istore 5, 2) := by decide +kernel
theorem dX7_build_60 : decode cX7_build 60 = .ok (.iload_n 1, 1) := by decide +kernel
theorem dX7_build_61 : decode cX7_build 61 = .ok (.iload_n 3, 1) := by decide +kernel
theorem dX7_build_62 : decode cX7_build 62 = .ok (.iload 4, 2) := by decide +kernel
theorem dX7_build_64 : decode cX7_build 64 = .ok (.iload 5, 2) := by decide +kernel
theorem dX7_build_66 : decode cX7_build 66 = .ok (.invokestatic 71, 3) := by decide +kernel
theorem dX7_build_69 : decode cX7_build 69 = .ok (.isub, 1) := by decide +kernel
theorem dX7_build_70 : decode cX7_build 70 = .ok (.istore 6, 2) := by decide +kernel
theorem dX7_build_72 : decode cX7_build 72 = .ok (.iload 6, 2) := by decide +kernel
theorem dX7_build_74 : decode cX7_build 74 = .ok (.ifCond .lt 22, 3) := by decide +kernel
theorem dX7_build_77 : decode cX7_build 77 = .ok (.iload 6, 2) := by decide +kernel
theorem dX7_build_79 : decode cX7_build 79 = .ok (.aload_n 0, 1) := by decide +kernel
theorem dX7_build_80 : decode cX7_build 80 = .ok (.getfield 19, 3) := by decide +kernel
theorem dX7_build_83 : decode cX7_build 83 = .ok (.arraylength, 1) := by decide +kernel
theorem dX7_build_84 : decode cX7_build 84 = .ok (.if_icmp .ge 12, 3) := by decide +kernel
theorem dX7_build_87 : decode cX7_build 87 = .ok (.iload_n 1, 1) := by decide +kernel
theorem dX7_build_88 : decode cX7_build 88 = .ok (.aload_n 0, 1) := by decide +kernel
theorem dX7_build_89 : decode cX7_build 89 = .ok (.getfield 19, 3) := by decide +kernel
theorem dX7_build_92 : decode cX7_build 92 = .ok (.arraylength, 1) := by decide +kernel
theorem dX7_build_93 : decode cX7_build 93 = .ok (.if_icmp .le 5, 3) := by decide +kernel
theorem dX7_build_96 : decode cX7_build 96 = .ok (.aconst_null, 1) := by decide +kernel
theorem dX7_build_97 : decode cX7_build 97 = .ok (.areturn, 1) := by decide +kernel
theorem dX7_build_98 : decode cX7_build 98 = .ok (.iload_n 1, 1) := by decide +kernel
theorem dX7_build_99 : decode cX7_build 99 = .ok (.ifCond .le 14, 3) := by decide +kernel
theorem dX7_build_102 : decode cX7_build 102 = .ok (.aload_n 0, 1) := by decide +kernel
theorem dX7_build_103 : decode cX7_build 103 = .ok (.getfield 19, 3) := by decide +kernel
theorem dX7_build_106 : decode cX7_build 106 = .ok (.iload_n 1, 1) := by decide +kernel
theorem dX7_build_107 : decode cX7_build 107 = .ok (.iconst 1, 1) := by decide +kernel
theorem dX7_build_108 : decode cX7_build 108 = .ok (.isub, 1) := by decide +kernel
theorem dX7_build_109 : decode cX7_build 109 = .ok (.aaload, 1) := by decide +kernel
theorem dX7_build_110 : decode cX7_build 110 = .ok (.goto 4, 3) := by decide +kernel
theorem dX7_build_113 : decode cX7_build 113 = .ok (.aconst_null, 1) := by decide +kernel
theorem dX7_build_114 : decode cX7_build 114 = .ok (.astore 7, 2) := by decide +kernel
theorem dX7_build_116 : decode cX7_build 116 = .ok (.iload_n 3, 1) := by decide +kernel
theorem dX7_build_117 : decode cX7_build 117 = .ok (.tableswitch 135 0 4 #[35, 54, 73, 90, 109], 35) := by decide +kernel
theorem dX7_build_152 : decode cX7_build 152 = .ok (.aload_n 0, 1) := by decide +kernel
theorem dX7_build_153 : decode cX7_build 153 = .ok (.getfield 19, 3) := by decide +kernel
theorem dX7_build_156 : decode cX7_build 156 = .ok (.iload 6, 2) := by decide +kernel
theorem dX7_build_158 : decode cX7_build 158 = .ok (.aload_n 0, 1) := by decide +kernel
theorem dX7_build_159 : decode cX7_build 159 = .ok (.getfield 23, 3) := by decide +kernel
theorem dX7_build_162 : decode cX7_build 162 = .ok (.iload 4, 2) := by decide +kernel
theorem dX7_build_164 : decode cX7_build 164 = .ok (.invokevirtual 75, 3) := by decide +kernel
theorem dX7_build_167 : decode cX7_build 167 = .ok (.aastore, 1) := by decide +kernel
theorem dX7_build_168 : decode cX7_build 168 = .ok (.goto 110, 3) := by decide +kernel
theorem dX7_build_171 : decode cX7_build 171 = .ok (.aload_n 0, 1) := by decide +kernel
theorem dX7_build_172 : decode cX7_build 172 = .ok (.getfield 19, 3) := by decide +kernel
theorem dX7_build_175 : decode cX7_build 175 = .ok (.iload 6, 2) := by decide +kernel
theorem dX7_build_177 : decode cX7_build 177 = .ok (.aload_n 0, 1) := by decide +kernel
theorem dX7_build_178 : decode cX7_build 178 = .ok (.getfield 23, 3) := by decide +kernel
theorem dX7_build_181 : decode cX7_build 181 = .ok (.iload 4, 2) := by decide +kernel
theorem dX7_build_183 : decode cX7_build 183 = .ok (.invokevirtual 81, 3) := by decide +kernel
theorem dX7_build_186 : decode cX7_build 186 = .ok (.aastore, 1) := by decide +kernel
theorem dX7_build_187 : decode cX7_build 187 = .ok (.goto 91, 3) := by decide +kernel
theorem dX7_build_190 : decode cX7_build 190 = .ok (.aload_n 0, 1) := by decide +kernel
theorem dX7_build_191 : decode cX7_build 191 = .ok (.getfield 19, 3) := by decide +kernel
theorem dX7_build_194 : decode cX7_build 194 = .ok (.iload 6, 2) := by decide +kernel
theorem dX7_build_196 : decode cX7_build 196 = .ok (.aload_n 0, 1) := by decide +kernel
theorem dX7_build_197 : decode cX7_build 197 = .ok (.getfield 23, 3) := by decide +kernel
theorem dX7_build_200 : decode cX7_build 200 = .ok (.invokevirtual 84, 3) := by decide +kernel
theorem dX7_build_203 : decode cX7_build 203 = .ok (.aastore, 1) := by decide +kernel
theorem dX7_build_204 : decode cX7_build 204 = .ok (.goto 74, 3) := by decide +kernel
theorem dX7_build_207 : decode cX7_build 207 = .ok (.aload_n 0, 1) := by decide +kernel
theorem dX7_build_208 : decode cX7_build 208 = .ok (.getfield 19, 3) := by decide +kernel
theorem dX7_build_211 : decode cX7_build 211 = .ok (.iload 6, 2) := by decide +kernel
theorem dX7_build_213 : decode cX7_build 213 = .ok (.aload_n 0, 1) := by decide +kernel
theorem dX7_build_214 : decode cX7_build 214 = .ok (.getfield 23, 3) := by decide +kernel
theorem dX7_build_217 : decode cX7_build 217 = .ok (.aload 7, 2) := by decide +kernel
theorem dX7_build_219 : decode cX7_build 219 = .ok (.invokevirtual 88, 3) := by decide +kernel
theorem dX7_build_222 : decode cX7_build 222 = .ok (.aastore, 1) := by decide +kernel
theorem dX7_build_223 : decode cX7_build 223 = .ok (.goto 55, 3) := by decide +kernel
theorem dX7_build_226 : decode cX7_build 226 = .ok (.aload_n 0, 1) := by decide +kernel
theorem dX7_build_227 : decode cX7_build 227 = .ok (.getfield 19, 3) := by decide +kernel
theorem dX7_build_230 : decode cX7_build 230 = .ok (.iload 6, 2) := by decide +kernel
theorem dX7_build_232 : decode cX7_build 232 = .ok (.aload_n 0, 1) := by decide +kernel
theorem dX7_build_233 : decode cX7_build 233 = .ok (.getfield 23, 3) := by decide +kernel
theorem dX7_build_236 : decode cX7_build 236 = .ok (.aload_n 0, 1) := by decide +kernel
theorem dX7_build_237 : decode cX7_build 237 = .ok (.getfield 19, 3) := by decide +kernel
theorem dX7_build_240 : decode cX7_build 240 = .ok (.iload 6, 2) := by decide +kernel
theorem dX7_build_242 : decode cX7_build 242 = .ok (.aaload, 1) := by decide +kernel
theorem dX7_build_243 : decode cX7_build 243 = .ok (.aload 7, 2) := by decide +kernel
theorem dX7_build_245 : decode cX7_build 245 = .ok (.invokevirtual 92, 3) := by decide +kernel
theorem dX7_build_248 : decode cX7_build 248 = .ok (.aastore, 1) := by decide +kernel
theorem dX7_build_249 : decode cX7_build 249 = .ok (.goto 29, 3) := by decide +kernel
theorem dX7_build_252 : decode cX7_build 252 = .ok (.aload_n 0, 1) := by decide +kernel
theorem dX7_build_253 : decode cX7_build 253 = .ok (.getfield 19, 3) := by decide +kernel
theorem dX7_build_256 : decode cX7_build 256 = .ok (.iload 6, 2) := by decide +kernel
theorem dX7_build_258 : decode cX7_build 258 = .ok (.aload_n 0, 1) := by decide +kernel
theorem dX7_build_259 : decode cX7_build 259 = .ok (.getfield 23, 3) := by decide +kernel
theorem dX7_build_262 : decode cX7_build 262 = .ok (.aload_n 0, 1) := by decide +kernel
theorem dX7_build_263 : decode cX7_build 263 = .ok (.getfield 19, 3) := by decide +kernel
theorem dX7_build_266 : decode cX7_build 266 = .ok (.iload 6, 2) := by decide +kernel
theorem dX7_build_268 : decode cX7_build 268 = .ok (.iload 6, 2) := by decide +kernel
theorem dX7_build_270 : decode cX7_build 270 = .ok (.iload 4, 2) := by decide +kernel
theorem dX7_build_272 : decode cX7_build 272 = .ok (.iadd, 1) := by decide +kernel
theorem dX7_build_273 : decode cX7_build 273 = .ok (.iload_n 1, 1) := by decide +kernel
theorem dX7_build_274 : decode cX7_build 274 = .ok (.invokevirtual 96, 3) := by decide +kernel
theorem dX7_build_277 : decode cX7_build 277 = .ok (.aastore, 1) := by decide +kernel
theorem dX7_build_278 : decode cX7_build 278 = .ok (.aload_n 0, 1) := by decide +kernel
theorem dX7_build_279 : decode cX7_build 279 = .ok (.getfield 19, 3) := by decide +kernel
theorem dX7_build_282 : decode cX7_build 282 = .ok (.iload 6, 2) := by decide +kernel
theorem dX7_build_284 : decode cX7_build 284 = .ok (.aaload, 1) := by decide +kernel
theorem dX7_build_285 : decode cX7_build 285 = .ok (.ifnonnull 5, 3) := by decide +kernel
theorem dX7_build_288 : decode cX7_build 288 = .ok (.aconst_null, 1) := by decide +kernel
theorem dX7_build_289 : decode cX7_build 289 = .ok (.areturn, 1) := by decide +kernel
theorem dX7_build_290 : decode cX7_build 290 = .ok (.iload 6, 2) := by decide +kernel
theorem dX7_build_292 : decode cX7_build 292 = .ok (.iconst 1, 1) := by decide +kernel
theorem dX7_build_293 : decode cX7_build 293 = .ok (.iadd, 1) := by decide +kernel
theorem dX7_build_294 : decode cX7_build 294 = .ok (.istore_n 1, 1) := by decide +kernel
theorem dX7_build_295 : decode cX7_build 295 = .ok (.iinc 2 1, 3) := by decide +kernel
theorem dX7_build_298 : decode cX7_build 298 = .ok (.goto (-294), 3) := by decide +kernel
theorem dX7_build_301 : decode cX7_build 301 = .ok (.aload_n 0, 1) := by decide +kernel
theorem dX7_build_302 : decode cX7_build 302 = .ok (.getfield 19, 3) := by decide +kernel
theorem dX7_build_305 : decode cX7_build 305 = .ok (.iconst 0, 1) := by decide +kernel
theorem dX7_build_306 : decode cX7_build 306 = .ok (.aaload, 1) := by decide +kernel
theorem dX7_build_307 : decode cX7_build 307 = .ok (.areturn, 1) := by decide +kernel
theorem dX7_empty_0 : decode cX7_empty 0 = .ok (.aload_n 0, 1) := by decide +kernel
theorem dX7_empty_1 : decode cX7_empty 1 = .ok (.iconst 0, 1) := by decide +kernel
theorem dX7_empty_2 : decode cX7_empty 2 = .ok (.putfield 27, 3) := by decide +kernel
theorem dX7_empty_5 : decode cX7_empty 5 = .ok (.return_, 1) := by decide +kernel
theorem dX7_failAt_0 : decode cX7_failAt 0 = .ok (.aload_n 0, 1) := by decide +kernel
theorem dX7_failAt_1 : decode cX7_failAt 1 = .ok (.iload_n 1, 1) := by decide +kernel
theorem dX7_failAt_2 : decode cX7_failAt 2 = .ok (.putfield 37, 3) := by decide +kernel
theorem dX7_failAt_5 : decode cX7_failAt 5 = .ok (.iconst 0, 1) := by decide +kernel
theorem dX7_failAt_6 : decode cX7_failAt 6 = .ok (.ireturn, 1) := by decide +kernel
theorem dX7_hasRoom_0 : decode cX7_hasRoom 0 = .ok (.aload_n 0, 1) := by decide +kernel
theorem dX7_hasRoom_1 : decode cX7_hasRoom 1 = .ok (.getfield 27, 3) := by decide +kernel
theorem dX7_hasRoom_4 : decode cX7_hasRoom 4 = .ok (.iload_n 1, 1) := by decide +kernel
theorem dX7_hasRoom_5 : decode cX7_hasRoom 5 = .ok (.iadd, 1) := by decide +kernel
theorem dX7_hasRoom_6 : decode cX7_hasRoom 6 = .ok (.bipush 120, 2) := by decide +kernel
theorem dX7_hasRoom_8 : decode cX7_hasRoom 8 = .ok (.if_icmp .gt 7, 3) := by decide +kernel
theorem dX7_hasRoom_11 : decode cX7_hasRoom 11 = .ok (.iconst 1, 1) := by decide +kernel
theorem dX7_hasRoom_12 : decode cX7_hasRoom 12 = .ok (.goto 4, 3) := by decide +kernel
theorem dX7_hasRoom_15 : decode cX7_hasRoom 15 = .ok (.iconst 0, 1) := by decide +kernel
theorem dX7_hasRoom_16 : decode cX7_hasRoom 16 = .ok (.ireturn, 1) := by decide +kernel
theorem dX7_isDigit_0 : decode cX7_isDigit 0 = .ok (.iload_n 0, 1) := by decide +kernel
theorem dX7_isDigit_1 : decode cX7_isDigit 1 = .ok (.bipush 48, 2) := by decide +kernel
theorem dX7_isDigit_3 : decode cX7_isDigit 3 = .ok (.if_icmp .lt 13, 3) := by decide +kernel
theorem dX7_isDigit_6 : decode cX7_isDigit 6 = .ok (.iload_n 0, 1) := by decide +kernel
theorem dX7_isDigit_7 : decode cX7_isDigit 7 = .ok (.bipush 57, 2) := by decide +kernel
theorem dX7_isDigit_9 : decode cX7_isDigit 9 = .ok (.if_icmp .gt 7, 3) := by decide +kernel
theorem dX7_isDigit_12 : decode cX7_isDigit 12 = .ok (.iconst 1, 1) := by decide +kernel
theorem dX7_isDigit_13 : decode cX7_isDigit 13 = .ok (.goto 4, 3) := by decide +kernel
theorem dX7_isDigit_16 : decode cX7_isDigit 16 = .ok (.iconst 0, 1) := by decide +kernel
theorem dX7_isDigit_17 : decode cX7_isDigit 17 = .ok (.ireturn, 1) := by decide +kernel
theorem dX7_parse_0 : decode cX7_parse 0 = .ok (.aload_n 0, 1) := by decide +kernel
theorem dX7_parse_1 : decode cX7_parse 1 = .ok (.iconst 0, 1) := by decide +kernel
theorem dX7_parse_2 : decode cX7_parse 2 = .ok (.putfield 31, 3) := by decide +kernel
theorem dX7_parse_5 : decode cX7_parse 5 = .ok (.aload_n 0, 1) := by decide +kernel
theorem dX7_parse_6 : decode cX7_parse 6 = .ok (.iconst 0, 1) := by decide +kernel
theorem dX7_parse_7 : decode cX7_parse 7 = .ok (.putfield 34, 3) := by decide +kernel
theorem dX7_parse_10 : decode cX7_parse 10 = .ok (.aload_n 0, 1) := by decide +kernel
theorem dX7_parse_11 : decode cX7_parse 11 = .ok (.iconst (-1), 1) := by decide +kernel
theorem dX7_parse_12 : decode cX7_parse 12 = .ok (.putfield 37, 3) := by decide +kernel
theorem dX7_parse_15 : decode cX7_parse 15 = .ok (.aload_n 0, 1) := by decide +kernel
theorem dX7_parse_16 : decode cX7_parse 16 = .ok (.iconst 0, 1) := by decide +kernel
theorem dX7_parse_17 : decode cX7_parse 17 = .ok (.invokevirtual 40, 3) := by decide +kernel
theorem dX7_parse_20 : decode cX7_parse 20 = .ok (.ifCond .eq 22, 3) := by decide +kernel
theorem dX7_parse_23 : decode cX7_parse 23 = .ok (.aload_n 0, 1) := by decide +kernel
theorem dX7_parse_24 : decode cX7_parse 24 = .ok (.getfield 31, 3) := by decide +kernel
theorem dX7_parse_27 : decode cX7_parse 27 = .ok (.aload_n 0, 1) := by decide +kernel
theorem dX7_parse_28 : decode cX7_parse 28 = .ok (.getfield 27, 3) := by decide +kernel
theorem dX7_parse_31 : decode cX7_parse 31 = .ok (.if_icmp .ge 11, 3) := by decide +kernel
theorem dX7_parse_34 : decode cX7_parse 34 = .ok (.aload_n 0, 1) := by decide +kernel
theorem dX7_parse_35 : decode cX7_parse 35 = .ok (.aload_n 0, 1) := by decide +kernel
theorem dX7_parse_36 : decode cX7_parse 36 = .ok (.getfield 31, 3) := by decide +kernel
theorem dX7_parse_39 : decode cX7_parse 39 = .ok (.putfield 37, 3) := by decide +kernel
theorem dX7_parse_42 : decode cX7_parse 42 = .ok (.aload_n 0, 1) := by decide +kernel
theorem dX7_parse_43 : decode cX7_parse 43 = .ok (.getfield 37, 3) := by decide +kernel
theorem dX7_parse_46 : decode cX7_parse 46 = .ok (.ireturn, 1) := by decide +kernel
theorem dX7_parseNumber_0 : decode cX7_parseNumber 0 = .ok (.aload_n 0, 1) := by decide +kernel
theorem dX7_parseNumber_1 : decode cX7_parseNumber 1 = .ok (.getfield 31, 3) := by decide +kernel
theorem dX7_parseNumber_4 : decode cX7_parseNumber 4 = .ok (.istore_n 2, 1) := by decide +kernel
theorem dX7_parseNumber_5 : decode cX7_parseNumber 5 = .ok (.iconst 0, 1) := by decide +kernel
theorem dX7_parseNumber_6 : decode cX7_parseNumber 6 = .ok (.istore_n 3, 1) := by decide +kernel
theorem dX7_parseNumber_7 : decode cX7_parseNumber 7 = .ok (.aload_n 0, 1) := by decide +kernel
theorem dX7_parseNumber_8 : decode cX7_parseNumber 8 = .ok (.getfield 31, 3) := by decide +kernel
theorem dX7_parseNumber_11 : decode cX7_parseNumber 11 = .ok (.iload_n 2, 1) := by decide +kernel
theorem dX7_parseNumber_12 : decode cX7_parseNumber 12 = .ok (.iconst 2, 1) := by decide +kernel
theorem dX7_parseNumber_13 : decode cX7_parseNumber 13 = .ok (.iadd, 1) := by decide +kernel
theorem dX7_parseNumber_14 : decode cX7_parseNumber 14 = .ok (.if_icmp .ge 39, 3) := by decide +kernel
theorem dX7_parseNumber_17 : decode cX7_parseNumber 17 = .ok (.aload_n 0, 1) := by decide +kernel
theorem dX7_parseNumber_18 : decode cX7_parseNumber 18 = .ok (.invokevirtual 47, 3) := by decide +kernel
theorem dX7_parseNumber_21 : decode cX7_parseNumber 21 = .ok (.invokestatic 61, 3) := by decide +kernel
theorem dX7_parseNumber_24 : decode cX7_parseNumber 24 = .ok (.ifCond .eq 29, 3) := by decide +kernel
theorem dX7_parseNumber_27 : decode cX7_parseNumber 27 = .ok (.iload_n 3, 1) := by decide +kernel
theorem dX7_parseNumber_28 : decode cX7_parseNumber 28 = .ok (.bipush 10, 2) := by decide +kernel
theorem dX7_parseNumber_30 : decode cX7_parseNumber 30 = .ok (.imul, 1) := by decide +kernel
theorem dX7_parseNumber_31 : decode cX7_parseNumber 31 = .ok (.aload_n 0, 1) := by decide +kernel
theorem dX7_parseNumber_32 : decode cX7_parseNumber 32 = .ok (.invokevirtual 47, 3) := by decide +kernel
theorem dX7_parseNumber_35 : decode cX7_parseNumber 35 = .ok (.iadd, 1) := by decide +kernel
theorem dX7_parseNumber_36 : decode cX7_parseNumber 36 = .ok (.bipush 48, 2) := by decide +kernel
theorem dX7_parseNumber_38 : decode cX7_parseNumber 38 = .ok (.isub, 1) := by decide +kernel
theorem dX7_parseNumber_39 : decode cX7_parseNumber 39 = .ok (.istore_n 3, 1) := by decide +kernel
theorem dX7_parseNumber_40 : decode cX7_parseNumber 40 = .ok (.aload_n 0, 1) := by decide +kernel
theorem dX7_parseNumber_41 : decode cX7_parseNumber 41 = .ok (.dup, 1) := by decide +kernel
theorem dX7_parseNumber_42 : decode cX7_parseNumber 42 = .ok (.getfield 31, 3) := by decide +kernel
theorem dX7_parseNumber_45 : decode cX7_parseNumber 45 = .ok (.iconst 1, 1) := by decide +kernel
theorem dX7_parseNumber_46 : decode cX7_parseNumber 46 = .ok (.iadd, 1) := by decide +kernel
theorem dX7_parseNumber_47 : decode cX7_parseNumber 47 = .ok (.putfield 31, 3) := by decide +kernel
theorem dX7_parseNumber_50 : decode cX7_parseNumber 50 = .ok (.goto (-43), 3) := by decide +kernel
theorem dX7_parseNumber_53 : decode cX7_parseNumber 53 = .ok (.iload_n 3, 1) := by decide +kernel
theorem dX7_parseNumber_54 : decode cX7_parseNumber 54 = .ok (.bipush 12, 2) := by decide +kernel
theorem dX7_parseNumber_56 : decode cX7_parseNumber 56 = .ok (.if_icmp .le 11, 3) := by decide +kernel
theorem dX7_parseNumber_59 : decode cX7_parseNumber 59 = .ok (.aload_n 0, 1) := by decide +kernel
theorem dX7_parseNumber_60 : decode cX7_parseNumber 60 = .ok (.iload_n 2, 1) := by decide +kernel
theorem dX7_parseNumber_61 : decode cX7_parseNumber 61 = .ok (.invokevirtual 55, 3) := by decide +kernel
theorem dX7_parseNumber_64 : decode cX7_parseNumber 64 = .ok (.goto 10, 3) := by decide +kernel
theorem dX7_parseNumber_67 : decode cX7_parseNumber 67 = .ok (.aload_n 0, 1) := by decide +kernel
theorem dX7_parseNumber_68 : decode cX7_parseNumber 68 = .ok (.iload_n 1, 1) := by decide +kernel
theorem dX7_parseNumber_69 : decode cX7_parseNumber 69 = .ok (.iload_n 3, 1) := by decide +kernel
theorem dX7_parseNumber_70 : decode cX7_parseNumber 70 = .ok (.iconst 0, 1) := by decide +kernel
theorem dX7_parseNumber_71 : decode cX7_parseNumber 71 = .ok (.invokevirtual 51, 3) := by decide +kernel
theorem dX7_parseNumber_74 : decode cX7_parseNumber 74 = .ok (.ireturn, 1) := by decide +kernel
theorem dX7_parseRow_0 : decode cX7_parseRow 0 = .ok (.aload_n 0, 1) := by decide +kernel
theorem dX7_parseRow_1 : decode cX7_parseRow 1 = .ok (.invokevirtual 47, 3) := by decide +kernel
theorem dX7_parseRow_4 : decode cX7_parseRow 4 = .ok (.iload_n 2, 1) := by decide +kernel
theorem dX7_parseRow_5 : decode cX7_parseRow 5 = .ok (.if_icmp .ne 15, 3) := by decide +kernel
theorem dX7_parseRow_8 : decode cX7_parseRow 8 = .ok (.aload_n 0, 1) := by decide +kernel
theorem dX7_parseRow_9 : decode cX7_parseRow 9 = .ok (.dup, 1) := by decide +kernel
theorem dX7_parseRow_10 : decode cX7_parseRow 10 = .ok (.getfield 31, 3) := by decide +kernel
theorem dX7_parseRow_13 : decode cX7_parseRow 13 = .ok (.iconst 1, 1) := by decide +kernel
theorem dX7_parseRow_14 : decode cX7_parseRow 14 = .ok (.iadd, 1) := by decide +kernel
theorem dX7_parseRow_15 : decode cX7_parseRow 15 = .ok (.putfield 31, 3) := by decide +kernel
theorem dX7_parseRow_18 : decode cX7_parseRow 18 = .ok (.iconst 0, 1) := by decide +kernel
theorem dX7_parseRow_19 : decode cX7_parseRow 19 = .ok (.ireturn, 1) := by decide +kernel
theorem dX7_parseRow_20 : decode cX7_parseRow 20 = .ok (.iconst 0, 1) := by decide +kernel
theorem dX7_parseRow_21 : decode cX7_parseRow 21 = .ok (.istore_n 3, 1) := by decide +kernel
theorem dX7_parseRow_22 : decode cX7_parseRow 22 = .ok (.iload_n 3, 1) := by decide +kernel
theorem dX7_parseRow_23 : decode cX7_parseRow 23 = .ok (.bipush 120, 2) := by decide +kernel
theorem dX7_parseRow_25 : decode cX7_parseRow 25 = .ok (.if_icmp .ge 68, 3) := by decide +kernel
theorem dX7_parseRow_28 : decode cX7_parseRow 28 = .ok (.aload_n 0, 1) := by decide +kernel
theorem dX7_parseRow_29 : decode cX7_parseRow 29 = .ok (.iload_n 1, 1) := by decide +kernel
theorem dX7_parseRow_30 : decode cX7_parseRow 30 = .ok (.invokevirtual 40, 3) := by decide +kernel
theorem dX7_parseRow_33 : decode cX7_parseRow 33 = .ok (.ifCond .ne 5, 3) := by decide +kernel
theorem dX7_parseRow_36 : decode cX7_parseRow 36 = .ok (.iconst (-1), 1) := by decide +kernel
theorem dX7_parseRow_37 : decode cX7_parseRow 37 = .ok (.ireturn, 1) := by decide +kernel
theorem dX7_parseRow_38 : decode cX7_parseRow 38 = .ok (.iinc 3 1, 3) := by decide +kernel
theorem dX7_parseRow_41 : decode cX7_parseRow 41 = .ok (.aload_n 0, 1) := by decide +kernel
theorem dX7_parseRow_42 : decode cX7_parseRow 42 = .ok (.invokevirtual 47, 3) := by decide +kernel
theorem dX7_parseRow_45 : decode cX7_parseRow 45 = .ok (.istore 4, 2) := by decide +kernel
theorem dX7_parseRow_47 : decode cX7_parseRow 47 = .ok (.iload 4, 2) := by decide +kernel
theorem dX7_parseRow_49 : decode cX7_parseRow 49 = .ok (.bipush 44, 2) := by decide +kernel
theorem dX7_parseRow_51 : decode cX7_parseRow 51 = .ok (.if_icmp .eq 20, 3) := by decide +kernel
theorem dX7_parseRow_54 : decode cX7_parseRow 54 = .ok (.iload 4, 2) := by decide +kernel
theorem dX7_parseRow_56 : decode cX7_parseRow 56 = .ok (.iload_n 2, 1) := by decide +kernel
theorem dX7_parseRow_57 : decode cX7_parseRow 57 = .ok (.if_icmp .eq 14, 3) := by decide +kernel
theorem dX7_parseRow_60 : decode cX7_parseRow 60 = .ok (.aload_n 0, 1) := by decide +kernel
theorem dX7_parseRow_61 : decode cX7_parseRow 61 = .ok (.aload_n 0, 1) := by decide +kernel
theorem dX7_parseRow_62 : decode cX7_parseRow 62 = .ok (.getfield 31, 3) := by decide +kernel
theorem dX7_parseRow_65 : decode cX7_parseRow 65 = .ok (.invokevirtual 55, 3) := by decide +kernel
theorem dX7_parseRow_68 : decode cX7_parseRow 68 = .ok (.pop, 1) := by decide +kernel
theorem dX7_parseRow_69 : decode cX7_parseRow 69 = .ok (.iconst (-1), 1) := by decide +kernel
theorem dX7_parseRow_70 : decode cX7_parseRow 70 = .ok (.ireturn, 1) := by decide +kernel
theorem dX7_parseRow_71 : decode cX7_parseRow 71 = .ok (.aload_n 0, 1) := by decide +kernel
theorem dX7_parseRow_72 : decode cX7_parseRow 72 = .ok (.dup, 1) := by decide +kernel
theorem dX7_parseRow_73 : decode cX7_parseRow 73 = .ok (.getfield 31, 3) := by decide +kernel
theorem dX7_parseRow_76 : decode cX7_parseRow 76 = .ok (.iconst 1, 1) := by decide +kernel
theorem dX7_parseRow_77 : decode cX7_parseRow 77 = .ok (.iadd, 1) := by decide +kernel
theorem dX7_parseRow_78 : decode cX7_parseRow 78 = .ok (.putfield 31, 3) := by decide +kernel
theorem dX7_parseRow_81 : decode cX7_parseRow 81 = .ok (.iload 4, 2) := by decide +kernel
theorem dX7_parseRow_83 : decode cX7_parseRow 83 = .ok (.iload_n 2, 1) := by decide +kernel
theorem dX7_parseRow_84 : decode cX7_parseRow 84 = .ok (.if_icmp .ne 6, 3) := by decide +kernel
theorem dX7_parseRow_87 : decode cX7_parseRow 87 = .ok (.goto 6, 3) := by decide +kernel
theorem dX7_parseRow_90 : decode cX7_parseRow 90 = .ok (.goto (-68), 3) := by decide +kernel
theorem dX7_parseRow_93 : decode cX7_parseRow 93 = .ok (.iload_n 3, 1) := by decide +kernel
theorem dX7_parseRow_94 : decode cX7_parseRow 94 = .ok (.ireturn, 1) := by decide +kernel
theorem dX7_parseRows_0 : decode cX7_parseRows 0 = .ok (.aload_n 0, 1) := by decide +kernel
theorem dX7_parseRows_1 : decode cX7_parseRows 1 = .ok (.iload_n 1, 1) := by decide +kernel
theorem dX7_parseRows_2 : decode cX7_parseRows 2 = .ok (.bipush 124, 2) := by decide +kernel
theorem dX7_parseRows_4 : decode cX7_parseRows 4 = .ok (.invokevirtual 67, 3) := by decide +kernel
theorem dX7_parseRows_7 : decode cX7_parseRows 7 = .ok (.istore_n 2, 1) := by decide +kernel
theorem dX7_parseRows_8 : decode cX7_parseRows 8 = .ok (.iload_n 2, 1) := by decide +kernel
theorem dX7_parseRows_9 : decode cX7_parseRows 9 = .ok (.ifCond .ge 5, 3) := by decide +kernel
theorem dX7_parseRows_12 : decode cX7_parseRows 12 = .ok (.iconst 0, 1) := by decide +kernel
theorem dX7_parseRows_13 : decode cX7_parseRows 13 = .ok (.ireturn, 1) := by decide +kernel
theorem dX7_parseRows_14 : decode cX7_parseRows 14 = .ok (.aload_n 0, 1) := by decide +kernel
theorem dX7_parseRows_15 : decode cX7_parseRows 15 = .ok (.iload_n 1, 1) := by decide +kernel
theorem dX7_parseRows_16 : decode cX7_parseRows 16 = .ok (.bipush 125, 2) := by decide +kernel
theorem dX7_parseRows_18 : decode cX7_parseRows 18 = .ok (.invokevirtual 67, 3) := by decide +kernel
theorem dX7_parseRows_21 : decode cX7_parseRows 21 = .ok (.istore_n 3, 1) := by decide +kernel
theorem dX7_parseRows_22 : decode cX7_parseRows 22 = .ok (.iload_n 3, 1) := by decide +kernel
theorem dX7_parseRows_23 : decode cX7_parseRows 23 = .ok (.ifCond .lt 17, 3) := by decide +kernel
theorem dX7_parseRows_26 : decode cX7_parseRows 26 = .ok (.aload_n 0, 1) := by decide +kernel
theorem dX7_parseRows_27 : decode cX7_parseRows 27 = .ok (.iconst 5, 1) := by decide +kernel
theorem dX7_parseRows_28 : decode cX7_parseRows 28 = .ok (.iload_n 2, 1) := by decide +kernel
theorem dX7_parseRows_29 : decode cX7_parseRows 29 = .ok (.iload_n 3, 1) := by decide +kernel
theorem dX7_parseRows_30 : decode cX7_parseRows 30 = .ok (.invokevirtual 51, 3) := by decide +kernel
theorem dX7_parseRows_33 : decode cX7_parseRows 33 = .ok (.ifCond .eq 7, 3) := by decide +kernel
theorem dX7_parseRows_36 : decode cX7_parseRows 36 = .ok (.iconst 1, 1) := by decide +kernel
theorem dX7_parseRows_37 : decode cX7_parseRows 37 = .ok (.goto 4, 3) := by decide +kernel
theorem dX7_parseRows_40 : decode cX7_parseRows 40 = .ok (.iconst 0, 1) := by decide +kernel
theorem dX7_parseRows_41 : decode cX7_parseRows 41 = .ok (.ireturn, 1) := by decide +kernel
theorem dX7_parseSum_0 : decode cX7_parseSum 0 = .ok (.aload_n 0, 1) := by decide +kernel
theorem dX7_parseSum_1 : decode cX7_parseSum 1 = .ok (.iload_n 1, 1) := by decide +kernel
theorem dX7_parseSum_2 : decode cX7_parseSum 2 = .ok (.invokevirtual 44, 3) := by decide +kernel
theorem dX7_parseSum_5 : decode cX7_parseSum 5 = .ok (.ifCond .ne 5, 3) := by decide +kernel
theorem dX7_parseSum_8 : decode cX7_parseSum 8 = .ok (.iconst 0, 1) := by decide +kernel
theorem dX7_parseSum_9 : decode cX7_parseSum 9 = .ok (.ireturn, 1) := by decide +kernel
theorem dX7_parseSum_10 : decode cX7_parseSum 10 = .ok (.aload_n 0, 1) := by decide +kernel
theorem dX7_parseSum_11 : decode cX7_parseSum 11 = .ok (.getfield 31, 3) := by decide +kernel
theorem dX7_parseSum_14 : decode cX7_parseSum 14 = .ok (.aload_n 0, 1) := by decide +kernel
theorem dX7_parseSum_15 : decode cX7_parseSum 15 = .ok (.getfield 27, 3) := by decide +kernel
theorem dX7_parseSum_18 : decode cX7_parseSum 18 = .ok (.if_icmp .ge 43, 3) := by decide +kernel
theorem dX7_parseSum_21 : decode cX7_parseSum 21 = .ok (.aload_n 0, 1) := by decide +kernel
theorem dX7_parseSum_22 : decode cX7_parseSum 22 = .ok (.invokevirtual 47, 3) := by decide +kernel
theorem dX7_parseSum_25 : decode cX7_parseSum 25 = .ok (.bipush 43, 2) := by decide +kernel
theorem dX7_parseSum_27 : decode cX7_parseSum 27 = .ok (.if_icmp .ne 34, 3) := by decide +kernel
theorem dX7_parseSum_30 : decode cX7_parseSum 30 = .ok (.aload_n 0, 1) := by decide +kernel
theorem dX7_parseSum_31 : decode cX7_parseSum 31 = .ok (.dup, 1) := by decide +kernel
theorem dX7_parseSum_32 : decode cX7_parseSum 32 = .ok (.getfield 31, 3) := by decide +kernel
theorem dX7_parseSum_35 : decode cX7_parseSum 35 = .ok (.iconst 1, 1) := by decide +kernel
theorem dX7_parseSum_36 : decode cX7_parseSum 36 = .ok (.iadd, 1) := by decide +kernel
theorem dX7_parseSum_37 : decode cX7_parseSum 37 = .ok (.putfield 31, 3) := by decide +kernel
theorem dX7_parseSum_40 : decode cX7_parseSum 40 = .ok (.aload_n 0, 1) := by decide +kernel
theorem dX7_parseSum_41 : decode cX7_parseSum 41 = .ok (.iload_n 1, 1) := by decide +kernel
theorem dX7_parseSum_42 : decode cX7_parseSum 42 = .ok (.invokevirtual 44, 3) := by decide +kernel
theorem dX7_parseSum_45 : decode cX7_parseSum 45 = .ok (.ifCond .ne 5, 3) := by decide +kernel
theorem dX7_parseSum_48 : decode cX7_parseSum 48 = .ok (.iconst 0, 1) := by decide +kernel
theorem dX7_parseSum_49 : decode cX7_parseSum 49 = .ok (.ireturn, 1) := by decide +kernel
theorem dX7_parseSum_50 : decode cX7_parseSum 50 = .ok (.aload_n 0, 1) := by decide +kernel
theorem dX7_parseSum_51 : decode cX7_parseSum 51 = .ok (.iconst 4, 1) := by decide +kernel
theorem dX7_parseSum_52 : decode cX7_parseSum 52 = .ok (.iconst 0, 1) := by decide +kernel
theorem dX7_parseSum_53 : decode cX7_parseSum 53 = .ok (.iconst 0, 1) := by decide +kernel
theorem dX7_parseSum_54 : decode cX7_parseSum 54 = .ok (.invokevirtual 51, 3) := by decide +kernel
theorem dX7_parseSum_57 : decode cX7_parseSum 57 = .ok (.pop, 1) := by decide +kernel
theorem dX7_parseSum_58 : decode cX7_parseSum 58 = .ok (.goto (-48), 3) := by decide +kernel
theorem dX7_parseSum_61 : decode cX7_parseSum 61 = .ok (.iconst 1, 1) := by decide +kernel
theorem dX7_parseSum_62 : decode cX7_parseSum 62 = .ok (.ireturn, 1) := by decide +kernel
theorem dX7_parseUnit_0 : decode cX7_parseUnit 0 = .ok (.aload_n 0, 1) := by decide +kernel
theorem dX7_parseUnit_1 : decode cX7_parseUnit 1 = .ok (.invokevirtual 47, 3) := by decide +kernel
theorem dX7_parseUnit_4 : decode cX7_parseUnit 4 = .ok (.istore_n 2, 1) := by decide +kernel
theorem dX7_parseUnit_5 : decode cX7_parseUnit 5 = .ok (.iload_n 2, 1) := by decide +kernel
theorem dX7_parseUnit_6 : decode cX7_parseUnit 6 = .ok (.bipush 123, 2) := by decide +kernel
theorem dX7_parseUnit_8 : decode cX7_parseUnit 8 = .ok (.if_icmp .eq 9, 3) := by decide +kernel
theorem dX7_parseUnit_11 : decode cX7_parseUnit 11 = .ok (.iload_n 2, 1) := by decide +kernel
theorem dX7_parseUnit_12 : decode cX7_parseUnit 12 = .ok (.bipush 45, 2) := by decide +kernel
theorem dX7_parseUnit_14 : decode cX7_parseUnit 14 = .ok (.if_icmp .ne 67, 3) := by decide +kernel
theorem dX7_parseUnit_17 : decode cX7_parseUnit 17 = .ok (.iload_n 1, 1) := by decide +kernel
theorem dX7_parseUnit_18 : decode cX7_parseUnit 18 = .ok (.iconst 5, 1) := by decide +kernel
theorem dX7_parseUnit_19 : decode cX7_parseUnit 19 = .ok (.if_icmp .lt 12, 3) := by decide +kernel
theorem dX7_parseUnit_22 : decode cX7_parseUnit 22 = .ok (.aload_n 0, 1) := by decide +kernel
theorem dX7_parseUnit_23 : decode cX7_parseUnit 23 = .ok (.aload_n 0, 1) := by decide +kernel
theorem dX7_parseUnit_24 : decode cX7_parseUnit 24 = .ok (.getfield 31, 3) := by decide +kernel
theorem dX7_parseUnit_27 : decode cX7_parseUnit 27 = .ok (.invokevirtual 55, 3) := by decide +kernel
theorem dX7_parseUnit_30 : decode cX7_parseUnit 30 = .ok (.ireturn, 1) := by decide +kernel
theorem dX7_parseUnit_31 : decode cX7_parseUnit 31 = .ok (.aload_n 0, 1) := by decide +kernel
theorem dX7_parseUnit_32 : decode cX7_parseUnit 32 = .ok (.dup, 1) := by decide +kernel
theorem dX7_parseUnit_33 : decode cX7_parseUnit 33 = .ok (.getfield 31, 3) := by decide +kernel
theorem dX7_parseUnit_36 : decode cX7_parseUnit 36 = .ok (.iconst 1, 1) := by decide +kernel
theorem dX7_parseUnit_37 : decode cX7_parseUnit 37 = .ok (.iadd, 1) := by decide +kernel
theorem dX7_parseUnit_38 : decode cX7_parseUnit 38 = .ok (.putfield 31, 3) := by decide +kernel
theorem dX7_parseUnit_41 : decode cX7_parseUnit 41 = .ok (.iload_n 2, 1) := by decide +kernel
theorem dX7_parseUnit_42 : decode cX7_parseUnit 42 = .ok (.bipush 123, 2) := by decide +kernel
theorem dX7_parseUnit_44 : decode cX7_parseUnit 44 = .ok (.if_icmp .ne 11, 3) := by decide +kernel
theorem dX7_parseUnit_47 : decode cX7_parseUnit 47 = .ok (.aload_n 0, 1) := by decide +kernel
theorem dX7_parseUnit_48 : decode cX7_parseUnit 48 = .ok (.iload_n 1, 1) := by decide +kernel
theorem dX7_parseUnit_49 : decode cX7_parseUnit 49 = .ok (.iconst 1, 1) := by decide +kernel
theorem dX7_parseUnit_50 : decode cX7_parseUnit 50 = .ok (.iadd, 1) := by decide +kernel
theorem dX7_parseUnit_51 : decode cX7_parseUnit 51 = .ok (.invokevirtual 58, 3) := by decide +kernel
theorem dX7_parseUnit_54 : decode cX7_parseUnit 54 = .ok (.ireturn, 1) := by decide +kernel
theorem dX7_parseUnit_55 : decode cX7_parseUnit 55 = .ok (.aload_n 0, 1) := by decide +kernel
theorem dX7_parseUnit_56 : decode cX7_parseUnit 56 = .ok (.iload_n 1, 1) := by decide +kernel
theorem dX7_parseUnit_57 : decode cX7_parseUnit 57 = .ok (.iconst 1, 1) := by decide +kernel
theorem dX7_parseUnit_58 : decode cX7_parseUnit 58 = .ok (.iadd, 1) := by decide +kernel
theorem dX7_parseUnit_59 : decode cX7_parseUnit 59 = .ok (.invokevirtual 44, 3) := by decide +kernel
theorem dX7_parseUnit_62 : decode cX7_parseUnit 62 = .ok (.ifCond .eq 17, 3) := by decide +kernel
theorem dX7_parseUnit_65 : decode cX7_parseUnit 65 = .ok (.aload_n 0, 1) := by decide +kernel
theorem dX7_parseUnit_66 : decode cX7_parseUnit 66 = .ok (.iconst 3, 1) := by decide +kernel
theorem dX7_parseUnit_67 : decode cX7_parseUnit 67 = .ok (.iconst 0, 1) := by decide +kernel
theorem dX7_parseUnit_68 : decode cX7_parseUnit 68 = .ok (.iconst 0, 1) := by decide +kernel
theorem dX7_parseUnit_69 : decode cX7_parseUnit 69 = .ok (.invokevirtual 51, 3) := by decide +kernel
theorem dX7_parseUnit_72 : decode cX7_parseUnit 72 = .ok (.ifCond .eq 7, 3) := by decide +kernel
theorem dX7_parseUnit_75 : decode cX7_parseUnit 75 = .ok (.iconst 1, 1) := by decide +kernel
theorem dX7_parseUnit_76 : decode cX7_parseUnit 76 = .ok (.goto 4, 3) := by decide +kernel
theorem dX7_parseUnit_79 : decode cX7_parseUnit 79 = .ok (.iconst 0, 1) := by decide +kernel
theorem dX7_parseUnit_80 : decode cX7_parseUnit 80 = .ok (.ireturn, 1) := by decide +kernel
theorem dX7_parseUnit_81 : decode cX7_parseUnit 81 = .ok (.iload_n 2, 1) := by decide +kernel
theorem dX7_parseUnit_82 : decode cX7_parseUnit 82 = .ok (.invokestatic 61, 3) := by decide +kernel
theorem dX7_parseUnit_85 : decode cX7_parseUnit 85 = .ok (.ifCond .eq 9, 3) := by decide +kernel
theorem dX7_parseUnit_88 : decode cX7_parseUnit 88 = .ok (.aload_n 0, 1) := by decide +kernel
theorem dX7_parseUnit_89 : decode cX7_parseUnit 89 = .ok (.iconst 0, 1) := by decide +kernel
theorem dX7_parseUnit_90 : decode cX7_parseUnit 90 = .ok (.invokevirtual 64, 3) := by decide +kernel
theorem dX7_parseUnit_93 : decode cX7_parseUnit 93 = .ok (.ireturn, 1) := by decide +kernel
theorem dX7_parseUnit_94 : decode cX7_parseUnit 94 = .ok (.iload_n 2, 1) := by decide +kernel
theorem dX7_parseUnit_95 : decode cX7_parseUnit 95 = .ok (.bipush 94, 2) := by decide +kernel
theorem dX7_parseUnit_97 : decode cX7_parseUnit 97 = .ok (.if_icmp .ne 21, 3) := by decide +kernel
theorem dX7_parseUnit_100 : decode cX7_parseUnit 100 = .ok (.aload_n 0, 1) := by decide +kernel
theorem dX7_parseUnit_101 : decode cX7_parseUnit 101 = .ok (.dup, 1) := by decide +kernel
theorem dX7_parseUnit_102 : decode cX7_parseUnit 102 = .ok (.getfield 31, 3) := by decide +kernel
theorem dX7_parseUnit_105 : decode cX7_parseUnit 105 = .ok (.iconst 1, 1) := by decide +kernel
theorem dX7_parseUnit_106 : decode cX7_parseUnit 106 = .ok (.iadd, 1) := by decide +kernel
theorem dX7_parseUnit_107 : decode cX7_parseUnit 107 = .ok (.putfield 31, 3) := by decide +kernel
theorem dX7_parseUnit_110 : decode cX7_parseUnit 110 = .ok (.aload_n 0, 1) := by decide +kernel
theorem dX7_parseUnit_111 : decode cX7_parseUnit 111 = .ok (.iconst 2, 1) := by decide +kernel
theorem dX7_parseUnit_112 : decode cX7_parseUnit 112 = .ok (.iconst 0, 1) := by decide +kernel
theorem dX7_parseUnit_113 : decode cX7_parseUnit 113 = .ok (.iconst 0, 1) := by decide +kernel
theorem dX7_parseUnit_114 : decode cX7_parseUnit 114 = .ok (.invokevirtual 51, 3) := by decide +kernel
theorem dX7_parseUnit_117 : decode cX7_parseUnit 117 = .ok (.ireturn, 1) := by decide +kernel
theorem dX7_parseUnit_118 : decode cX7_parseUnit 118 = .ok (.iload_n 2, 1) := by decide +kernel
theorem dX7_parseUnit_119 : decode cX7_parseUnit 119 = .ok (.bipush 42, 2) := by decide +kernel
theorem dX7_parseUnit_121 : decode cX7_parseUnit 121 = .ok (.if_icmp .ne 39, 3) := by decide +kernel
theorem dX7_parseUnit_124 : decode cX7_parseUnit 124 = .ok (.aload_n 0, 1) := by decide +kernel
theorem dX7_parseUnit_125 : decode cX7_parseUnit 125 = .ok (.dup, 1) := by decide +kernel
theorem dX7_parseUnit_126 : decode cX7_parseUnit 126 = .ok (.getfield 31, 3) := by decide +kernel
theorem dX7_parseUnit_129 : decode cX7_parseUnit 129 = .ok (.iconst 1, 1) := by decide +kernel
theorem dX7_parseUnit_130 : decode cX7_parseUnit 130 = .ok (.iadd, 1) := by decide +kernel
theorem dX7_parseUnit_131 : decode cX7_parseUnit 131 = .ok (.putfield 31, 3) := by decide +kernel
theorem dX7_parseUnit_134 : decode cX7_parseUnit 134 = .ok (.aload_n 0, 1) := by decide +kernel
theorem dX7_parseUnit_135 : decode cX7_parseUnit 135 = .ok (.invokevirtual 47, 3) := by decide +kernel
theorem dX7_parseUnit_138 : decode cX7_parseUnit 138 = .ok (.invokestatic 61, 3) := by decide +kernel
theorem dX7_parseUnit_141 : decode cX7_parseUnit 141 = .ok (.ifCond .eq 11, 3) := by decide +kernel
theorem dX7_parseUnit_144 : decode cX7_parseUnit 144 = .ok (.aload_n 0, 1) := by decide +kernel
theorem dX7_parseUnit_145 : decode cX7_parseUnit 145 = .ok (.iconst 1, 1) := by decide +kernel
theorem dX7_parseUnit_146 : decode cX7_parseUnit 146 = .ok (.invokevirtual 64, 3) := by decide +kernel
theorem dX7_parseUnit_149 : decode cX7_parseUnit 149 = .ok (.goto 10, 3) := by decide +kernel
theorem dX7_parseUnit_152 : decode cX7_parseUnit 152 = .ok (.aload_n 0, 1) := by decide +kernel
theorem dX7_parseUnit_153 : decode cX7_parseUnit 153 = .ok (.iconst 1, 1) := by decide +kernel
theorem dX7_parseUnit_154 : decode cX7_parseUnit 154 = .ok (.iconst 1, 1) := by decide +kernel
theorem dX7_parseUnit_155 : decode cX7_parseUnit 155 = .ok (.iconst 0, 1) := by decide +kernel
theorem dX7_parseUnit_156 : decode cX7_parseUnit 156 = .ok (.invokevirtual 51, 3) := by decide +kernel
theorem dX7_parseUnit_159 : decode cX7_parseUnit 159 = .ok (.ireturn, 1) := by decide +kernel
theorem dX7_parseUnit_160 : decode cX7_parseUnit 160 = .ok (.aload_n 0, 1) := by decide +kernel
theorem dX7_parseUnit_161 : decode cX7_parseUnit 161 = .ok (.aload_n 0, 1) := by decide +kernel
theorem dX7_parseUnit_162 : decode cX7_parseUnit 162 = .ok (.getfield 31, 3) := by decide +kernel
theorem dX7_parseUnit_165 : decode cX7_parseUnit 165 = .ok (.invokevirtual 55, 3) := by decide +kernel
theorem dX7_parseUnit_168 : decode cX7_parseUnit 168 = .ok (.ireturn, 1) := by decide +kernel
theorem dX7_sign_0 : decode cX7_sign 0 = .ok (.aload_n 0, 1) := by decide +kernel
theorem dX7_sign_1 : decode cX7_sign 1 = .ok (.getfield 31, 3) := by decide +kernel
theorem dX7_sign_4 : decode cX7_sign 4 = .ok (.ifCond .lt 38, 3) := by decide +kernel
theorem dX7_sign_7 : decode cX7_sign 7 = .ok (.aload_n 0, 1) := by decide +kernel
theorem dX7_sign_8 : decode cX7_sign 8 = .ok (.getfield 31, 3) := by decide +kernel
theorem dX7_sign_11 : decode cX7_sign 11 = .ok (.aload_n 0, 1) := by decide +kernel
theorem dX7_sign_12 : decode cX7_sign 12 = .ok (.getfield 27, 3) := by decide +kernel
theorem dX7_sign_15 : decode cX7_sign 15 = .ok (.if_icmp .ge 27, 3) := by decide +kernel
theorem dX7_sign_18 : decode cX7_sign 18 = .ok (.aload_n 0, 1) := by decide +kernel
theorem dX7_sign_19 : decode cX7_sign 19 = .ok (.getfield 31, 3) := by decide +kernel
theorem dX7_sign_22 : decode cX7_sign 22 = .ok (.aload_n 0, 1) := by decide +kernel
theorem dX7_sign_23 : decode cX7_sign 23 = .ok (.getfield 9, 3) := by decide +kernel
theorem dX7_sign_26 : decode cX7_sign 26 = .ok (.arraylength, 1) := by decide +kernel
theorem dX7_sign_27 : decode cX7_sign 27 = .ok (.if_icmp .ge 15, 3) := by decide +kernel
theorem dX7_sign_30 : decode cX7_sign 30 = .ok (.aload_n 0, 1) := by decide +kernel
theorem dX7_sign_31 : decode cX7_sign 31 = .ok (.getfield 9, 3) := by decide +kernel
theorem dX7_sign_34 : decode cX7_sign 34 = .ok (.aload_n 0, 1) := by decide +kernel
theorem dX7_sign_35 : decode cX7_sign 35 = .ok (.getfield 31, 3) := by decide +kernel
theorem dX7_sign_38 : decode cX7_sign 38 = .ok (.baload, 1) := by decide +kernel
theorem dX7_sign_39 : decode cX7_sign 39 = .ok (.goto 4, 3) := by decide +kernel
theorem dX7_sign_42 : decode cX7_sign 42 = .ok (.iconst (-1), 1) := by decide +kernel
theorem dX7_sign_43 : decode cX7_sign 43 = .ok (.ireturn, 1) := by decide +kernel
theorem dX7_step_0 : decode cX7_step 0 = .ok (.aload_n 0, 1) := by decide +kernel
theorem dX7_step_1 : decode cX7_step 1 = .ok (.getfield 34, 3) := by decide +kernel
theorem dX7_step_4 : decode cX7_step 4 = .ok (.ifCond .lt 44, 3) := by decide +kernel
theorem dX7_step_7 : decode cX7_step 7 = .ok (.aload_n 0, 1) := by decide +kernel
theorem dX7_step_8 : decode cX7_step 8 = .ok (.getfield 34, 3) := by decide +kernel
theorem dX7_step_11 : decode cX7_step 11 = .ok (.aload_n 0, 1) := by decide +kernel
theorem dX7_step_12 : decode cX7_step 12 = .ok (.getfield 13, 3) := by decide +kernel
theorem dX7_step_15 : decode cX7_step 15 = .ok (.arraylength, 1) := by decide +kernel
theorem dX7_step_16 : decode cX7_step 16 = .ok (.if_icmp .ge 32, 3) := by decide +kernel
theorem dX7_step_19 : decode cX7_step 19 = .ok (.aload_n 0, 1) := by decide +kernel
theorem dX7_step_20 : decode cX7_step 20 = .ok (.getfield 13, 3) := by decide +kernel
theorem dX7_step_23 : decode cX7_step 23 = .ok (.aload_n 0, 1) := by decide +kernel
theorem dX7_step_24 : decode cX7_step 24 = .ok (.getfield 34, 3) := by decide +kernel
theorem dX7_step_27 : decode cX7_step 27 = .ok (.iload_n 1, 1) := by decide +kernel
theorem dX7_step_28 : decode cX7_step 28 = .ok (.iload_n 2, 1) := by decide +kernel
theorem dX7_step_29 : decode cX7_step 29 = .ok (.iconst 4, 1) := by decide +kernel
theorem dX7_step_30 : decode cX7_step 30 = .ok (.ishl, 1) := by decide +kernel
theorem dX7_step_31 : decode cX7_step 31 = .ok (.ior, 1) := by decide +kernel
theorem dX7_step_32 : decode cX7_step 32 = .ok (.iload_n 3, 1) := by decide +kernel
theorem dX7_step_33 : decode cX7_step 33 = .ok (.bipush 12, 2) := by decide +kernel
theorem dX7_step_35 : decode cX7_step 35 = .ok (.ishl, 1) := by decide +kernel
theorem dX7_step_36 : decode cX7_step 36 = .ok (.ior, 1) := by decide +kernel
theorem dX7_step_37 : decode cX7_step 37 = .ok (.iastore, 1) := by decide +kernel
theorem dX7_step_38 : decode cX7_step 38 = .ok (.aload_n 0, 1) := by decide +kernel
theorem dX7_step_39 : decode cX7_step 39 = .ok (.dup, 1) := by decide +kernel
theorem dX7_step_40 : decode cX7_step 40 = .ok (.getfield 34, 3) := by decide +kernel
theorem dX7_step_43 : decode cX7_step 43 = .ok (.iconst 1, 1) := by decide +kernel
theorem dX7_step_44 : decode cX7_step 44 = .ok (.iadd, 1) := by decide +kernel
theorem dX7_step_45 : decode cX7_step 45 = .ok (.putfield 34, 3) := by decide +kernel
theorem dX7_step_48 : decode cX7_step 48 = .ok (.iconst 1, 1) := by decide +kernel
theorem dX7_step_49 : decode cX7_step 49 = .ok (.ireturn, 1) := by decide +kernel
theorem dX7_take_0 : decode cX7_take 0 = .ok (.iconst 0, 1) := by decide +kernel
theorem dX7_take_1 : decode cX7_take 1 = .ok (.istore 4, 2) := by decide +kernel
theorem dX7_take_3 : decode cX7_take 3 = .ok (.iload 4, 2) := by decide +kernel
theorem dX7_take_5 : decode cX7_take 5 = .ok (.iload_n 3, 1) := by decide +kernel
theorem dX7_take_6 : decode cX7_take 6 = .ok (.if_icmp .ge 56, 3) := by decide +kernel
theorem dX7_take_9 : decode cX7_take 9 = .ok (.aload_n 0, 1) := by decide +kernel
theorem dX7_take_10 : decode cX7_take 10 = .ok (.getfield 27, 3) := by decide +kernel
theorem dX7_take_13 : decode cX7_take 13 = .ok (.ifCond .lt 49, 3) := by decide +kernel
theorem dX7_take_16 : decode cX7_take 16 = .ok (.aload_n 0, 1) := by decide +kernel
theorem dX7_take_17 : decode cX7_take 17 = .ok (.getfield 27, 3) := by decide +kernel
theorem dX7_take_20 : decode cX7_take 20 = .ok (.aload_n 0, 1) := by decide +kernel
theorem dX7_take_21 : decode cX7_take 21 = .ok (.getfield 9, 3) := by decide +kernel
theorem dX7_take_24 : decode cX7_take 24 = .ok (.arraylength, 1) := by decide +kernel
theorem dX7_take_25 : decode cX7_take 25 = .ok (.if_icmp .ge 37, 3) := by decide +kernel
theorem dX7_take_28 : decode cX7_take 28 = .ok (.aload_n 0, 1) := by decide +kernel
theorem dX7_take_29 : decode cX7_take 29 = .ok (.getfield 9, 3) := by decide +kernel
theorem dX7_take_32 : decode cX7_take 32 = .ok (.aload_n 0, 1) := by decide +kernel
theorem dX7_take_33 : decode cX7_take 33 = .ok (.getfield 27, 3) := by decide +kernel
theorem dX7_take_36 : decode cX7_take 36 = .ok (.lload_n 1, 1) := by decide +kernel
theorem dX7_take_37 : decode cX7_take 37 = .ok (.bipush 8, 2) := by decide +kernel
theorem dX7_take_39 : decode cX7_take 39 = .ok (.iload 4, 2) := by decide +kernel
theorem dX7_take_41 : decode cX7_take 41 = .ok (.imul, 1) := by decide +kernel
theorem dX7_take_42 : decode cX7_take 42 = .ok (.lshr, 1) := by decide +kernel
theorem dX7_take_43 : decode cX7_take 43 = .ok (.l2i, 1) := by decide +kernel
theorem dX7_take_44 : decode cX7_take 44 = .ok (.i2b, 1) := by decide +kernel
theorem dX7_take_45 : decode cX7_take 45 = .ok (.bastore, 1) := by decide +kernel
theorem dX7_take_46 : decode cX7_take 46 = .ok (.aload_n 0, 1) := by decide +kernel
theorem dX7_take_47 : decode cX7_take 47 = .ok (.dup, 1) := by decide +kernel
theorem dX7_take_48 : decode cX7_take 48 = .ok (.getfield 27, 3) := by decide +kernel
theorem dX7_take_51 : decode cX7_take 51 = .ok (.iconst 1, 1) := by decide +kernel
theorem dX7_take_52 : decode cX7_take 52 = .ok (.iadd, 1) := by decide +kernel
theorem dX7_take_53 : decode cX7_take 53 = .ok (.putfield 27, 3) := by decide +kernel
theorem dX7_take_56 : decode cX7_take 56 = .ok (.iinc 4 1, 3) := by decide +kernel
theorem dX7_take_59 : decode cX7_take 59 = .ok (.goto (-56), 3) := by decide +kernel
theorem dX7_take_62 : decode cX7_take 62 = .ok (.aload_n 0, 1) := by decide +kernel
theorem dX7_take_63 : decode cX7_take 63 = .ok (.getfield 27, 3) := by decide +kernel
theorem dX7_take_66 : decode cX7_take 66 = .ok (.ireturn, 1) := by decide +kernel
theorem dX7_taken_0 : decode cX7_taken 0 = .ok (.iload_n 0, 1) := by decide +kernel
theorem dX7_taken_1 : decode cX7_taken 1 = .ok (.tableswitch 35 3 5 #[27, 29, 31], 27) := by decide +kernel
theorem dX7_taken_28 : decode cX7_taken 28 = .ok (.iconst 1, 1) := by decide +kernel
theorem dX7_taken_29 : decode cX7_taken 29 = .ok (.ireturn, 1) := by decide +kernel
theorem dX7_taken_30 : decode cX7_taken 30 = .ok (.iconst 2, 1) := by decide +kernel
theorem dX7_taken_31 : decode cX7_taken 31 = .ok (.ireturn, 1) := by decide +kernel
theorem dX7_taken_32 : decode cX7_taken 32 = .ok (.iload_n 1, 1) := by decide +kernel
theorem dX7_taken_33 : decode cX7_taken 33 = .ok (.iload_n 2, 1) := by decide +kernel
theorem dX7_taken_34 : decode cX7_taken 34 = .ok (.iadd, 1) := by decide +kernel
theorem dX7_taken_35 : decode cX7_taken 35 = .ok (.ireturn, 1) := by decide +kernel
theorem dX7_taken_36 : decode cX7_taken 36 = .ok (.iconst 0, 1) := by decide +kernel
theorem dX7_taken_37 : decode cX7_taken 37 = .ok (.ireturn, 1) := by decide +kernel
/-- X7 empty ()V -/
def f_X7_empty (n : Nat)  (mi : Mem) : Option Rz :=
  ptF mi 41 4 0 fun m2 =>
  rt 0 m2
set_option maxRecDepth 100000 in
set_option maxHeartbeats 4000000 in
theorem s_X7_empty (l : Launch) (sc : g_S) (E : Mem → g_H) (R : Nat → Prop) (hE : LE E R) (hR : RCL R) (n : Nat)    (mi : Mem) (r : Rz) (H : f_X7_empty n  mi = some r) : AMet l sc yX7_empty cX7_empty 1 none 0 0 0 [.ref 41] (E mi) (pV E r) := by
  have r41 : R 41 := hR.1 41 (Nat.le_of_ble_eq_true rfl) (Nat.le_of_ble_eq_true rfl)
  unfold f_X7_empty at H
  refine AMet.of (own := RX7) (by decide +kernel) rfl (Nat.le_of_ble_eq_true rfl) [(0, .ref 41)] rfl (fun D base ad => ?_)
  refine aw_aload_n (pc := 0) dX7_empty_0 rfl ?_
  refine cx_iconst (pc := 1) dX7_empty_1 ?_
  refine cx_ptF (pc := 2) tyX7 hE r41 fl_X7_27 (fun r h => ⟨gty_X7 r h, by cases h; rfl⟩) rfl rfl rfl (Nat.le_of_ble_eq_true rfl) dX7_empty_2 H (fun m2 H => ?_)
  exact cx_vret (pc := 5) rfl (Nat.le_of_ble_eq_true rfl) (Nat.le_of_ble_eq_true rfl) dX7_empty_5 H
/-- X7 hasRoom (I)Z -/
def f_X7_hasRoom (n : Nat) (p1 : Int) (mi : Mem) : Option Rz :=
  gtF mi 41 4 fun x1 =>
  jn (fun (s0_16 : Int) (m16 : Mem) =>
    rtZ s0_16 m16
  ) fun (j16 : Int → Mem → Option Rz) =>
  if 120 < w32 (x1 + p1) then (
    j16 0 mi
  ) else
  j16 1 mi
set_option maxRecDepth 100000 in
set_option maxHeartbeats 4000000 in
theorem s_X7_hasRoom (l : Launch) (sc : g_S) (E : Mem → g_H) (R : Nat → Prop) (hE : LE E R) (hR : RCL R) (n : Nat)  (p1 : Int) (hp1 : inR p1) (mi : Mem) (r : Rz) (H : f_X7_hasRoom n p1 mi = some r) : AMet l sc yX7_hasRoom cX7_hasRoom 2 (some FieldType.boolean) 0 0 0 [.ref 41, iv p1] (E mi) (pI E r) := by
  have r41 : R 41 := hR.1 41 (Nat.le_of_ble_eq_true rfl) (Nat.le_of_ble_eq_true rfl)
  unfold f_X7_hasRoom at H
  refine AMet.of (own := RX7) (by decide +kernel) rfl (Nat.le_of_ble_eq_true rfl) [(0, .ref 41), (1, iv p1)] rfl (fun D base ad => ?_)
  refine aw_aload_n (pc := 0) dX7_hasRoom_0 rfl ?_
  refine cx_gtF (pc := 1) hE r41 fl_X7_27 rfl rfl (Nat.le_of_ble_eq_true rfl) dX7_hasRoom_1 H (fun x1 hx1 H => ?_)
  refine aw_iload_n (pc := 4) dX7_hasRoom_4 rfl ?_
  refine cx_iadd (pc := 5) dX7_hasRoom_5 ?_
  refine cx_bipush (pc := 6) dX7_hasRoom_6 (by decide) ?_
  refine jn_ind (fun (f9 : Int → Mem → Option Rz) => ∀ (s0_16 : Int) (m16 : Mem), inR s0_16 → f9 s0_16 m16 = some r → AW l D base sc RX7 yX7_hasRoom cX7_hasRoom 2 (some FieldType.boolean) 0 0 0 ad (E mi) (pI E r) 0 0 (E m16) 16 [] [iv s0_16]) (fun s0_16 m16 hs0_16 H => ?_) (fun j16 hj16 H => ?_) H
  · -- 16
    exact cx_zret (pc := 16) rfl (Nat.le_of_ble_eq_true rfl) (Nat.le_of_ble_eq_true rfl) dX7_hasRoom_16 H
  refine cx_icmp_gt (pc := 8) 15 (inR_w32 _) (inR_lit _ rfl) dX7_hasRoom_8 rfl H (fun H => ?_) (fun H => ?_)
  · -- 8: 15
    refine cx_iconst (pc := 15) dX7_hasRoom_15 ?_
    exact AW.sel [] rfl (hj16 _ _ (inR_lit _ rfl) H)
  · -- 8: 11
    refine cx_iconst (pc := 11) dX7_hasRoom_11 ?_
    refine aw_goto (pc := 12) 16 dX7_hasRoom_12 rfl ?_
    exact AW.sel [] rfl (hj16 _ _ (inR_lit _ rfl) H)
/-- X7 take (JI)I -/
def f_X7_take (n : Nat) (p1 : Nat) (p3 : Int) (mi : Mem) : Option Rz :=
  lp (F := Int → Mem → Option Rz) (fun _ _ => none) (fun w3 v4_3 m3 =>
    jn (fun (m62 : Mem) =>
      gtF m62 41 4 fun x63 =>
      rt x63 m62
    ) fun (j62 : Mem → Option Rz) =>
    if v4_3 < p3 then (
      gtF m3 41 4 fun x10 =>
      if x10 < 0 then (
        j62 m3
      ) else
      gtF m3 41 4 fun x17 =>
      if x17 < 120 then (
        gtF m3 41 4 fun x33 =>
        stB m3 42 x33 (i8 (j2i (jshr p1 (w32 (8 * v4_3))))) fun m45 =>
        gtF m45 41 4 fun x48 =>
        ptF m45 41 4 (w32 (x48 + 1)) fun m53 =>
        w3 (w32 (v4_3 + 1)) m53
      ) else
      j62 m3
    ) else
    j62 m3
  ) n 0 mi
set_option maxRecDepth 100000 in
set_option maxHeartbeats 4000000 in
theorem s_X7_take (l : Launch) (sc : g_S) (E : Mem → g_H) (R : Nat → Prop) (hE : LE E R) (hR : RCL R) (n : Nat)  (p1 : Nat) (p3 : Int) (hp3 : inR p3) (mi : Mem) (r : Rz) (H : f_X7_take n p1 p3 mi = some r) : AMet l sc yX7_take cX7_take 5 (some FieldType.int) 0 0 0 [.ref 41, jv p1, iv p3] (E mi) (pI E r) := by
  have r41 : R 41 := hR.1 41 (Nat.le_of_ble_eq_true rfl) (Nat.le_of_ble_eq_true rfl)
  have r42 : R 42 := hR.1 42 (Nat.le_of_ble_eq_true rfl) (Nat.le_of_ble_eq_true rfl)
  unfold f_X7_take at H
  refine AMet.of (own := RX7) (by decide +kernel) rfl (Nat.le_of_ble_eq_true rfl) [(0, .ref 41), (1, jv p1), (3, iv p3)] rfl (fun D base ad => ?_)
  refine cx_iconst (pc := 0) dX7_take_0 ?_
  refine aw_istore (pc := 1) [(4, iv 0), (0, .ref 41), (1, jv p1), (3, iv p3)] dX7_take_1 rfl (by decide) ?_
  refine AW.sel [1, 2, 3, 0] rfl (lp_ind (bot := fun _ _ => none) (fun (f9 : Int → Mem → Option Rz) => ∀ (v4_3 : Int) (m3 : Mem), inR v4_3 → f9 v4_3 m3 = some r → AW l D base sc RX7 yX7_take cX7_take 5 (some FieldType.int) 0 0 0 ad (E mi) (pI E r) 0 0 (E m3) 3 [(0, .ref 41), (1, jv p1), (3, iv p3), (4, iv v4_3)] []) (fun _ _ _ h9 => nomatch h9) (fun w3 ih3 v4_3 m3 hv4_3 H => ?_) n _ _ (inR_lit _ rfl) H)
  refine aw_iload (pc := 3) dX7_take_3 rfl ?_
  refine aw_iload_n (pc := 5) dX7_take_5 rfl ?_
  refine jn_ind (fun (f9 : Mem → Option Rz) => ∀ (m62 : Mem), f9 m62 = some r → AW l D base sc RX7 yX7_take cX7_take 5 (some FieldType.int) 0 0 0 ad (E mi) (pI E r) 0 0 (E m62) 62 [(0, .ref 41)] []) (fun m62 H => ?_) (fun j62 hj62 H => ?_) H
  · -- 62
    refine aw_aload_n (pc := 62) dX7_take_62 rfl ?_
    refine cx_gtF (pc := 63) hE r41 fl_X7_27 rfl rfl (Nat.le_of_ble_eq_true rfl) dX7_take_63 H (fun x63 hx63 H => ?_)
    exact cx_iret (pc := 66) hx63 rfl (Nat.le_of_ble_eq_true rfl) (Nat.le_of_ble_eq_true rfl) dX7_take_66 H
  refine cx_icmp_ge (pc := 6) 62 hv4_3 hp3 dX7_take_6 rfl H (fun H => ?_) (fun H => ?_)
  · -- 6: 9
    refine aw_aload_n (pc := 9) dX7_take_9 rfl ?_
    refine cx_gtF (pc := 10) hE r41 fl_X7_27 rfl rfl (Nat.le_of_ble_eq_true rfl) dX7_take_10 H (fun x10 hx10 H => ?_)
    refine cx_if_lt (pc := 13) 62 hx10 dX7_take_13 rfl H (fun H => ?_) (fun H => ?_)
    · -- 13: 62
      exact AW.sel [0] rfl (hj62 _ H)
    · -- 13: 16
      refine aw_aload_n (pc := 16) dX7_take_16 rfl ?_
      refine cx_gtF (pc := 17) hE r41 fl_X7_27 rfl rfl (Nat.le_of_ble_eq_true rfl) dX7_take_17 H (fun x17 hx17 H => ?_)
      refine aw_aload_n (pc := 20) dX7_take_20 rfl ?_
      refine cx_gtC (pc := 21) 42 hE r41 fl_X7_9 rfl rfl (Nat.le_of_ble_eq_true rfl) dX7_take_21 ?_
      refine cx_lenC (pc := 24) (c := 120) hE r42 (fun _ => ⟨_, _, rfl, rfl⟩) dX7_take_24 ?_
      refine cx_icmp_ge (pc := 25) 62 hx17 (inR_lit _ rfl) dX7_take_25 rfl H (fun H => ?_) (fun H => ?_)
      · -- 25: 28
        refine aw_aload_n (pc := 28) dX7_take_28 rfl ?_
        refine cx_gtC (pc := 29) 42 hE r41 fl_X7_9 rfl rfl (Nat.le_of_ble_eq_true rfl) dX7_take_29 ?_
        refine aw_aload_n (pc := 32) dX7_take_32 rfl ?_
        refine cx_gtF (pc := 33) hE r41 fl_X7_27 rfl rfl (Nat.le_of_ble_eq_true rfl) dX7_take_33 H (fun x33 hx33 H => ?_)
        refine aw_lload_n (pc := 36) dX7_take_36 rfl ?_
        refine cx_bipush (pc := 37) dX7_take_37 (by decide) ?_
        refine aw_iload (pc := 39) dX7_take_39 rfl ?_
        refine cx_imul (pc := 41) dX7_take_41 ?_
        refine cx_lshr (pc := 42) dX7_take_42 ?_
        refine cx_l2i (pc := 43) dX7_take_43 ?_
        refine cx_i2b (pc := 44) dX7_take_44 ?_
        refine cx_stB (pc := 45) hE r42 hx33 dX7_take_45 H (fun m45 H => ?_)
        refine aw_aload_n (pc := 46) dX7_take_46 rfl ?_
        refine aw_dup (pc := 47) dX7_take_47 rfl ?_
        refine cx_gtF (pc := 48) hE r41 fl_X7_27 rfl rfl (Nat.le_of_ble_eq_true rfl) dX7_take_48 H (fun x48 hx48 H => ?_)
        refine cx_iconst (pc := 51) dX7_take_51 ?_
        refine cx_iadd (pc := 52) dX7_take_52 ?_
        refine cx_ptF (pc := 53) tyX7 hE r41 fl_X7_27 (fun r h => ⟨gty_X7 r h, by cases h; rfl⟩) rfl rfl rfl (Nat.le_of_ble_eq_true rfl) dX7_take_53 H (fun m53 H => ?_)
        refine cx_iinc (pc := 56) [(4, iv (w32 (v4_3 + 1))), (0, .ref 41), (1, jv p1), (3, iv p3)] dX7_take_56 rfl rfl (by decide) ?_
        refine aw_goto (pc := 59) 3 dX7_take_59 rfl ?_
        exact AW.sel [1, 2, 3, 0] rfl (ih3 _ _ (inR_w32 _) H)
      · -- 25: 62
        exact AW.sel [0] rfl (hj62 _ H)
  · -- 6: 62
    exact AW.sel [0] rfl (hj62 _ H)
/-- X7 failAt (I)Z -/
def f_X7_failAt (n : Nat) (p1 : Int) (mi : Mem) : Option Rz :=
  ptF mi 41 6 p1 fun m2 =>
  rtZ 0 m2
set_option maxRecDepth 100000 in
set_option maxHeartbeats 4000000 in
theorem s_X7_failAt (l : Launch) (sc : g_S) (E : Mem → g_H) (R : Nat → Prop) (hE : LE E R) (hR : RCL R) (n : Nat)  (p1 : Int) (hp1 : inR p1) (mi : Mem) (r : Rz) (H : f_X7_failAt n p1 mi = some r) : AMet l sc yX7_failAt cX7_failAt 2 (some FieldType.boolean) 0 0 0 [.ref 41, iv p1] (E mi) (pI E r) := by
  have r41 : R 41 := hR.1 41 (Nat.le_of_ble_eq_true rfl) (Nat.le_of_ble_eq_true rfl)
  unfold f_X7_failAt at H
  refine AMet.of (own := RX7) (by decide +kernel) rfl (Nat.le_of_ble_eq_true rfl) [(0, .ref 41), (1, iv p1)] rfl (fun D base ad => ?_)
  refine aw_aload_n (pc := 0) dX7_failAt_0 rfl ?_
  refine aw_iload_n (pc := 1) dX7_failAt_1 rfl ?_
  refine cx_ptF (pc := 2) tyX7 hE r41 fl_X7_37 (fun r h => ⟨gty_X7 r h, by cases h; rfl⟩) rfl rfl rfl (Nat.le_of_ble_eq_true rfl) dX7_failAt_2 H (fun m2 H => ?_)
  refine cx_iconst (pc := 5) dX7_failAt_5 ?_
  exact cx_zret (pc := 6) rfl (Nat.le_of_ble_eq_true rfl) (Nat.le_of_ble_eq_true rfl) dX7_failAt_6 H
/-- X7 isDigit (I)Z -/
def f_X7_isDigit (n : Nat) (p0 : Int) (mi : Mem) : Option Rz :=
  jn (fun (s0_17 : Int) (m17 : Mem) =>
    rtZ s0_17 m17
  ) fun (j17 : Int → Mem → Option Rz) =>
  jn (fun (m16 : Mem) =>
    j17 0 m16
  ) fun (j16 : Mem → Option Rz) =>
  if p0 < 48 then (
    j16 mi
  ) else
  if 57 < p0 then (
    j16 mi
  ) else
  j17 1 mi
set_option maxRecDepth 100000 in
set_option maxHeartbeats 4000000 in
theorem s_X7_isDigit (l : Launch) (sc : g_S) (E : Mem → g_H) (R : Nat → Prop) (hE : LE E R) (hR : RCL R) (n : Nat)  (p0 : Int) (hp0 : inR p0) (mi : Mem) (r : Rz) (H : f_X7_isDigit n p0 mi = some r) : AMet l sc yX7_isDigit cX7_isDigit 1 (some FieldType.boolean) 0 0 0 [iv p0] (E mi) (pI E r) := by
  unfold f_X7_isDigit at H
  refine AMet.of (own := RX7) (by decide +kernel) rfl (Nat.le_of_ble_eq_true rfl) [(0, iv p0)] rfl (fun D base ad => ?_)
  refine aw_iload_n (pc := 0) dX7_isDigit_0 rfl ?_
  refine cx_bipush (pc := 1) dX7_isDigit_1 (by decide) ?_
  refine jn_ind (fun (f9 : Int → Mem → Option Rz) => ∀ (s0_17 : Int) (m17 : Mem), inR s0_17 → f9 s0_17 m17 = some r → AW l D base sc RX7 yX7_isDigit cX7_isDigit 1 (some FieldType.boolean) 0 0 0 ad (E mi) (pI E r) 0 0 (E m17) 17 [] [iv s0_17]) (fun s0_17 m17 hs0_17 H => ?_) (fun j17 hj17 H => ?_) H
  · -- 17
    exact cx_zret (pc := 17) rfl (Nat.le_of_ble_eq_true rfl) (Nat.le_of_ble_eq_true rfl) dX7_isDigit_17 H
  refine jn_ind (fun (f9 : Mem → Option Rz) => ∀ (m16 : Mem), f9 m16 = some r → AW l D base sc RX7 yX7_isDigit cX7_isDigit 1 (some FieldType.boolean) 0 0 0 ad (E mi) (pI E r) 0 0 (E m16) 16 [] []) (fun m16 H => ?_) (fun j16 hj16 H => ?_) H
  · -- 16
    refine cx_iconst (pc := 16) dX7_isDigit_16 ?_
    exact AW.sel [] rfl (hj17 _ _ (inR_lit _ rfl) H)
  refine cx_icmp_lt (pc := 3) 16 hp0 (inR_lit _ rfl) dX7_isDigit_3 rfl H (fun H => ?_) (fun H => ?_)
  · -- 3: 16
    exact AW.sel [] rfl (hj16 _ H)
  · -- 3: 6
    refine aw_iload_n (pc := 6) dX7_isDigit_6 rfl ?_
    refine cx_bipush (pc := 7) dX7_isDigit_7 (by decide) ?_
    refine cx_icmp_gt (pc := 9) 16 hp0 (inR_lit _ rfl) dX7_isDigit_9 rfl H (fun H => ?_) (fun H => ?_)
    · -- 9: 16
      exact AW.sel [] rfl (hj16 _ H)
    · -- 9: 12
      refine cx_iconst (pc := 12) dX7_isDigit_12 ?_
      refine aw_goto (pc := 13) 17 dX7_isDigit_13 rfl ?_
      exact AW.sel [] rfl (hj17 _ _ (inR_lit _ rfl) H)
/-- X7 sign ()I -/
def f_X7_sign (n : Nat)  (mi : Mem) : Option Rz :=
  gtF mi 41 5 fun x1 =>
  jn (fun (s0_43 : Int) (m43 : Mem) =>
    rt s0_43 m43
  ) fun (j43 : Int → Mem → Option Rz) =>
  jn (fun (m42 : Mem) =>
    j43 (-1) m42
  ) fun (j42 : Mem → Option Rz) =>
  if x1 < 0 then (
    j42 mi
  ) else
  gtF mi 41 5 fun x8 =>
  gtF mi 41 4 fun x12 =>
  if x8 < x12 then (
    gtF mi 41 5 fun x19 =>
    if x19 < 120 then (
      gtF mi 41 5 fun x35 =>
      ldB mi 42 x35 fun x38 =>
      j43 x38 mi
    ) else
    j42 mi
  ) else
  j42 mi
set_option maxRecDepth 100000 in
set_option maxHeartbeats 4000000 in
theorem s_X7_sign (l : Launch) (sc : g_S) (E : Mem → g_H) (R : Nat → Prop) (hE : LE E R) (hR : RCL R) (n : Nat)    (mi : Mem) (r : Rz) (H : f_X7_sign n  mi = some r) : AMet l sc yX7_sign cX7_sign 1 (some FieldType.int) 0 0 0 [.ref 41] (E mi) (pI E r) := by
  have r41 : R 41 := hR.1 41 (Nat.le_of_ble_eq_true rfl) (Nat.le_of_ble_eq_true rfl)
  have r42 : R 42 := hR.1 42 (Nat.le_of_ble_eq_true rfl) (Nat.le_of_ble_eq_true rfl)
  unfold f_X7_sign at H
  refine AMet.of (own := RX7) (by decide +kernel) rfl (Nat.le_of_ble_eq_true rfl) [(0, .ref 41)] rfl (fun D base ad => ?_)
  refine aw_aload_n (pc := 0) dX7_sign_0 rfl ?_
  refine cx_gtF (pc := 1) hE r41 fl_X7_31 rfl rfl (Nat.le_of_ble_eq_true rfl) dX7_sign_1 H (fun x1 hx1 H => ?_)
  refine jn_ind (fun (f9 : Int → Mem → Option Rz) => ∀ (s0_43 : Int) (m43 : Mem), inR s0_43 → f9 s0_43 m43 = some r → AW l D base sc RX7 yX7_sign cX7_sign 1 (some FieldType.int) 0 0 0 ad (E mi) (pI E r) 0 0 (E m43) 43 [] [iv s0_43]) (fun s0_43 m43 hs0_43 H => ?_) (fun j43 hj43 H => ?_) H
  · -- 43
    exact cx_iret (pc := 43) hs0_43 rfl (Nat.le_of_ble_eq_true rfl) (Nat.le_of_ble_eq_true rfl) dX7_sign_43 H
  refine jn_ind (fun (f9 : Mem → Option Rz) => ∀ (m42 : Mem), f9 m42 = some r → AW l D base sc RX7 yX7_sign cX7_sign 1 (some FieldType.int) 0 0 0 ad (E mi) (pI E r) 0 0 (E m42) 42 [] []) (fun m42 H => ?_) (fun j42 hj42 H => ?_) H
  · -- 42
    refine cx_iconst (pc := 42) dX7_sign_42 ?_
    exact AW.sel [] rfl (hj43 _ _ (inR_lit _ rfl) H)
  refine cx_if_lt (pc := 4) 42 hx1 dX7_sign_4 rfl H (fun H => ?_) (fun H => ?_)
  · -- 4: 42
    exact AW.sel [] rfl (hj42 _ H)
  · -- 4: 7
    refine aw_aload_n (pc := 7) dX7_sign_7 rfl ?_
    refine cx_gtF (pc := 8) hE r41 fl_X7_31 rfl rfl (Nat.le_of_ble_eq_true rfl) dX7_sign_8 H (fun x8 hx8 H => ?_)
    refine aw_aload_n (pc := 11) dX7_sign_11 rfl ?_
    refine cx_gtF (pc := 12) hE r41 fl_X7_27 rfl rfl (Nat.le_of_ble_eq_true rfl) dX7_sign_12 H (fun x12 hx12 H => ?_)
    refine cx_icmp_ge (pc := 15) 42 hx8 hx12 dX7_sign_15 rfl H (fun H => ?_) (fun H => ?_)
    · -- 15: 18
      refine aw_aload_n (pc := 18) dX7_sign_18 rfl ?_
      refine cx_gtF (pc := 19) hE r41 fl_X7_31 rfl rfl (Nat.le_of_ble_eq_true rfl) dX7_sign_19 H (fun x19 hx19 H => ?_)
      refine aw_aload_n (pc := 22) dX7_sign_22 rfl ?_
      refine cx_gtC (pc := 23) 42 hE r41 fl_X7_9 rfl rfl (Nat.le_of_ble_eq_true rfl) dX7_sign_23 ?_
      refine cx_lenC (pc := 26) (c := 120) hE r42 (fun _ => ⟨_, _, rfl, rfl⟩) dX7_sign_26 ?_
      refine cx_icmp_ge (pc := 27) 42 hx19 (inR_lit _ rfl) dX7_sign_27 rfl H (fun H => ?_) (fun H => ?_)
      · -- 27: 30
        refine aw_aload_n (pc := 30) dX7_sign_30 rfl ?_
        refine cx_gtC (pc := 31) 42 hE r41 fl_X7_9 rfl rfl (Nat.le_of_ble_eq_true rfl) dX7_sign_31 ?_
        refine aw_aload_n (pc := 34) dX7_sign_34 rfl ?_
        refine cx_gtF (pc := 35) hE r41 fl_X7_31 rfl rfl (Nat.le_of_ble_eq_true rfl) dX7_sign_35 H (fun x35 hx35 H => ?_)
        refine cx_ldB (pc := 38) hE r42 hx35 dX7_sign_38 H (fun x38 hx38 H => ?_)
        refine aw_goto (pc := 39) 43 dX7_sign_39 rfl ?_
        exact AW.sel [] rfl (hj43 _ _ hx38 H)
      · -- 27: 42
        exact AW.sel [] rfl (hj42 _ H)
    · -- 15: 42
      exact AW.sel [] rfl (hj42 _ H)
/-- X7 step (III)Z -/
def f_X7_step (n : Nat) (p1 : Int) (p2 : Int) (p3 : Int) (mi : Mem) : Option Rz :=
  gtF mi 41 7 fun x1 =>
  jn (fun (m48 : Mem) =>
    rtZ 1 m48
  ) fun (j48 : Mem → Option Rz) =>
  if x1 < 0 then (
    j48 mi
  ) else
  gtF mi 41 7 fun x8 =>
  if x8 < 120 then (
    gtF mi 41 7 fun x24 =>
    stI mi 43 x24 (ior (ior p1 (ishl p2 4)) (ishl p3 12)) fun m37 =>
    gtF m37 41 7 fun x40 =>
    ptF m37 41 7 (w32 (x40 + 1)) fun m45 =>
    j48 m45
  ) else
  j48 mi
set_option maxRecDepth 100000 in
set_option maxHeartbeats 4000000 in
theorem s_X7_step (l : Launch) (sc : g_S) (E : Mem → g_H) (R : Nat → Prop) (hE : LE E R) (hR : RCL R) (n : Nat)  (p1 : Int) (p2 : Int) (p3 : Int) (hp1 : inR p1) (hp2 : inR p2) (hp3 : inR p3) (mi : Mem) (r : Rz) (H : f_X7_step n p1 p2 p3 mi = some r) : AMet l sc yX7_step cX7_step 4 (some FieldType.boolean) 0 0 0 [.ref 41, iv p1, iv p2, iv p3] (E mi) (pI E r) := by
  have r41 : R 41 := hR.1 41 (Nat.le_of_ble_eq_true rfl) (Nat.le_of_ble_eq_true rfl)
  have r43 : R 43 := hR.1 43 (Nat.le_of_ble_eq_true rfl) (Nat.le_of_ble_eq_true rfl)
  unfold f_X7_step at H
  refine AMet.of (own := RX7) (by decide +kernel) rfl (Nat.le_of_ble_eq_true rfl) [(0, .ref 41), (1, iv p1), (2, iv p2), (3, iv p3)] rfl (fun D base ad => ?_)
  refine aw_aload_n (pc := 0) dX7_step_0 rfl ?_
  refine cx_gtF (pc := 1) hE r41 fl_X7_34 rfl rfl (Nat.le_of_ble_eq_true rfl) dX7_step_1 H (fun x1 hx1 H => ?_)
  refine jn_ind (fun (f9 : Mem → Option Rz) => ∀ (m48 : Mem), f9 m48 = some r → AW l D base sc RX7 yX7_step cX7_step 4 (some FieldType.boolean) 0 0 0 ad (E mi) (pI E r) 0 0 (E m48) 48 [] []) (fun m48 H => ?_) (fun j48 hj48 H => ?_) H
  · -- 48
    refine cx_iconst (pc := 48) dX7_step_48 ?_
    exact cx_zret (pc := 49) rfl (Nat.le_of_ble_eq_true rfl) (Nat.le_of_ble_eq_true rfl) dX7_step_49 H
  refine cx_if_lt (pc := 4) 48 hx1 dX7_step_4 rfl H (fun H => ?_) (fun H => ?_)
  · -- 4: 48
    exact AW.sel [] rfl (hj48 _ H)
  · -- 4: 7
    refine aw_aload_n (pc := 7) dX7_step_7 rfl ?_
    refine cx_gtF (pc := 8) hE r41 fl_X7_34 rfl rfl (Nat.le_of_ble_eq_true rfl) dX7_step_8 H (fun x8 hx8 H => ?_)
    refine aw_aload_n (pc := 11) dX7_step_11 rfl ?_
    refine cx_gtC (pc := 12) 43 hE r41 fl_X7_13 rfl rfl (Nat.le_of_ble_eq_true rfl) dX7_step_12 ?_
    refine cx_lenC (pc := 15) (c := 120) hE r43 (fun _ => ⟨_, _, rfl, rfl⟩) dX7_step_15 ?_
    refine cx_icmp_ge (pc := 16) 48 hx8 (inR_lit _ rfl) dX7_step_16 rfl H (fun H => ?_) (fun H => ?_)
    · -- 16: 19
      refine aw_aload_n (pc := 19) dX7_step_19 rfl ?_
      refine cx_gtC (pc := 20) 43 hE r41 fl_X7_13 rfl rfl (Nat.le_of_ble_eq_true rfl) dX7_step_20 ?_
      refine aw_aload_n (pc := 23) dX7_step_23 rfl ?_
      refine cx_gtF (pc := 24) hE r41 fl_X7_34 rfl rfl (Nat.le_of_ble_eq_true rfl) dX7_step_24 H (fun x24 hx24 H => ?_)
      refine aw_iload_n (pc := 27) dX7_step_27 rfl ?_
      refine aw_iload_n (pc := 28) dX7_step_28 rfl ?_
      refine cx_iconst (pc := 29) dX7_step_29 ?_
      refine cx_ishl (pc := 30) dX7_step_30 ?_
      refine cx_ior (pc := 31) dX7_step_31 ?_
      refine aw_iload_n (pc := 32) dX7_step_32 rfl ?_
      refine cx_bipush (pc := 33) dX7_step_33 (by decide) ?_
      refine cx_ishl (pc := 35) dX7_step_35 ?_
      refine cx_ior (pc := 36) dX7_step_36 ?_
      refine cx_stI (pc := 37) hE r43 hx24 dX7_step_37 H (fun m37 H => ?_)
      refine aw_aload_n (pc := 38) dX7_step_38 rfl ?_
      refine aw_dup (pc := 39) dX7_step_39 rfl ?_
      refine cx_gtF (pc := 40) hE r41 fl_X7_34 rfl rfl (Nat.le_of_ble_eq_true rfl) dX7_step_40 H (fun x40 hx40 H => ?_)
      refine cx_iconst (pc := 43) dX7_step_43 ?_
      refine cx_iadd (pc := 44) dX7_step_44 ?_
      refine cx_ptF (pc := 45) tyX7 hE r41 fl_X7_34 (fun r h => ⟨gty_X7 r h, by cases h; rfl⟩) rfl rfl rfl (Nat.le_of_ble_eq_true rfl) dX7_step_45 H (fun m45 H => ?_)
      exact AW.sel [] rfl (hj48 _ H)
    · -- 16: 48
      exact AW.sel [] rfl (hj48 _ H)
/-- X7 parseNumber (I)Z -/
def f_X7_parseNumber (n : Nat) (p1 : Int) (mi : Mem) : Option Rz :=
  gtF mi 41 5 fun x1 =>
  lp (F := Int → Mem → Option Rz) (fun _ _ => none) (fun w7 v3_7 m7 =>
    gtF m7 41 5 fun x8 =>
    jn (fun (m53 : Mem) =>
      jn (fun (s0_74 : Int) (m74 : Mem) =>
        rtZ s0_74 m74
      ) fun (j74 : Int → Mem → Option Rz) =>
      if 12 < v3_7 then (
        cal (f_X7_failAt n x1 m53) fun x61 m61 =>
        j74 x61 m61
      ) else
      cal (f_X7_step n p1 v3_7 0 m53) fun x71 m71 =>
      j74 x71 m71
    ) fun (j53 : Mem → Option Rz) =>
    if x8 < w32 (x1 + 2) then (
      cal (f_X7_sign n m7) fun x18 m18 =>
      cal (f_X7_isDigit n x18 m18) fun x21 m21 =>
      if x21 = 0 then (
        j53 m21
      ) else
      cal (f_X7_sign n m21) fun x32 m32 =>
      nm (w32 ((w32 ((w32 (v3_7 * 10)) + x32)) - 48)) fun z39 =>
      gtF m32 41 5 fun x42 =>
      ptF m32 41 5 (w32 (x42 + 1)) fun m47 =>
      w7 z39 m47
    ) else
    j53 m7
  ) n 0 mi
set_option maxRecDepth 100000 in
set_option maxHeartbeats 4000000 in
theorem s_X7_parseNumber (l : Launch) (sc : g_S) (E : Mem → g_H) (R : Nat → Prop) (hE : LE E R) (hR : RCL R) (n : Nat)  (p1 : Int) (hp1 : inR p1) (mi : Mem) (r : Rz) (H : f_X7_parseNumber n p1 mi = some r) : AMet l sc yX7_parseNumber cX7_parseNumber 4 (some FieldType.boolean) 1 0 0 [.ref 41, iv p1] (E mi) (pI E r) := by
  have r41 : R 41 := hR.1 41 (Nat.le_of_ble_eq_true rfl) (Nat.le_of_ble_eq_true rfl)
  unfold f_X7_parseNumber at H
  refine AMet.of (own := RX7) (by decide +kernel) rfl (Nat.le_of_ble_eq_true rfl) [(0, .ref 41), (1, iv p1)] rfl (fun D base ad => ?_)
  refine aw_aload_n (pc := 0) dX7_parseNumber_0 rfl ?_
  refine cx_gtF (pc := 1) hE r41 fl_X7_31 rfl rfl (Nat.le_of_ble_eq_true rfl) dX7_parseNumber_1 H (fun x1 hx1 H => ?_)
  refine aw_istore_n (pc := 4) [(2, iv x1), (0, .ref 41), (1, iv p1)] dX7_parseNumber_4 rfl (by decide) ?_
  refine cx_iconst (pc := 5) dX7_parseNumber_5 ?_
  refine aw_istore_n (pc := 6) [(3, iv 0), (2, iv x1), (0, .ref 41), (1, iv p1)] dX7_parseNumber_6 rfl (by decide) ?_
  refine AW.sel [2, 3, 1, 0] rfl (lp_ind (bot := fun _ _ => none) (fun (f9 : Int → Mem → Option Rz) => ∀ (v3_7 : Int) (m7 : Mem), inR v3_7 → f9 v3_7 m7 = some r → AW l D base sc RX7 yX7_parseNumber cX7_parseNumber 4 (some FieldType.boolean) 1 0 0 ad (E mi) (pI E r) 0 0 (E m7) 7 [(0, .ref 41), (1, iv p1), (2, iv x1), (3, iv v3_7)] []) (fun _ _ _ h9 => nomatch h9) (fun w7 ih7 v3_7 m7 hv3_7 H => ?_) n _ _ (inR_lit _ rfl) H)
  refine aw_aload_n (pc := 7) dX7_parseNumber_7 rfl ?_
  refine cx_gtF (pc := 8) hE r41 fl_X7_31 rfl rfl (Nat.le_of_ble_eq_true rfl) dX7_parseNumber_8 H (fun x8 hx8 H => ?_)
  refine aw_iload_n (pc := 11) dX7_parseNumber_11 rfl ?_
  refine cx_iconst (pc := 12) dX7_parseNumber_12 ?_
  refine cx_iadd (pc := 13) dX7_parseNumber_13 ?_
  refine jn_ind (fun (f9 : Mem → Option Rz) => ∀ (m53 : Mem), f9 m53 = some r → AW l D base sc RX7 yX7_parseNumber cX7_parseNumber 4 (some FieldType.boolean) 1 0 0 ad (E mi) (pI E r) 0 0 (E m53) 53 [(0, .ref 41), (1, iv p1), (2, iv x1), (3, iv v3_7)] []) (fun m53 H => ?_) (fun j53 hj53 H => ?_) H
  · -- 53
    refine aw_iload_n (pc := 53) dX7_parseNumber_53 rfl ?_
    refine cx_bipush (pc := 54) dX7_parseNumber_54 (by decide) ?_
    refine jn_ind (fun (f9 : Int → Mem → Option Rz) => ∀ (s0_74 : Int) (m74 : Mem), inR s0_74 → f9 s0_74 m74 = some r → AW l D base sc RX7 yX7_parseNumber cX7_parseNumber 4 (some FieldType.boolean) 1 0 0 ad (E mi) (pI E r) 0 0 (E m74) 74 [] [iv s0_74]) (fun s0_74 m74 hs0_74 H => ?_) (fun j74 hj74 H => ?_) H
    · -- 74
      exact cx_zret (pc := 74) rfl (Nat.le_of_ble_eq_true rfl) (Nat.le_of_ble_eq_true rfl) dX7_parseNumber_74 H
    refine cx_icmp_le (pc := 56) 67 hv3_7 (inR_lit _ rfl) dX7_parseNumber_56 rfl H (fun H => ?_) (fun H => ?_)
    · -- 56: 59
      refine aw_aload_n (pc := 59) dX7_parseNumber_59 rfl ?_
      refine aw_iload_n (pc := 60) dX7_parseNumber_60 rfl ?_
      refine cx_callV (pc := 61) (P := pI) (dC := 0) (mcC := 0) (msC := 0) [iv x1] hE r41 (fun r1 H1 => s_X7_failAt l sc E R hE hR n x1 hx1 m53 r1 H1) ca_X7_55 rfl ⟨_, rfl, rfl⟩ rfl rfl (Nat.le_of_ble_eq_true rfl) (Nat.le_of_ble_eq_true rfl) (Nat.le_of_ble_eq_true rfl) (Nat.le_of_ble_eq_true rfl) dX7_parseNumber_61 H (fun x61 m61 v61 hh61 H hp => ?_)
      refine cx_backI hp (fun hx61 => ?_)
      refine aw_goto (pc := 64) 74 dX7_parseNumber_64 rfl ?_
      exact AW.sel [] rfl (hj74 _ _ hx61 H)
    · -- 56: 67
      refine aw_aload_n (pc := 67) dX7_parseNumber_67 rfl ?_
      refine aw_iload_n (pc := 68) dX7_parseNumber_68 rfl ?_
      refine aw_iload_n (pc := 69) dX7_parseNumber_69 rfl ?_
      refine cx_iconst (pc := 70) dX7_parseNumber_70 ?_
      refine cx_callV (pc := 71) (P := pI) (dC := 0) (mcC := 0) (msC := 0) [iv p1, iv v3_7, iv 0] hE r41 (fun r1 H1 => s_X7_step l sc E R hE hR n p1 v3_7 0 hp1 hv3_7 (inR_lit _ rfl) m53 r1 H1) ca_X7_51 rfl ⟨_, rfl, rfl⟩ rfl rfl (Nat.le_of_ble_eq_true rfl) (Nat.le_of_ble_eq_true rfl) (Nat.le_of_ble_eq_true rfl) (Nat.le_of_ble_eq_true rfl) dX7_parseNumber_71 H (fun x71 m71 v71 hh71 H hp => ?_)
      refine cx_backI hp (fun hx71 => ?_)
      exact AW.sel [] rfl (hj74 _ _ hx71 H)
  refine cx_icmp_ge (pc := 14) 53 hx8 (inR_w32 _) dX7_parseNumber_14 rfl H (fun H => ?_) (fun H => ?_)
  · -- 14: 17
    refine aw_aload_n (pc := 17) dX7_parseNumber_17 rfl ?_
    refine cx_callV (pc := 18) (P := pI) (dC := 0) (mcC := 0) (msC := 0) [] hE r41 (fun r1 H1 => s_X7_sign l sc E R hE hR n m7 r1 H1) ca_X7_47 rfl ⟨_, rfl, rfl⟩ rfl rfl (Nat.le_of_ble_eq_true rfl) (Nat.le_of_ble_eq_true rfl) (Nat.le_of_ble_eq_true rfl) (Nat.le_of_ble_eq_true rfl) dX7_parseNumber_18 H (fun x18 m18 v18 hh18 H hp => ?_)
    refine cx_backI hp (fun hx18 => ?_)
    refine cx_callS (pc := 21) (P := pI) (dC := 0) (mcC := 0) (msC := 0) [iv x18] (fun r1 H1 => s_X7_isDigit l sc E R hE hR n x18 hx18 m18 r1 H1) ca_X7_61 rfl rfl (Nat.le_of_ble_eq_true rfl) (Nat.le_of_ble_eq_true rfl) (Nat.le_of_ble_eq_true rfl) (Nat.le_of_ble_eq_true rfl) dX7_parseNumber_21 H (fun x21 m21 v21 hh21 H hp => ?_)
    refine cx_backI hp (fun hx21 => ?_)
    refine cx_if_eq (pc := 24) 53 hx21 dX7_parseNumber_24 rfl H (fun H => ?_) (fun H => ?_)
    · -- 24: 53
      exact AW.sel [0, 1, 2, 3] rfl (hj53 _ H)
    · -- 24: 27
      refine aw_iload_n (pc := 27) dX7_parseNumber_27 rfl ?_
      refine cx_bipush (pc := 28) dX7_parseNumber_28 (by decide) ?_
      refine cx_imul (pc := 30) dX7_parseNumber_30 ?_
      refine aw_aload_n (pc := 31) dX7_parseNumber_31 rfl ?_
      refine cx_callV (pc := 32) (P := pI) (dC := 0) (mcC := 0) (msC := 0) [] hE r41 (fun r1 H1 => s_X7_sign l sc E R hE hR n m21 r1 H1) ca_X7_47 rfl ⟨_, rfl, rfl⟩ rfl rfl (Nat.le_of_ble_eq_true rfl) (Nat.le_of_ble_eq_true rfl) (Nat.le_of_ble_eq_true rfl) (Nat.le_of_ble_eq_true rfl) dX7_parseNumber_32 H (fun x32 m32 v32 hh32 H hp => ?_)
      refine cx_backI hp (fun hx32 => ?_)
      refine cx_iadd (pc := 35) dX7_parseNumber_35 ?_
      refine cx_bipush (pc := 36) dX7_parseNumber_36 (by decide) ?_
      refine cx_isub (pc := 38) dX7_parseNumber_38 ?_
      refine cx_nm (inR_w32 _) H (fun z39 hz39 H => ?_)
      refine aw_istore_n (pc := 39) [(3, iv z39), (0, .ref 41), (1, iv p1), (2, iv x1)] dX7_parseNumber_39 rfl (by decide) ?_
      refine aw_aload_n (pc := 40) dX7_parseNumber_40 rfl ?_
      refine aw_dup (pc := 41) dX7_parseNumber_41 rfl ?_
      refine cx_gtF (pc := 42) hE r41 fl_X7_31 rfl rfl (Nat.le_of_ble_eq_true rfl) dX7_parseNumber_42 H (fun x42 hx42 H => ?_)
      refine cx_iconst (pc := 45) dX7_parseNumber_45 ?_
      refine cx_iadd (pc := 46) dX7_parseNumber_46 ?_
      refine cx_ptF (pc := 47) tyX7 hE r41 fl_X7_31 (fun r h => ⟨gty_X7 r h, by cases h; rfl⟩) rfl rfl rfl (Nat.le_of_ble_eq_true rfl) dX7_parseNumber_47 H (fun m47 H => ?_)
      refine aw_goto (pc := 50) 7 dX7_parseNumber_50 rfl ?_
      exact AW.sel [1, 2, 3, 0] rfl (ih7 _ _ hz39 H)
  · -- 14: 53
    exact AW.sel [0, 1, 2, 3] rfl (hj53 _ H)
/-- X7 parseRow (II)I -/
def b_X7_parseRow (n : Nat) (g_X7_parseRow : (Int → Int → Mem → Option Rz)) (g_X7_parseRows : (Int → Mem → Option Rz)) (g_X7_parseSum : (Int → Mem → Option Rz)) (g_X7_parseUnit : (Int → Mem → Option Rz)) (p1 : Int) (p2 : Int) (mi : Mem) : Option Rz :=
  cal (f_X7_sign n mi) fun x1 m1 =>
  if x1 = p2 then (
    gtF m1 41 5 fun x10 =>
    ptF m1 41 5 (w32 (x10 + 1)) fun m15 =>
    rt 0 m15
  ) else
  lp (F := Int → Mem → Option Rz) (fun _ _ => none) (fun w22 v3_22 m22 =>
    jn (fun (v3_93 : Int) (m93 : Mem) =>
      rt v3_93 m93
    ) fun (j93 : Int → Mem → Option Rz) =>
    if v3_22 < 120 then (
      cal (g_X7_parseSum p1 m22) fun x30 m30 =>
      if x30 = 0 then (
        rt (-1) m30
      ) else
      cal (f_X7_sign n m30) fun x42 m42 =>
      jn (fun (m71 : Mem) =>
        gtF m71 41 5 fun x73 =>
        ptF m71 41 5 (w32 (x73 + 1)) fun m78 =>
        if x42 = p2 then (
          j93 (w32 (v3_22 + 1)) m78
        ) else
        w22 (w32 (v3_22 + 1)) m78
      ) fun (j71 : Mem → Option Rz) =>
      if x42 = 44 then (
        j71 m42
      ) else
      if x42 = p2 then (
        j71 m42
      ) else
      gtF m42 41 5 fun x62 =>
      cal (f_X7_failAt n x62 m42) fun x65 m65 =>
      rt (-1) m65
    ) else
    j93 v3_22 m22
  ) n 0 m1
/-- X7 parseRows (I)Z -/
def b_X7_parseRows (n : Nat) (g_X7_parseRow : (Int → Int → Mem → Option Rz)) (g_X7_parseRows : (Int → Mem → Option Rz)) (g_X7_parseSum : (Int → Mem → Option Rz)) (g_X7_parseUnit : (Int → Mem → Option Rz)) (p1 : Int) (mi : Mem) : Option Rz :=
  cal (g_X7_parseRow p1 124 mi) fun x4 m4 =>
  if x4 < 0 then (
    rtZ 0 m4
  ) else
  cal (g_X7_parseRow p1 125 m4) fun x18 m18 =>
  jn (fun (s0_41 : Int) (m41 : Mem) =>
    rtZ s0_41 m41
  ) fun (j41 : Int → Mem → Option Rz) =>
  jn (fun (m40 : Mem) =>
    j41 0 m40
  ) fun (j40 : Mem → Option Rz) =>
  if x18 < 0 then (
    j40 m18
  ) else
  cal (f_X7_step n 5 x4 x18 m18) fun x30 m30 =>
  if x30 = 0 then (
    j40 m30
  ) else
  j41 1 m30
/-- X7 parseSum (I)Z -/
def b_X7_parseSum (n : Nat) (g_X7_parseRow : (Int → Int → Mem → Option Rz)) (g_X7_parseRows : (Int → Mem → Option Rz)) (g_X7_parseSum : (Int → Mem → Option Rz)) (g_X7_parseUnit : (Int → Mem → Option Rz)) (p1 : Int) (mi : Mem) : Option Rz :=
  cal (g_X7_parseUnit p1 mi) fun x2 m2 =>
  if x2 = 0 then (
    rtZ 0 m2
  ) else
  lp (F := Mem → Option Rz) (fun  _ => none) (fun w10 m10 =>
    gtF m10 41 5 fun x11 =>
    gtF m10 41 4 fun x15 =>
    jn (fun (m61 : Mem) =>
      rtZ 1 m61
    ) fun (j61 : Mem → Option Rz) =>
    if x11 < x15 then (
      cal (f_X7_sign n m10) fun x22 m22 =>
      if x22 = 43 then (
        gtF m22 41 5 fun x32 =>
        ptF m22 41 5 (w32 (x32 + 1)) fun m37 =>
        cal (g_X7_parseUnit p1 m37) fun x42 m42 =>
        if x42 = 0 then (
          rtZ 0 m42
        ) else
        cal (f_X7_step n 4 0 0 m42) fun x54 m54 =>
        w10 m54
      ) else
      j61 m22
    ) else
    j61 m10
  ) n  m2
/-- X7 parseUnit (I)Z -/
def b_X7_parseUnit (n : Nat) (g_X7_parseRow : (Int → Int → Mem → Option Rz)) (g_X7_parseRows : (Int → Mem → Option Rz)) (g_X7_parseSum : (Int → Mem → Option Rz)) (g_X7_parseUnit : (Int → Mem → Option Rz)) (p1 : Int) (mi : Mem) : Option Rz :=
  cal (f_X7_sign n mi) fun x1 m1 =>
  jn (fun (m17 : Mem) =>
    if p1 < 5 then (
      gtF m17 41 5 fun x33 =>
      ptF m17 41 5 (w32 (x33 + 1)) fun m38 =>
      if x1 = 123 then (
        cal (g_X7_parseRows (w32 (p1 + 1)) m38) fun x51 m51 =>
        rtZ x51 m51
      ) else
      cal (g_X7_parseUnit (w32 (p1 + 1)) m38) fun x59 m59 =>
      jn (fun (s0_80 : Int) (m80 : Mem) =>
        rtZ s0_80 m80
      ) fun (j80 : Int → Mem → Option Rz) =>
      jn (fun (m79 : Mem) =>
        j80 0 m79
      ) fun (j79 : Mem → Option Rz) =>
      if x59 = 0 then (
        j79 m59
      ) else
      cal (f_X7_step n 3 0 0 m59) fun x69 m69 =>
      if x69 = 0 then (
        j79 m69
      ) else
      j80 1 m69
    ) else
    gtF m17 41 5 fun x24 =>
    cal (f_X7_failAt n x24 m17) fun x27 m27 =>
    rtZ x27 m27
  ) fun (j17 : Mem → Option Rz) =>
  if x1 = 123 then (
    j17 m1
  ) else
  if x1 = 45 then (
    j17 m1
  ) else
  cal (f_X7_isDigit n x1 m1) fun x82 m82 =>
  if x82 = 0 then (
    if x1 = 94 then (
      gtF m82 41 5 fun x102 =>
      ptF m82 41 5 (w32 (x102 + 1)) fun m107 =>
      cal (f_X7_step n 2 0 0 m107) fun x114 m114 =>
      rtZ x114 m114
    ) else
    if x1 = 42 then (
      gtF m82 41 5 fun x126 =>
      ptF m82 41 5 (w32 (x126 + 1)) fun m131 =>
      cal (f_X7_sign n m131) fun x135 m135 =>
      cal (f_X7_isDigit n x135 m135) fun x138 m138 =>
      jn (fun (s0_159 : Int) (m159 : Mem) =>
        rtZ s0_159 m159
      ) fun (j159 : Int → Mem → Option Rz) =>
      if x138 = 0 then (
        cal (f_X7_step n 1 1 0 m138) fun x156 m156 =>
        j159 x156 m156
      ) else
      cal (f_X7_parseNumber n 1 m138) fun x146 m146 =>
      j159 x146 m146
    ) else
    gtF m82 41 5 fun x162 =>
    cal (f_X7_failAt n x162 m82) fun x165 m165 =>
    rtZ x165 m165
  ) else
  cal (f_X7_parseNumber n 0 m82) fun x90 m90 =>
  rtZ x90 m90
def t_X7_parseUnit (n : Nat) : Nat → (Int → Int → Mem → Option Rz) × (Int → Mem → Option Rz) × (Int → Mem → Option Rz) × (Int → Mem → Option Rz)
  | 0 => (fun _ _ _ => none, fun _ _ => none, fun _ _ => none, fun _ _ => none)
  | d + 1 => (b_X7_parseRow n (t_X7_parseUnit n d).1 (t_X7_parseUnit n d).2.1 (t_X7_parseUnit n d).2.2.1 (t_X7_parseUnit n d).2.2.2, b_X7_parseRows n (t_X7_parseUnit n d).1 (t_X7_parseUnit n d).2.1 (t_X7_parseUnit n d).2.2.1 (t_X7_parseUnit n d).2.2.2, b_X7_parseSum n (t_X7_parseUnit n d).1 (t_X7_parseUnit n d).2.1 (t_X7_parseUnit n d).2.2.1 (t_X7_parseUnit n d).2.2.2, b_X7_parseUnit n (t_X7_parseUnit n d).1 (t_X7_parseUnit n d).2.1 (t_X7_parseUnit n d).2.2.1 (t_X7_parseUnit n d).2.2.2)
def h_X7_parseRow (n d : Nat) : (Int → Int → Mem → Option Rz) := (t_X7_parseUnit n d).1
def f_X7_parseRow (n : Nat) : (Int → Int → Mem → Option Rz) := h_X7_parseRow n 40
def h_X7_parseRows (n d : Nat) : (Int → Mem → Option Rz) := (t_X7_parseUnit n d).2.1
def f_X7_parseRows (n : Nat) : (Int → Mem → Option Rz) := h_X7_parseRows n 40
def h_X7_parseSum (n d : Nat) : (Int → Mem → Option Rz) := (t_X7_parseUnit n d).2.2.1
def f_X7_parseSum (n : Nat) : (Int → Mem → Option Rz) := h_X7_parseSum n 40
def h_X7_parseUnit (n d : Nat) : (Int → Mem → Option Rz) := (t_X7_parseUnit n d).2.2.2
def f_X7_parseUnit (n : Nat) : (Int → Mem → Option Rz) := h_X7_parseUnit n 40
theorem h_X7_parseRow_s (n d : Nat) (p1 : Int) (p2 : Int) (m : Mem) : h_X7_parseRow n (d + 1) p1 p2 m = b_X7_parseRow n (h_X7_parseRow n d) (h_X7_parseRows n d) (h_X7_parseSum n d) (h_X7_parseUnit n d) p1 p2 m := rfl
theorem h_X7_parseRow_0 (n : Nat) (p1 : Int) (p2 : Int) (m : Mem) : h_X7_parseRow n 0 p1 p2 m = none := rfl
theorem h_X7_parseRows_s (n d : Nat) (p1 : Int) (m : Mem) : h_X7_parseRows n (d + 1) p1 m = b_X7_parseRows n (h_X7_parseRow n d) (h_X7_parseRows n d) (h_X7_parseSum n d) (h_X7_parseUnit n d) p1 m := rfl
theorem h_X7_parseRows_0 (n : Nat) (p1 : Int) (m : Mem) : h_X7_parseRows n 0 p1 m = none := rfl
theorem h_X7_parseSum_s (n d : Nat) (p1 : Int) (m : Mem) : h_X7_parseSum n (d + 1) p1 m = b_X7_parseSum n (h_X7_parseRow n d) (h_X7_parseRows n d) (h_X7_parseSum n d) (h_X7_parseUnit n d) p1 m := rfl
theorem h_X7_parseSum_0 (n : Nat) (p1 : Int) (m : Mem) : h_X7_parseSum n 0 p1 m = none := rfl
theorem h_X7_parseUnit_s (n d : Nat) (p1 : Int) (m : Mem) : h_X7_parseUnit n (d + 1) p1 m = b_X7_parseUnit n (h_X7_parseRow n d) (h_X7_parseRows n d) (h_X7_parseSum n d) (h_X7_parseUnit n d) p1 m := rfl
theorem h_X7_parseUnit_0 (n : Nat) (p1 : Int) (m : Mem) : h_X7_parseUnit n 0 p1 m = none := rfl
def q_X7_parseRow (l : Launch) (sc : g_S) (E : Mem → g_H) (R : Nat → Prop) (dd : Nat) (g : (Int → Int → Mem → Option Rz)) : Prop := ∀ (p1 : Int) (p2 : Int) (m : Mem) (hp1 : inR p1) (hp2 : inR p2) (r : Rz) (H : g p1 p2 m = some r), AMet l sc yX7_parseRow cX7_parseRow 5 (some FieldType.int) dd 0 0 [.ref 41, iv p1, iv p2] (E m) (pI E r)
def q_X7_parseRows (l : Launch) (sc : g_S) (E : Mem → g_H) (R : Nat → Prop) (dd : Nat) (g : (Int → Mem → Option Rz)) : Prop := ∀ (p1 : Int) (m : Mem) (hp1 : inR p1) (r : Rz) (H : g p1 m = some r), AMet l sc yX7_parseRows cX7_parseRows 4 (some FieldType.boolean) dd 0 0 [.ref 41, iv p1] (E m) (pI E r)
def q_X7_parseSum (l : Launch) (sc : g_S) (E : Mem → g_H) (R : Nat → Prop) (dd : Nat) (g : (Int → Mem → Option Rz)) : Prop := ∀ (p1 : Int) (m : Mem) (hp1 : inR p1) (r : Rz) (H : g p1 m = some r), AMet l sc yX7_parseSum cX7_parseSum 2 (some FieldType.boolean) dd 0 0 [.ref 41, iv p1] (E m) (pI E r)
def q_X7_parseUnit (l : Launch) (sc : g_S) (E : Mem → g_H) (R : Nat → Prop) (dd : Nat) (g : (Int → Mem → Option Rz)) : Prop := ∀ (p1 : Int) (m : Mem) (hp1 : inR p1) (r : Rz) (H : g p1 m = some r), AMet l sc yX7_parseUnit cX7_parseUnit 3 (some FieldType.boolean) dd 0 0 [.ref 41, iv p1] (E m) (pI E r)
set_option maxRecDepth 100000 in
set_option maxHeartbeats 4000000 in
theorem sb_X7_parseRow (l : Launch) (sc : g_S) (E : Mem → g_H) (R : Nat → Prop) (hE : LE E R) (hR : RCL R) (n : Nat) (dd : Nat) (hdd : 2 ≤ dd) (g_X7_parseRow : (Int → Int → Mem → Option Rz)) (g_X7_parseRows : (Int → Mem → Option Rz)) (g_X7_parseSum : (Int → Mem → Option Rz)) (g_X7_parseUnit : (Int → Mem → Option Rz)) (hg_X7_parseRow : q_X7_parseRow l sc E R dd g_X7_parseRow) (hg_X7_parseRows : q_X7_parseRows l sc E R dd g_X7_parseRows) (hg_X7_parseSum : q_X7_parseSum l sc E R dd g_X7_parseSum) (hg_X7_parseUnit : q_X7_parseUnit l sc E R dd g_X7_parseUnit) (p1 : Int) (p2 : Int) (mi : Mem) (hp1 : inR p1) (hp2 : inR p2) (r : Rz) (H : b_X7_parseRow n g_X7_parseRow g_X7_parseRows g_X7_parseSum g_X7_parseUnit p1 p2 mi = some r) : AMet l sc yX7_parseRow cX7_parseRow 5 (some FieldType.int) (dd + 1) 0 0 [.ref 41, iv p1, iv p2] (E mi) (pI E r) := by
  have r41 : R 41 := hR.1 41 (Nat.le_of_ble_eq_true rfl) (Nat.le_of_ble_eq_true rfl)
  unfold b_X7_parseRow at H
  refine AMet.of (own := RX7) (by decide +kernel) rfl (Nat.le_of_ble_eq_true rfl) [(0, .ref 41), (1, iv p1), (2, iv p2)] rfl (fun D base ad => ?_)
  refine aw_aload_n (pc := 0) dX7_parseRow_0 rfl ?_
  refine cx_callV (pc := 1) (P := pI) (dC := 0) (mcC := 0) (msC := 0) [] hE r41 (fun r1 H1 => s_X7_sign l sc E R hE hR n mi r1 H1) ca_X7_47 rfl ⟨_, rfl, rfl⟩ rfl rfl (by omega) (Nat.le_of_ble_eq_true rfl) (Nat.le_of_ble_eq_true rfl) (Nat.le_of_ble_eq_true rfl) dX7_parseRow_1 H (fun x1 m1 v1 hh1 H hp => ?_)
  refine cx_backI hp (fun hx1 => ?_)
  refine aw_iload_n (pc := 4) dX7_parseRow_4 rfl ?_
  refine cx_icmp_ne (pc := 5) 20 hx1 hp2 dX7_parseRow_5 rfl H (fun H => ?_) (fun H => ?_)
  · -- 5: 8
    refine aw_aload_n (pc := 8) dX7_parseRow_8 rfl ?_
    refine aw_dup (pc := 9) dX7_parseRow_9 rfl ?_
    refine cx_gtF (pc := 10) hE r41 fl_X7_31 rfl rfl (Nat.le_of_ble_eq_true rfl) dX7_parseRow_10 H (fun x10 hx10 H => ?_)
    refine cx_iconst (pc := 13) dX7_parseRow_13 ?_
    refine cx_iadd (pc := 14) dX7_parseRow_14 ?_
    refine cx_ptF (pc := 15) tyX7 hE r41 fl_X7_31 (fun r h => ⟨gty_X7 r h, by cases h; rfl⟩) rfl rfl rfl (Nat.le_of_ble_eq_true rfl) dX7_parseRow_15 H (fun m15 H => ?_)
    refine cx_iconst (pc := 18) dX7_parseRow_18 ?_
    exact cx_iret (pc := 19) (inR_lit _ rfl) rfl (Nat.le_of_ble_eq_true rfl) (Nat.le_of_ble_eq_true rfl) dX7_parseRow_19 H
  · -- 5: 20
    refine cx_iconst (pc := 20) dX7_parseRow_20 ?_
    refine aw_istore_n (pc := 21) [(3, iv 0), (0, .ref 41), (1, iv p1), (2, iv p2)] dX7_parseRow_21 rfl (by decide) ?_
    refine AW.sel [1, 2, 3, 0] rfl (lp_ind (bot := fun _ _ => none) (fun (f9 : Int → Mem → Option Rz) => ∀ (v3_22 : Int) (m22 : Mem), inR v3_22 → f9 v3_22 m22 = some r → AW l D base sc RX7 yX7_parseRow cX7_parseRow 5 (some FieldType.int) (dd + 1) 0 0 ad (E mi) (pI E r) 0 0 (E m22) 22 [(0, .ref 41), (1, iv p1), (2, iv p2), (3, iv v3_22)] []) (fun _ _ _ h9 => nomatch h9) (fun w22 ih22 v3_22 m22 hv3_22 H => ?_) n _ _ (inR_lit _ rfl) H)
    refine aw_iload_n (pc := 22) dX7_parseRow_22 rfl ?_
    refine cx_bipush (pc := 23) dX7_parseRow_23 (by decide) ?_
    refine jn_ind (fun (f9 : Int → Mem → Option Rz) => ∀ (v3_93 : Int) (m93 : Mem), inR v3_93 → f9 v3_93 m93 = some r → AW l D base sc RX7 yX7_parseRow cX7_parseRow 5 (some FieldType.int) (dd + 1) 0 0 ad (E mi) (pI E r) 0 0 (E m93) 93 [(3, iv v3_93)] []) (fun v3_93 m93 hv3_93 H => ?_) (fun j93 hj93 H => ?_) H
    · -- 93
      refine aw_iload_n (pc := 93) dX7_parseRow_93 rfl ?_
      exact cx_iret (pc := 94) hv3_93 rfl (Nat.le_of_ble_eq_true rfl) (Nat.le_of_ble_eq_true rfl) dX7_parseRow_94 H
    refine cx_icmp_ge (pc := 25) 93 hv3_22 (inR_lit _ rfl) dX7_parseRow_25 rfl H (fun H => ?_) (fun H => ?_)
    · -- 25: 28
      refine aw_aload_n (pc := 28) dX7_parseRow_28 rfl ?_
      refine aw_iload_n (pc := 29) dX7_parseRow_29 rfl ?_
      refine cx_callV (pc := 30) (P := pI) (dC := dd) (mcC := 0) (msC := 0) [iv p1] hE r41 (fun r1 H1 => hg_X7_parseSum p1 m22 hp1 r1 H1) ca_X7_40 rfl ⟨_, rfl, rfl⟩ rfl rfl (by omega) (Nat.le_of_ble_eq_true rfl) (Nat.le_of_ble_eq_true rfl) (Nat.le_of_ble_eq_true rfl) dX7_parseRow_30 H (fun x30 m30 v30 hh30 H hp => ?_)
      refine cx_backI hp (fun hx30 => ?_)
      refine cx_if_ne (pc := 33) 38 hx30 dX7_parseRow_33 rfl H (fun H => ?_) (fun H => ?_)
      · -- 33: 36
        refine cx_iconst (pc := 36) dX7_parseRow_36 ?_
        exact cx_iret (pc := 37) (inR_lit _ rfl) rfl (Nat.le_of_ble_eq_true rfl) (Nat.le_of_ble_eq_true rfl) dX7_parseRow_37 H
      · -- 33: 38
        refine cx_iinc (pc := 38) [(3, iv (w32 (v3_22 + 1))), (0, .ref 41), (1, iv p1), (2, iv p2)] dX7_parseRow_38 rfl rfl (by decide) ?_
        refine aw_aload_n (pc := 41) dX7_parseRow_41 rfl ?_
        refine cx_callV (pc := 42) (P := pI) (dC := 0) (mcC := 0) (msC := 0) [] hE r41 (fun r1 H1 => s_X7_sign l sc E R hE hR n m30 r1 H1) ca_X7_47 rfl ⟨_, rfl, rfl⟩ rfl rfl (by omega) (Nat.le_of_ble_eq_true rfl) (Nat.le_of_ble_eq_true rfl) (Nat.le_of_ble_eq_true rfl) dX7_parseRow_42 H (fun x42 m42 v42 hh42 H hp => ?_)
        refine cx_backI hp (fun hx42 => ?_)
        refine aw_istore (pc := 45) [(4, iv x42), (3, iv (w32 (v3_22 + 1))), (0, .ref 41), (1, iv p1), (2, iv p2)] dX7_parseRow_45 rfl (by decide) ?_
        refine aw_iload (pc := 47) dX7_parseRow_47 rfl ?_
        refine cx_bipush (pc := 49) dX7_parseRow_49 (by decide) ?_
        refine jn_ind (fun (f9 : Mem → Option Rz) => ∀ (m71 : Mem), f9 m71 = some r → AW l D base sc RX7 yX7_parseRow cX7_parseRow 5 (some FieldType.int) (dd + 1) 0 0 ad (E mi) (pI E r) 0 0 (E m71) 71 [(0, .ref 41), (1, iv p1), (2, iv p2), (3, iv (w32 (v3_22 + 1))), (4, iv x42)] []) (fun m71 H => ?_) (fun j71 hj71 H => ?_) H
        · -- 71
          refine aw_aload_n (pc := 71) dX7_parseRow_71 rfl ?_
          refine aw_dup (pc := 72) dX7_parseRow_72 rfl ?_
          refine cx_gtF (pc := 73) hE r41 fl_X7_31 rfl rfl (Nat.le_of_ble_eq_true rfl) dX7_parseRow_73 H (fun x73 hx73 H => ?_)
          refine cx_iconst (pc := 76) dX7_parseRow_76 ?_
          refine cx_iadd (pc := 77) dX7_parseRow_77 ?_
          refine cx_ptF (pc := 78) tyX7 hE r41 fl_X7_31 (fun r h => ⟨gty_X7 r h, by cases h; rfl⟩) rfl rfl rfl (Nat.le_of_ble_eq_true rfl) dX7_parseRow_78 H (fun m78 H => ?_)
          refine aw_iload (pc := 81) dX7_parseRow_81 rfl ?_
          refine aw_iload_n (pc := 83) dX7_parseRow_83 rfl ?_
          refine cx_icmp_ne (pc := 84) 90 hx42 hp2 dX7_parseRow_84 rfl H (fun H => ?_) (fun H => ?_)
          · -- 84: 87
            refine aw_goto (pc := 87) 93 dX7_parseRow_87 rfl ?_
            exact AW.sel [3] rfl (hj93 _ _ (inR_w32 _) H)
          · -- 84: 90
            refine aw_goto (pc := 90) 22 dX7_parseRow_90 rfl ?_
            exact AW.sel [0, 1, 2, 3] rfl (ih22 _ _ (inR_w32 _) H)
        refine cx_icmp_eq (pc := 51) 71 hx42 (inR_lit _ rfl) dX7_parseRow_51 rfl H (fun H => ?_) (fun H => ?_)
        · -- 51: 71
          exact AW.sel [2, 3, 4, 1, 0] rfl (hj71 _ H)
        · -- 51: 54
          refine aw_iload (pc := 54) dX7_parseRow_54 rfl ?_
          refine aw_iload_n (pc := 56) dX7_parseRow_56 rfl ?_
          refine cx_icmp_eq (pc := 57) 71 hx42 hp2 dX7_parseRow_57 rfl H (fun H => ?_) (fun H => ?_)
          · -- 57: 71
            exact AW.sel [2, 3, 4, 1, 0] rfl (hj71 _ H)
          · -- 57: 60
            refine aw_aload_n (pc := 60) dX7_parseRow_60 rfl ?_
            refine aw_aload_n (pc := 61) dX7_parseRow_61 rfl ?_
            refine cx_gtF (pc := 62) hE r41 fl_X7_31 rfl rfl (Nat.le_of_ble_eq_true rfl) dX7_parseRow_62 H (fun x62 hx62 H => ?_)
            refine cx_callV (pc := 65) (P := pI) (dC := 0) (mcC := 0) (msC := 0) [iv x62] hE r41 (fun r1 H1 => s_X7_failAt l sc E R hE hR n x62 hx62 m42 r1 H1) ca_X7_55 rfl ⟨_, rfl, rfl⟩ rfl rfl (by omega) (Nat.le_of_ble_eq_true rfl) (Nat.le_of_ble_eq_true rfl) (Nat.le_of_ble_eq_true rfl) dX7_parseRow_65 H (fun x65 m65 v65 hh65 H hp => ?_)
            refine cx_backI hp (fun hx65 => ?_)
            refine aw_pop (pc := 68) dX7_parseRow_68 rfl ?_
            refine cx_iconst (pc := 69) dX7_parseRow_69 ?_
            exact cx_iret (pc := 70) (inR_lit _ rfl) rfl (Nat.le_of_ble_eq_true rfl) (Nat.le_of_ble_eq_true rfl) dX7_parseRow_70 H
    · -- 25: 93
      exact AW.sel [3] rfl (hj93 _ _ hv3_22 H)
set_option maxRecDepth 100000 in
set_option maxHeartbeats 4000000 in
theorem sb_X7_parseRows (l : Launch) (sc : g_S) (E : Mem → g_H) (R : Nat → Prop) (hE : LE E R) (hR : RCL R) (n : Nat) (dd : Nat) (hdd : 2 ≤ dd) (g_X7_parseRow : (Int → Int → Mem → Option Rz)) (g_X7_parseRows : (Int → Mem → Option Rz)) (g_X7_parseSum : (Int → Mem → Option Rz)) (g_X7_parseUnit : (Int → Mem → Option Rz)) (hg_X7_parseRow : q_X7_parseRow l sc E R dd g_X7_parseRow) (hg_X7_parseRows : q_X7_parseRows l sc E R dd g_X7_parseRows) (hg_X7_parseSum : q_X7_parseSum l sc E R dd g_X7_parseSum) (hg_X7_parseUnit : q_X7_parseUnit l sc E R dd g_X7_parseUnit) (p1 : Int) (mi : Mem) (hp1 : inR p1) (r : Rz) (H : b_X7_parseRows n g_X7_parseRow g_X7_parseRows g_X7_parseSum g_X7_parseUnit p1 mi = some r) : AMet l sc yX7_parseRows cX7_parseRows 4 (some FieldType.boolean) (dd + 1) 0 0 [.ref 41, iv p1] (E mi) (pI E r) := by
  have r41 : R 41 := hR.1 41 (Nat.le_of_ble_eq_true rfl) (Nat.le_of_ble_eq_true rfl)
  unfold b_X7_parseRows at H
  refine AMet.of (own := RX7) (by decide +kernel) rfl (Nat.le_of_ble_eq_true rfl) [(0, .ref 41), (1, iv p1)] rfl (fun D base ad => ?_)
  refine aw_aload_n (pc := 0) dX7_parseRows_0 rfl ?_
  refine aw_iload_n (pc := 1) dX7_parseRows_1 rfl ?_
  refine cx_bipush (pc := 2) dX7_parseRows_2 (by decide) ?_
  refine cx_callV (pc := 4) (P := pI) (dC := dd) (mcC := 0) (msC := 0) [iv p1, iv 124] hE r41 (fun r1 H1 => hg_X7_parseRow p1 124 mi hp1 (inR_lit _ rfl) r1 H1) ca_X7_67 rfl ⟨_, rfl, rfl⟩ rfl rfl (by omega) (Nat.le_of_ble_eq_true rfl) (Nat.le_of_ble_eq_true rfl) (Nat.le_of_ble_eq_true rfl) dX7_parseRows_4 H (fun x4 m4 v4 hh4 H hp => ?_)
  refine cx_backI hp (fun hx4 => ?_)
  refine aw_istore_n (pc := 7) [(2, iv x4), (0, .ref 41), (1, iv p1)] dX7_parseRows_7 rfl (by decide) ?_
  refine aw_iload_n (pc := 8) dX7_parseRows_8 rfl ?_
  refine cx_if_ge (pc := 9) 14 hx4 dX7_parseRows_9 rfl H (fun H => ?_) (fun H => ?_)
  · -- 9: 12
    refine cx_iconst (pc := 12) dX7_parseRows_12 ?_
    exact cx_zret (pc := 13) rfl (Nat.le_of_ble_eq_true rfl) (Nat.le_of_ble_eq_true rfl) dX7_parseRows_13 H
  · -- 9: 14
    refine aw_aload_n (pc := 14) dX7_parseRows_14 rfl ?_
    refine aw_iload_n (pc := 15) dX7_parseRows_15 rfl ?_
    refine cx_bipush (pc := 16) dX7_parseRows_16 (by decide) ?_
    refine cx_callV (pc := 18) (P := pI) (dC := dd) (mcC := 0) (msC := 0) [iv p1, iv 125] hE r41 (fun r1 H1 => hg_X7_parseRow p1 125 m4 hp1 (inR_lit _ rfl) r1 H1) ca_X7_67 rfl ⟨_, rfl, rfl⟩ rfl rfl (by omega) (Nat.le_of_ble_eq_true rfl) (Nat.le_of_ble_eq_true rfl) (Nat.le_of_ble_eq_true rfl) dX7_parseRows_18 H (fun x18 m18 v18 hh18 H hp => ?_)
    refine cx_backI hp (fun hx18 => ?_)
    refine aw_istore_n (pc := 21) [(3, iv x18), (2, iv x4), (0, .ref 41), (1, iv p1)] dX7_parseRows_21 rfl (by decide) ?_
    refine aw_iload_n (pc := 22) dX7_parseRows_22 rfl ?_
    refine jn_ind (fun (f9 : Int → Mem → Option Rz) => ∀ (s0_41 : Int) (m41 : Mem), inR s0_41 → f9 s0_41 m41 = some r → AW l D base sc RX7 yX7_parseRows cX7_parseRows 4 (some FieldType.boolean) (dd + 1) 0 0 ad (E mi) (pI E r) 0 0 (E m41) 41 [] [iv s0_41]) (fun s0_41 m41 hs0_41 H => ?_) (fun j41 hj41 H => ?_) H
    · -- 41
      exact cx_zret (pc := 41) rfl (Nat.le_of_ble_eq_true rfl) (Nat.le_of_ble_eq_true rfl) dX7_parseRows_41 H
    refine jn_ind (fun (f9 : Mem → Option Rz) => ∀ (m40 : Mem), f9 m40 = some r → AW l D base sc RX7 yX7_parseRows cX7_parseRows 4 (some FieldType.boolean) (dd + 1) 0 0 ad (E mi) (pI E r) 0 0 (E m40) 40 [] []) (fun m40 H => ?_) (fun j40 hj40 H => ?_) H
    · -- 40
      refine cx_iconst (pc := 40) dX7_parseRows_40 ?_
      exact AW.sel [] rfl (hj41 _ _ (inR_lit _ rfl) H)
    refine cx_if_lt (pc := 23) 40 hx18 dX7_parseRows_23 rfl H (fun H => ?_) (fun H => ?_)
    · -- 23: 40
      exact AW.sel [] rfl (hj40 _ H)
    · -- 23: 26
      refine aw_aload_n (pc := 26) dX7_parseRows_26 rfl ?_
      refine cx_iconst (pc := 27) dX7_parseRows_27 ?_
      refine aw_iload_n (pc := 28) dX7_parseRows_28 rfl ?_
      refine aw_iload_n (pc := 29) dX7_parseRows_29 rfl ?_
      refine cx_callV (pc := 30) (P := pI) (dC := 0) (mcC := 0) (msC := 0) [iv 5, iv x4, iv x18] hE r41 (fun r1 H1 => s_X7_step l sc E R hE hR n 5 x4 x18 (inR_lit _ rfl) hx4 hx18 m18 r1 H1) ca_X7_51 rfl ⟨_, rfl, rfl⟩ rfl rfl (by omega) (Nat.le_of_ble_eq_true rfl) (Nat.le_of_ble_eq_true rfl) (Nat.le_of_ble_eq_true rfl) dX7_parseRows_30 H (fun x30 m30 v30 hh30 H hp => ?_)
      refine cx_backI hp (fun hx30 => ?_)
      refine cx_if_eq (pc := 33) 40 hx30 dX7_parseRows_33 rfl H (fun H => ?_) (fun H => ?_)
      · -- 33: 40
        exact AW.sel [] rfl (hj40 _ H)
      · -- 33: 36
        refine cx_iconst (pc := 36) dX7_parseRows_36 ?_
        refine aw_goto (pc := 37) 41 dX7_parseRows_37 rfl ?_
        exact AW.sel [] rfl (hj41 _ _ (inR_lit _ rfl) H)
set_option maxRecDepth 100000 in
set_option maxHeartbeats 4000000 in
theorem sb_X7_parseSum (l : Launch) (sc : g_S) (E : Mem → g_H) (R : Nat → Prop) (hE : LE E R) (hR : RCL R) (n : Nat) (dd : Nat) (hdd : 2 ≤ dd) (g_X7_parseRow : (Int → Int → Mem → Option Rz)) (g_X7_parseRows : (Int → Mem → Option Rz)) (g_X7_parseSum : (Int → Mem → Option Rz)) (g_X7_parseUnit : (Int → Mem → Option Rz)) (hg_X7_parseRow : q_X7_parseRow l sc E R dd g_X7_parseRow) (hg_X7_parseRows : q_X7_parseRows l sc E R dd g_X7_parseRows) (hg_X7_parseSum : q_X7_parseSum l sc E R dd g_X7_parseSum) (hg_X7_parseUnit : q_X7_parseUnit l sc E R dd g_X7_parseUnit) (p1 : Int) (mi : Mem) (hp1 : inR p1) (r : Rz) (H : b_X7_parseSum n g_X7_parseRow g_X7_parseRows g_X7_parseSum g_X7_parseUnit p1 mi = some r) : AMet l sc yX7_parseSum cX7_parseSum 2 (some FieldType.boolean) (dd + 1) 0 0 [.ref 41, iv p1] (E mi) (pI E r) := by
  have r41 : R 41 := hR.1 41 (Nat.le_of_ble_eq_true rfl) (Nat.le_of_ble_eq_true rfl)
  unfold b_X7_parseSum at H
  refine AMet.of (own := RX7) (by decide +kernel) rfl (Nat.le_of_ble_eq_true rfl) [(0, .ref 41), (1, iv p1)] rfl (fun D base ad => ?_)
  refine aw_aload_n (pc := 0) dX7_parseSum_0 rfl ?_
  refine aw_iload_n (pc := 1) dX7_parseSum_1 rfl ?_
  refine cx_callV (pc := 2) (P := pI) (dC := dd) (mcC := 0) (msC := 0) [iv p1] hE r41 (fun r1 H1 => hg_X7_parseUnit p1 mi hp1 r1 H1) ca_X7_44 rfl ⟨_, rfl, rfl⟩ rfl rfl (by omega) (Nat.le_of_ble_eq_true rfl) (Nat.le_of_ble_eq_true rfl) (Nat.le_of_ble_eq_true rfl) dX7_parseSum_2 H (fun x2 m2 v2 hh2 H hp => ?_)
  refine cx_backI hp (fun hx2 => ?_)
  refine cx_if_ne (pc := 5) 10 hx2 dX7_parseSum_5 rfl H (fun H => ?_) (fun H => ?_)
  · -- 5: 8
    refine cx_iconst (pc := 8) dX7_parseSum_8 ?_
    exact cx_zret (pc := 9) rfl (Nat.le_of_ble_eq_true rfl) (Nat.le_of_ble_eq_true rfl) dX7_parseSum_9 H
  · -- 5: 10
    refine AW.sel [0, 1] rfl (lp_ind (bot := fun  _ => none) (fun (f9 : Mem → Option Rz) => ∀ (m10 : Mem), f9 m10 = some r → AW l D base sc RX7 yX7_parseSum cX7_parseSum 2 (some FieldType.boolean) (dd + 1) 0 0 ad (E mi) (pI E r) 0 0 (E m10) 10 [(0, .ref 41), (1, iv p1)] []) (fun  _ h9 => nomatch h9) (fun w10 ih10 m10 H => ?_) n  _  H)
    refine aw_aload_n (pc := 10) dX7_parseSum_10 rfl ?_
    refine cx_gtF (pc := 11) hE r41 fl_X7_31 rfl rfl (Nat.le_of_ble_eq_true rfl) dX7_parseSum_11 H (fun x11 hx11 H => ?_)
    refine aw_aload_n (pc := 14) dX7_parseSum_14 rfl ?_
    refine cx_gtF (pc := 15) hE r41 fl_X7_27 rfl rfl (Nat.le_of_ble_eq_true rfl) dX7_parseSum_15 H (fun x15 hx15 H => ?_)
    refine jn_ind (fun (f9 : Mem → Option Rz) => ∀ (m61 : Mem), f9 m61 = some r → AW l D base sc RX7 yX7_parseSum cX7_parseSum 2 (some FieldType.boolean) (dd + 1) 0 0 ad (E mi) (pI E r) 0 0 (E m61) 61 [] []) (fun m61 H => ?_) (fun j61 hj61 H => ?_) H
    · -- 61
      refine cx_iconst (pc := 61) dX7_parseSum_61 ?_
      exact cx_zret (pc := 62) rfl (Nat.le_of_ble_eq_true rfl) (Nat.le_of_ble_eq_true rfl) dX7_parseSum_62 H
    refine cx_icmp_ge (pc := 18) 61 hx11 hx15 dX7_parseSum_18 rfl H (fun H => ?_) (fun H => ?_)
    · -- 18: 21
      refine aw_aload_n (pc := 21) dX7_parseSum_21 rfl ?_
      refine cx_callV (pc := 22) (P := pI) (dC := 0) (mcC := 0) (msC := 0) [] hE r41 (fun r1 H1 => s_X7_sign l sc E R hE hR n m10 r1 H1) ca_X7_47 rfl ⟨_, rfl, rfl⟩ rfl rfl (by omega) (Nat.le_of_ble_eq_true rfl) (Nat.le_of_ble_eq_true rfl) (Nat.le_of_ble_eq_true rfl) dX7_parseSum_22 H (fun x22 m22 v22 hh22 H hp => ?_)
      refine cx_backI hp (fun hx22 => ?_)
      refine cx_bipush (pc := 25) dX7_parseSum_25 (by decide) ?_
      refine cx_icmp_ne (pc := 27) 61 hx22 (inR_lit _ rfl) dX7_parseSum_27 rfl H (fun H => ?_) (fun H => ?_)
      · -- 27: 30
        refine aw_aload_n (pc := 30) dX7_parseSum_30 rfl ?_
        refine aw_dup (pc := 31) dX7_parseSum_31 rfl ?_
        refine cx_gtF (pc := 32) hE r41 fl_X7_31 rfl rfl (Nat.le_of_ble_eq_true rfl) dX7_parseSum_32 H (fun x32 hx32 H => ?_)
        refine cx_iconst (pc := 35) dX7_parseSum_35 ?_
        refine cx_iadd (pc := 36) dX7_parseSum_36 ?_
        refine cx_ptF (pc := 37) tyX7 hE r41 fl_X7_31 (fun r h => ⟨gty_X7 r h, by cases h; rfl⟩) rfl rfl rfl (Nat.le_of_ble_eq_true rfl) dX7_parseSum_37 H (fun m37 H => ?_)
        refine aw_aload_n (pc := 40) dX7_parseSum_40 rfl ?_
        refine aw_iload_n (pc := 41) dX7_parseSum_41 rfl ?_
        refine cx_callV (pc := 42) (P := pI) (dC := dd) (mcC := 0) (msC := 0) [iv p1] hE r41 (fun r1 H1 => hg_X7_parseUnit p1 m37 hp1 r1 H1) ca_X7_44 rfl ⟨_, rfl, rfl⟩ rfl rfl (by omega) (Nat.le_of_ble_eq_true rfl) (Nat.le_of_ble_eq_true rfl) (Nat.le_of_ble_eq_true rfl) dX7_parseSum_42 H (fun x42 m42 v42 hh42 H hp => ?_)
        refine cx_backI hp (fun hx42 => ?_)
        refine cx_if_ne (pc := 45) 50 hx42 dX7_parseSum_45 rfl H (fun H => ?_) (fun H => ?_)
        · -- 45: 48
          refine cx_iconst (pc := 48) dX7_parseSum_48 ?_
          exact cx_zret (pc := 49) rfl (Nat.le_of_ble_eq_true rfl) (Nat.le_of_ble_eq_true rfl) dX7_parseSum_49 H
        · -- 45: 50
          refine aw_aload_n (pc := 50) dX7_parseSum_50 rfl ?_
          refine cx_iconst (pc := 51) dX7_parseSum_51 ?_
          refine cx_iconst (pc := 52) dX7_parseSum_52 ?_
          refine cx_iconst (pc := 53) dX7_parseSum_53 ?_
          refine cx_callV (pc := 54) (P := pI) (dC := 0) (mcC := 0) (msC := 0) [iv 4, iv 0, iv 0] hE r41 (fun r1 H1 => s_X7_step l sc E R hE hR n 4 0 0 (inR_lit _ rfl) (inR_lit _ rfl) (inR_lit _ rfl) m42 r1 H1) ca_X7_51 rfl ⟨_, rfl, rfl⟩ rfl rfl (by omega) (Nat.le_of_ble_eq_true rfl) (Nat.le_of_ble_eq_true rfl) (Nat.le_of_ble_eq_true rfl) dX7_parseSum_54 H (fun x54 m54 v54 hh54 H hp => ?_)
          refine cx_backI hp (fun hx54 => ?_)
          refine aw_pop (pc := 57) dX7_parseSum_57 rfl ?_
          refine aw_goto (pc := 58) 10 dX7_parseSum_58 rfl ?_
          exact AW.sel [0, 1] rfl (ih10 _ H)
      · -- 27: 61
        exact AW.sel [] rfl (hj61 _ H)
    · -- 18: 61
      exact AW.sel [] rfl (hj61 _ H)
set_option maxRecDepth 100000 in
set_option maxHeartbeats 4000000 in
theorem sb_X7_parseUnit (l : Launch) (sc : g_S) (E : Mem → g_H) (R : Nat → Prop) (hE : LE E R) (hR : RCL R) (n : Nat) (dd : Nat) (hdd : 2 ≤ dd) (g_X7_parseRow : (Int → Int → Mem → Option Rz)) (g_X7_parseRows : (Int → Mem → Option Rz)) (g_X7_parseSum : (Int → Mem → Option Rz)) (g_X7_parseUnit : (Int → Mem → Option Rz)) (hg_X7_parseRow : q_X7_parseRow l sc E R dd g_X7_parseRow) (hg_X7_parseRows : q_X7_parseRows l sc E R dd g_X7_parseRows) (hg_X7_parseSum : q_X7_parseSum l sc E R dd g_X7_parseSum) (hg_X7_parseUnit : q_X7_parseUnit l sc E R dd g_X7_parseUnit) (p1 : Int) (mi : Mem) (hp1 : inR p1) (r : Rz) (H : b_X7_parseUnit n g_X7_parseRow g_X7_parseRows g_X7_parseSum g_X7_parseUnit p1 mi = some r) : AMet l sc yX7_parseUnit cX7_parseUnit 3 (some FieldType.boolean) (dd + 1) 0 0 [.ref 41, iv p1] (E mi) (pI E r) := by
  have r41 : R 41 := hR.1 41 (Nat.le_of_ble_eq_true rfl) (Nat.le_of_ble_eq_true rfl)
  unfold b_X7_parseUnit at H
  refine AMet.of (own := RX7) (by decide +kernel) rfl (Nat.le_of_ble_eq_true rfl) [(0, .ref 41), (1, iv p1)] rfl (fun D base ad => ?_)
  refine aw_aload_n (pc := 0) dX7_parseUnit_0 rfl ?_
  refine cx_callV (pc := 1) (P := pI) (dC := 0) (mcC := 0) (msC := 0) [] hE r41 (fun r1 H1 => s_X7_sign l sc E R hE hR n mi r1 H1) ca_X7_47 rfl ⟨_, rfl, rfl⟩ rfl rfl (by omega) (Nat.le_of_ble_eq_true rfl) (Nat.le_of_ble_eq_true rfl) (Nat.le_of_ble_eq_true rfl) dX7_parseUnit_1 H (fun x1 m1 v1 hh1 H hp => ?_)
  refine cx_backI hp (fun hx1 => ?_)
  refine aw_istore_n (pc := 4) [(2, iv x1), (0, .ref 41), (1, iv p1)] dX7_parseUnit_4 rfl (by decide) ?_
  refine aw_iload_n (pc := 5) dX7_parseUnit_5 rfl ?_
  refine cx_bipush (pc := 6) dX7_parseUnit_6 (by decide) ?_
  refine jn_ind (fun (f9 : Mem → Option Rz) => ∀ (m17 : Mem), f9 m17 = some r → AW l D base sc RX7 yX7_parseUnit cX7_parseUnit 3 (some FieldType.boolean) (dd + 1) 0 0 ad (E mi) (pI E r) 0 0 (E m17) 17 [(0, .ref 41), (1, iv p1), (2, iv x1)] []) (fun m17 H => ?_) (fun j17 hj17 H => ?_) H
  · -- 17
    refine aw_iload_n (pc := 17) dX7_parseUnit_17 rfl ?_
    refine cx_iconst (pc := 18) dX7_parseUnit_18 ?_
    refine cx_icmp_lt (pc := 19) 31 hp1 (inR_lit _ rfl) dX7_parseUnit_19 rfl H (fun H => ?_) (fun H => ?_)
    · -- 19: 31
      refine aw_aload_n (pc := 31) dX7_parseUnit_31 rfl ?_
      refine aw_dup (pc := 32) dX7_parseUnit_32 rfl ?_
      refine cx_gtF (pc := 33) hE r41 fl_X7_31 rfl rfl (Nat.le_of_ble_eq_true rfl) dX7_parseUnit_33 H (fun x33 hx33 H => ?_)
      refine cx_iconst (pc := 36) dX7_parseUnit_36 ?_
      refine cx_iadd (pc := 37) dX7_parseUnit_37 ?_
      refine cx_ptF (pc := 38) tyX7 hE r41 fl_X7_31 (fun r h => ⟨gty_X7 r h, by cases h; rfl⟩) rfl rfl rfl (Nat.le_of_ble_eq_true rfl) dX7_parseUnit_38 H (fun m38 H => ?_)
      refine aw_iload_n (pc := 41) dX7_parseUnit_41 rfl ?_
      refine cx_bipush (pc := 42) dX7_parseUnit_42 (by decide) ?_
      refine cx_icmp_ne (pc := 44) 55 hx1 (inR_lit _ rfl) dX7_parseUnit_44 rfl H (fun H => ?_) (fun H => ?_)
      · -- 44: 47
        refine aw_aload_n (pc := 47) dX7_parseUnit_47 rfl ?_
        refine aw_iload_n (pc := 48) dX7_parseUnit_48 rfl ?_
        refine cx_iconst (pc := 49) dX7_parseUnit_49 ?_
        refine cx_iadd (pc := 50) dX7_parseUnit_50 ?_
        refine cx_callV (pc := 51) (P := pI) (dC := dd) (mcC := 0) (msC := 0) [iv (w32 (p1 + 1))] hE r41 (fun r1 H1 => hg_X7_parseRows (w32 (p1 + 1)) m38 (inR_w32 _) r1 H1) ca_X7_58 rfl ⟨_, rfl, rfl⟩ rfl rfl (by omega) (Nat.le_of_ble_eq_true rfl) (Nat.le_of_ble_eq_true rfl) (Nat.le_of_ble_eq_true rfl) dX7_parseUnit_51 H (fun x51 m51 v51 hh51 H hp => ?_)
        refine cx_backI hp (fun hx51 => ?_)
        exact cx_zret (pc := 54) rfl (Nat.le_of_ble_eq_true rfl) (Nat.le_of_ble_eq_true rfl) dX7_parseUnit_54 H
      · -- 44: 55
        refine aw_aload_n (pc := 55) dX7_parseUnit_55 rfl ?_
        refine aw_iload_n (pc := 56) dX7_parseUnit_56 rfl ?_
        refine cx_iconst (pc := 57) dX7_parseUnit_57 ?_
        refine cx_iadd (pc := 58) dX7_parseUnit_58 ?_
        refine cx_callV (pc := 59) (P := pI) (dC := dd) (mcC := 0) (msC := 0) [iv (w32 (p1 + 1))] hE r41 (fun r1 H1 => hg_X7_parseUnit (w32 (p1 + 1)) m38 (inR_w32 _) r1 H1) ca_X7_44 rfl ⟨_, rfl, rfl⟩ rfl rfl (by omega) (Nat.le_of_ble_eq_true rfl) (Nat.le_of_ble_eq_true rfl) (Nat.le_of_ble_eq_true rfl) dX7_parseUnit_59 H (fun x59 m59 v59 hh59 H hp => ?_)
        refine cx_backI hp (fun hx59 => ?_)
        refine jn_ind (fun (f9 : Int → Mem → Option Rz) => ∀ (s0_80 : Int) (m80 : Mem), inR s0_80 → f9 s0_80 m80 = some r → AW l D base sc RX7 yX7_parseUnit cX7_parseUnit 3 (some FieldType.boolean) (dd + 1) 0 0 ad (E mi) (pI E r) 0 0 (E m80) 80 [] [iv s0_80]) (fun s0_80 m80 hs0_80 H => ?_) (fun j80 hj80 H => ?_) H
        · -- 80
          exact cx_zret (pc := 80) rfl (Nat.le_of_ble_eq_true rfl) (Nat.le_of_ble_eq_true rfl) dX7_parseUnit_80 H
        refine jn_ind (fun (f9 : Mem → Option Rz) => ∀ (m79 : Mem), f9 m79 = some r → AW l D base sc RX7 yX7_parseUnit cX7_parseUnit 3 (some FieldType.boolean) (dd + 1) 0 0 ad (E mi) (pI E r) 0 0 (E m79) 79 [] []) (fun m79 H => ?_) (fun j79 hj79 H => ?_) H
        · -- 79
          refine cx_iconst (pc := 79) dX7_parseUnit_79 ?_
          exact AW.sel [] rfl (hj80 _ _ (inR_lit _ rfl) H)
        refine cx_if_eq (pc := 62) 79 hx59 dX7_parseUnit_62 rfl H (fun H => ?_) (fun H => ?_)
        · -- 62: 79
          exact AW.sel [] rfl (hj79 _ H)
        · -- 62: 65
          refine aw_aload_n (pc := 65) dX7_parseUnit_65 rfl ?_
          refine cx_iconst (pc := 66) dX7_parseUnit_66 ?_
          refine cx_iconst (pc := 67) dX7_parseUnit_67 ?_
          refine cx_iconst (pc := 68) dX7_parseUnit_68 ?_
          refine cx_callV (pc := 69) (P := pI) (dC := 0) (mcC := 0) (msC := 0) [iv 3, iv 0, iv 0] hE r41 (fun r1 H1 => s_X7_step l sc E R hE hR n 3 0 0 (inR_lit _ rfl) (inR_lit _ rfl) (inR_lit _ rfl) m59 r1 H1) ca_X7_51 rfl ⟨_, rfl, rfl⟩ rfl rfl (by omega) (Nat.le_of_ble_eq_true rfl) (Nat.le_of_ble_eq_true rfl) (Nat.le_of_ble_eq_true rfl) dX7_parseUnit_69 H (fun x69 m69 v69 hh69 H hp => ?_)
          refine cx_backI hp (fun hx69 => ?_)
          refine cx_if_eq (pc := 72) 79 hx69 dX7_parseUnit_72 rfl H (fun H => ?_) (fun H => ?_)
          · -- 72: 79
            exact AW.sel [] rfl (hj79 _ H)
          · -- 72: 75
            refine cx_iconst (pc := 75) dX7_parseUnit_75 ?_
            refine aw_goto (pc := 76) 80 dX7_parseUnit_76 rfl ?_
            exact AW.sel [] rfl (hj80 _ _ (inR_lit _ rfl) H)
    · -- 19: 22
      refine aw_aload_n (pc := 22) dX7_parseUnit_22 rfl ?_
      refine aw_aload_n (pc := 23) dX7_parseUnit_23 rfl ?_
      refine cx_gtF (pc := 24) hE r41 fl_X7_31 rfl rfl (Nat.le_of_ble_eq_true rfl) dX7_parseUnit_24 H (fun x24 hx24 H => ?_)
      refine cx_callV (pc := 27) (P := pI) (dC := 0) (mcC := 0) (msC := 0) [iv x24] hE r41 (fun r1 H1 => s_X7_failAt l sc E R hE hR n x24 hx24 m17 r1 H1) ca_X7_55 rfl ⟨_, rfl, rfl⟩ rfl rfl (by omega) (Nat.le_of_ble_eq_true rfl) (Nat.le_of_ble_eq_true rfl) (Nat.le_of_ble_eq_true rfl) dX7_parseUnit_27 H (fun x27 m27 v27 hh27 H hp => ?_)
      refine cx_backI hp (fun hx27 => ?_)
      exact cx_zret (pc := 30) rfl (Nat.le_of_ble_eq_true rfl) (Nat.le_of_ble_eq_true rfl) dX7_parseUnit_30 H
  refine cx_icmp_eq (pc := 8) 17 hx1 (inR_lit _ rfl) dX7_parseUnit_8 rfl H (fun H => ?_) (fun H => ?_)
  · -- 8: 17
    exact AW.sel [1, 2, 0] rfl (hj17 _ H)
  · -- 8: 11
    refine aw_iload_n (pc := 11) dX7_parseUnit_11 rfl ?_
    refine cx_bipush (pc := 12) dX7_parseUnit_12 (by decide) ?_
    refine cx_icmp_ne (pc := 14) 81 hx1 (inR_lit _ rfl) dX7_parseUnit_14 rfl H (fun H => ?_) (fun H => ?_)
    · -- 14: 17
      exact AW.sel [1, 2, 0] rfl (hj17 _ H)
    · -- 14: 81
      refine aw_iload_n (pc := 81) dX7_parseUnit_81 rfl ?_
      refine cx_callS (pc := 82) (P := pI) (dC := 0) (mcC := 0) (msC := 0) [iv x1] (fun r1 H1 => s_X7_isDigit l sc E R hE hR n x1 hx1 m1 r1 H1) ca_X7_61 rfl rfl (by omega) (Nat.le_of_ble_eq_true rfl) (Nat.le_of_ble_eq_true rfl) (Nat.le_of_ble_eq_true rfl) dX7_parseUnit_82 H (fun x82 m82 v82 hh82 H hp => ?_)
      refine cx_backI hp (fun hx82 => ?_)
      refine cx_if_eq (pc := 85) 94 hx82 dX7_parseUnit_85 rfl H (fun H => ?_) (fun H => ?_)
      · -- 85: 94
        refine aw_iload_n (pc := 94) dX7_parseUnit_94 rfl ?_
        refine cx_bipush (pc := 95) dX7_parseUnit_95 (by decide) ?_
        refine cx_icmp_ne (pc := 97) 118 hx1 (inR_lit _ rfl) dX7_parseUnit_97 rfl H (fun H => ?_) (fun H => ?_)
        · -- 97: 100
          refine aw_aload_n (pc := 100) dX7_parseUnit_100 rfl ?_
          refine aw_dup (pc := 101) dX7_parseUnit_101 rfl ?_
          refine cx_gtF (pc := 102) hE r41 fl_X7_31 rfl rfl (Nat.le_of_ble_eq_true rfl) dX7_parseUnit_102 H (fun x102 hx102 H => ?_)
          refine cx_iconst (pc := 105) dX7_parseUnit_105 ?_
          refine cx_iadd (pc := 106) dX7_parseUnit_106 ?_
          refine cx_ptF (pc := 107) tyX7 hE r41 fl_X7_31 (fun r h => ⟨gty_X7 r h, by cases h; rfl⟩) rfl rfl rfl (Nat.le_of_ble_eq_true rfl) dX7_parseUnit_107 H (fun m107 H => ?_)
          refine aw_aload_n (pc := 110) dX7_parseUnit_110 rfl ?_
          refine cx_iconst (pc := 111) dX7_parseUnit_111 ?_
          refine cx_iconst (pc := 112) dX7_parseUnit_112 ?_
          refine cx_iconst (pc := 113) dX7_parseUnit_113 ?_
          refine cx_callV (pc := 114) (P := pI) (dC := 0) (mcC := 0) (msC := 0) [iv 2, iv 0, iv 0] hE r41 (fun r1 H1 => s_X7_step l sc E R hE hR n 2 0 0 (inR_lit _ rfl) (inR_lit _ rfl) (inR_lit _ rfl) m107 r1 H1) ca_X7_51 rfl ⟨_, rfl, rfl⟩ rfl rfl (by omega) (Nat.le_of_ble_eq_true rfl) (Nat.le_of_ble_eq_true rfl) (Nat.le_of_ble_eq_true rfl) dX7_parseUnit_114 H (fun x114 m114 v114 hh114 H hp => ?_)
          refine cx_backI hp (fun hx114 => ?_)
          exact cx_zret (pc := 117) rfl (Nat.le_of_ble_eq_true rfl) (Nat.le_of_ble_eq_true rfl) dX7_parseUnit_117 H
        · -- 97: 118
          refine aw_iload_n (pc := 118) dX7_parseUnit_118 rfl ?_
          refine cx_bipush (pc := 119) dX7_parseUnit_119 (by decide) ?_
          refine cx_icmp_ne (pc := 121) 160 hx1 (inR_lit _ rfl) dX7_parseUnit_121 rfl H (fun H => ?_) (fun H => ?_)
          · -- 121: 124
            refine aw_aload_n (pc := 124) dX7_parseUnit_124 rfl ?_
            refine aw_dup (pc := 125) dX7_parseUnit_125 rfl ?_
            refine cx_gtF (pc := 126) hE r41 fl_X7_31 rfl rfl (Nat.le_of_ble_eq_true rfl) dX7_parseUnit_126 H (fun x126 hx126 H => ?_)
            refine cx_iconst (pc := 129) dX7_parseUnit_129 ?_
            refine cx_iadd (pc := 130) dX7_parseUnit_130 ?_
            refine cx_ptF (pc := 131) tyX7 hE r41 fl_X7_31 (fun r h => ⟨gty_X7 r h, by cases h; rfl⟩) rfl rfl rfl (Nat.le_of_ble_eq_true rfl) dX7_parseUnit_131 H (fun m131 H => ?_)
            refine aw_aload_n (pc := 134) dX7_parseUnit_134 rfl ?_
            refine cx_callV (pc := 135) (P := pI) (dC := 0) (mcC := 0) (msC := 0) [] hE r41 (fun r1 H1 => s_X7_sign l sc E R hE hR n m131 r1 H1) ca_X7_47 rfl ⟨_, rfl, rfl⟩ rfl rfl (by omega) (Nat.le_of_ble_eq_true rfl) (Nat.le_of_ble_eq_true rfl) (Nat.le_of_ble_eq_true rfl) dX7_parseUnit_135 H (fun x135 m135 v135 hh135 H hp => ?_)
            refine cx_backI hp (fun hx135 => ?_)
            refine cx_callS (pc := 138) (P := pI) (dC := 0) (mcC := 0) (msC := 0) [iv x135] (fun r1 H1 => s_X7_isDigit l sc E R hE hR n x135 hx135 m135 r1 H1) ca_X7_61 rfl rfl (by omega) (Nat.le_of_ble_eq_true rfl) (Nat.le_of_ble_eq_true rfl) (Nat.le_of_ble_eq_true rfl) dX7_parseUnit_138 H (fun x138 m138 v138 hh138 H hp => ?_)
            refine cx_backI hp (fun hx138 => ?_)
            refine jn_ind (fun (f9 : Int → Mem → Option Rz) => ∀ (s0_159 : Int) (m159 : Mem), inR s0_159 → f9 s0_159 m159 = some r → AW l D base sc RX7 yX7_parseUnit cX7_parseUnit 3 (some FieldType.boolean) (dd + 1) 0 0 ad (E mi) (pI E r) 0 0 (E m159) 159 [] [iv s0_159]) (fun s0_159 m159 hs0_159 H => ?_) (fun j159 hj159 H => ?_) H
            · -- 159
              exact cx_zret (pc := 159) rfl (Nat.le_of_ble_eq_true rfl) (Nat.le_of_ble_eq_true rfl) dX7_parseUnit_159 H
            refine cx_if_eq (pc := 141) 152 hx138 dX7_parseUnit_141 rfl H (fun H => ?_) (fun H => ?_)
            · -- 141: 152
              refine aw_aload_n (pc := 152) dX7_parseUnit_152 rfl ?_
              refine cx_iconst (pc := 153) dX7_parseUnit_153 ?_
              refine cx_iconst (pc := 154) dX7_parseUnit_154 ?_
              refine cx_iconst (pc := 155) dX7_parseUnit_155 ?_
              refine cx_callV (pc := 156) (P := pI) (dC := 0) (mcC := 0) (msC := 0) [iv 1, iv 1, iv 0] hE r41 (fun r1 H1 => s_X7_step l sc E R hE hR n 1 1 0 (inR_lit _ rfl) (inR_lit _ rfl) (inR_lit _ rfl) m138 r1 H1) ca_X7_51 rfl ⟨_, rfl, rfl⟩ rfl rfl (by omega) (Nat.le_of_ble_eq_true rfl) (Nat.le_of_ble_eq_true rfl) (Nat.le_of_ble_eq_true rfl) dX7_parseUnit_156 H (fun x156 m156 v156 hh156 H hp => ?_)
              refine cx_backI hp (fun hx156 => ?_)
              exact AW.sel [] rfl (hj159 _ _ hx156 H)
            · -- 141: 144
              refine aw_aload_n (pc := 144) dX7_parseUnit_144 rfl ?_
              refine cx_iconst (pc := 145) dX7_parseUnit_145 ?_
              refine cx_callV (pc := 146) (P := pI) (dC := 1) (mcC := 0) (msC := 0) [iv 1] hE r41 (fun r1 H1 => s_X7_parseNumber l sc E R hE hR n 1 (inR_lit _ rfl) m138 r1 H1) ca_X7_64 rfl ⟨_, rfl, rfl⟩ rfl rfl (by omega) (Nat.le_of_ble_eq_true rfl) (Nat.le_of_ble_eq_true rfl) (Nat.le_of_ble_eq_true rfl) dX7_parseUnit_146 H (fun x146 m146 v146 hh146 H hp => ?_)
              refine cx_backI hp (fun hx146 => ?_)
              refine aw_goto (pc := 149) 159 dX7_parseUnit_149 rfl ?_
              exact AW.sel [] rfl (hj159 _ _ hx146 H)
          · -- 121: 160
            refine aw_aload_n (pc := 160) dX7_parseUnit_160 rfl ?_
            refine aw_aload_n (pc := 161) dX7_parseUnit_161 rfl ?_
            refine cx_gtF (pc := 162) hE r41 fl_X7_31 rfl rfl (Nat.le_of_ble_eq_true rfl) dX7_parseUnit_162 H (fun x162 hx162 H => ?_)
            refine cx_callV (pc := 165) (P := pI) (dC := 0) (mcC := 0) (msC := 0) [iv x162] hE r41 (fun r1 H1 => s_X7_failAt l sc E R hE hR n x162 hx162 m82 r1 H1) ca_X7_55 rfl ⟨_, rfl, rfl⟩ rfl rfl (by omega) (Nat.le_of_ble_eq_true rfl) (Nat.le_of_ble_eq_true rfl) (Nat.le_of_ble_eq_true rfl) dX7_parseUnit_165 H (fun x165 m165 v165 hh165 H hp => ?_)
            refine cx_backI hp (fun hx165 => ?_)
            exact cx_zret (pc := 168) rfl (Nat.le_of_ble_eq_true rfl) (Nat.le_of_ble_eq_true rfl) dX7_parseUnit_168 H
      · -- 85: 88
        refine aw_aload_n (pc := 88) dX7_parseUnit_88 rfl ?_
        refine cx_iconst (pc := 89) dX7_parseUnit_89 ?_
        refine cx_callV (pc := 90) (P := pI) (dC := 1) (mcC := 0) (msC := 0) [iv 0] hE r41 (fun r1 H1 => s_X7_parseNumber l sc E R hE hR n 0 (inR_lit _ rfl) m82 r1 H1) ca_X7_64 rfl ⟨_, rfl, rfl⟩ rfl rfl (by omega) (Nat.le_of_ble_eq_true rfl) (Nat.le_of_ble_eq_true rfl) (Nat.le_of_ble_eq_true rfl) dX7_parseUnit_90 H (fun x90 m90 v90 hh90 H hp => ?_)
        refine cx_backI hp (fun hx90 => ?_)
        exact cx_zret (pc := 93) rfl (Nat.le_of_ble_eq_true rfl) (Nat.le_of_ble_eq_true rfl) dX7_parseUnit_93 H
theorem sa_X7_parseUnit (l : Launch) (sc : g_S) (E : Mem → g_H) (R : Nat → Prop) (hE : LE E R) (hR : RCL R) (n : Nat) : ∀ dp, q_X7_parseRow l sc E R (2 + dp) (h_X7_parseRow n dp) ∧ q_X7_parseRows l sc E R (2 + dp) (h_X7_parseRows n dp) ∧ q_X7_parseSum l sc E R (2 + dp) (h_X7_parseSum n dp) ∧ q_X7_parseUnit l sc E R (2 + dp) (h_X7_parseUnit n dp)
  | 0 => ⟨(fun _ _ _ _ _ _ H => nomatch H), (fun _ _ _ _ H => nomatch H), (fun _ _ _ _ H => nomatch H), (fun _ _ _ _ H => nomatch H)⟩
  | dp + 1 => by
    have ih := sa_X7_parseUnit l sc E R hE hR n dp
    refine ⟨?_, ?_, ?_, ?_⟩
    · exact fun p1 p2 m hp1 hp2 r H => sb_X7_parseRow l sc E R hE hR n (2 + dp) (Nat.le_add_right _ _) _ _ _ _ ih.1 ih.2.1 ih.2.2.1 ih.2.2.2 p1 p2 m hp1 hp2 r H
    · exact fun p1 m hp1 r H => sb_X7_parseRows l sc E R hE hR n (2 + dp) (Nat.le_add_right _ _) _ _ _ _ ih.1 ih.2.1 ih.2.2.1 ih.2.2.2 p1 m hp1 r H
    · exact fun p1 m hp1 r H => sb_X7_parseSum l sc E R hE hR n (2 + dp) (Nat.le_add_right _ _) _ _ _ _ ih.1 ih.2.1 ih.2.2.1 ih.2.2.2 p1 m hp1 r H
    · exact fun p1 m hp1 r H => sb_X7_parseUnit l sc E R hE hR n (2 + dp) (Nat.le_add_right _ _) _ _ _ _ ih.1 ih.2.1 ih.2.2.1 ih.2.2.2 p1 m hp1 r H
theorem s_X7_parseRow (l : Launch) (sc : g_S) (E : Mem → g_H) (R : Nat → Prop) (hE : LE E R) (hR : RCL R) (n : Nat) (p1 : Int) (p2 : Int) (hp1 : inR p1) (hp2 : inR p2) (m : Mem) (r : Rz) (H : f_X7_parseRow n p1 p2 m = some r) : AMet l sc yX7_parseRow cX7_parseRow 5 (some FieldType.int) 42 0 0 [.ref 41, iv p1, iv p2] (E m) (pI E r) := (sa_X7_parseUnit l sc E R hE hR n 40).1 p1 p2 m hp1 hp2 r H
theorem s_X7_parseRows (l : Launch) (sc : g_S) (E : Mem → g_H) (R : Nat → Prop) (hE : LE E R) (hR : RCL R) (n : Nat) (p1 : Int) (hp1 : inR p1) (m : Mem) (r : Rz) (H : f_X7_parseRows n p1 m = some r) : AMet l sc yX7_parseRows cX7_parseRows 4 (some FieldType.boolean) 42 0 0 [.ref 41, iv p1] (E m) (pI E r) := (sa_X7_parseUnit l sc E R hE hR n 40).2.1 p1 m hp1 r H
theorem s_X7_parseSum (l : Launch) (sc : g_S) (E : Mem → g_H) (R : Nat → Prop) (hE : LE E R) (hR : RCL R) (n : Nat) (p1 : Int) (hp1 : inR p1) (m : Mem) (r : Rz) (H : f_X7_parseSum n p1 m = some r) : AMet l sc yX7_parseSum cX7_parseSum 2 (some FieldType.boolean) 42 0 0 [.ref 41, iv p1] (E m) (pI E r) := (sa_X7_parseUnit l sc E R hE hR n 40).2.2.1 p1 m hp1 r H
theorem s_X7_parseUnit (l : Launch) (sc : g_S) (E : Mem → g_H) (R : Nat → Prop) (hE : LE E R) (hR : RCL R) (n : Nat) (p1 : Int) (hp1 : inR p1) (m : Mem) (r : Rz) (H : f_X7_parseUnit n p1 m = some r) : AMet l sc yX7_parseUnit cX7_parseUnit 3 (some FieldType.boolean) 42 0 0 [.ref 41, iv p1] (E m) (pI E r) := (sa_X7_parseUnit l sc E R hE hR n 40).2.2.2 p1 m hp1 r H
/-- X7 parse ()I -/
def f_X7_parse (n : Nat)  (mi : Mem) : Option Rz :=
  ptF mi 41 5 0 fun m2 =>
  ptF m2 41 7 0 fun m7 =>
  ptF m7 41 6 (-1) fun m12 =>
  cal (f_X7_parseSum n 0 m12) fun x17 m17 =>
  jn (fun (m42 : Mem) =>
    gtF m42 41 6 fun x43 =>
    rt x43 m42
  ) fun (j42 : Mem → Option Rz) =>
  if x17 = 0 then (
    j42 m17
  ) else
  gtF m17 41 5 fun x24 =>
  gtF m17 41 4 fun x28 =>
  if x24 < x28 then (
    gtF m17 41 5 fun x36 =>
    ptF m17 41 6 x36 fun m39 =>
    j42 m39
  ) else
  j42 m17
set_option maxRecDepth 100000 in
set_option maxHeartbeats 4000000 in
theorem s_X7_parse (l : Launch) (sc : g_S) (E : Mem → g_H) (R : Nat → Prop) (hE : LE E R) (hR : RCL R) (n : Nat)    (mi : Mem) (r : Rz) (H : f_X7_parse n  mi = some r) : AMet l sc yX7_parse cX7_parse 1 (some FieldType.int) 43 0 0 [.ref 41] (E mi) (pI E r) := by
  have r41 : R 41 := hR.1 41 (Nat.le_of_ble_eq_true rfl) (Nat.le_of_ble_eq_true rfl)
  unfold f_X7_parse at H
  refine AMet.of (own := RX7) (by decide +kernel) rfl (Nat.le_of_ble_eq_true rfl) [(0, .ref 41)] rfl (fun D base ad => ?_)
  refine aw_aload_n (pc := 0) dX7_parse_0 rfl ?_
  refine cx_iconst (pc := 1) dX7_parse_1 ?_
  refine cx_ptF (pc := 2) tyX7 hE r41 fl_X7_31 (fun r h => ⟨gty_X7 r h, by cases h; rfl⟩) rfl rfl rfl (Nat.le_of_ble_eq_true rfl) dX7_parse_2 H (fun m2 H => ?_)
  refine aw_aload_n (pc := 5) dX7_parse_5 rfl ?_
  refine cx_iconst (pc := 6) dX7_parse_6 ?_
  refine cx_ptF (pc := 7) tyX7 hE r41 fl_X7_34 (fun r h => ⟨gty_X7 r h, by cases h; rfl⟩) rfl rfl rfl (Nat.le_of_ble_eq_true rfl) dX7_parse_7 H (fun m7 H => ?_)
  refine aw_aload_n (pc := 10) dX7_parse_10 rfl ?_
  refine cx_iconst (pc := 11) dX7_parse_11 ?_
  refine cx_ptF (pc := 12) tyX7 hE r41 fl_X7_37 (fun r h => ⟨gty_X7 r h, by cases h; rfl⟩) rfl rfl rfl (Nat.le_of_ble_eq_true rfl) dX7_parse_12 H (fun m12 H => ?_)
  refine aw_aload_n (pc := 15) dX7_parse_15 rfl ?_
  refine cx_iconst (pc := 16) dX7_parse_16 ?_
  refine cx_callV (pc := 17) (P := pI) (dC := 42) (mcC := 0) (msC := 0) [iv 0] hE r41 (fun r1 H1 => s_X7_parseSum l sc E R hE hR n 0 (inR_lit _ rfl) m12 r1 H1) ca_X7_40 rfl ⟨_, rfl, rfl⟩ rfl rfl (Nat.le_of_ble_eq_true rfl) (Nat.le_of_ble_eq_true rfl) (Nat.le_of_ble_eq_true rfl) (Nat.le_of_ble_eq_true rfl) dX7_parse_17 H (fun x17 m17 v17 hh17 H hp => ?_)
  refine cx_backI hp (fun hx17 => ?_)
  refine jn_ind (fun (f9 : Mem → Option Rz) => ∀ (m42 : Mem), f9 m42 = some r → AW l D base sc RX7 yX7_parse cX7_parse 1 (some FieldType.int) 43 0 0 ad (E mi) (pI E r) 0 0 (E m42) 42 [(0, .ref 41)] []) (fun m42 H => ?_) (fun j42 hj42 H => ?_) H
  · -- 42
    refine aw_aload_n (pc := 42) dX7_parse_42 rfl ?_
    refine cx_gtF (pc := 43) hE r41 fl_X7_37 rfl rfl (Nat.le_of_ble_eq_true rfl) dX7_parse_43 H (fun x43 hx43 H => ?_)
    exact cx_iret (pc := 46) hx43 rfl (Nat.le_of_ble_eq_true rfl) (Nat.le_of_ble_eq_true rfl) dX7_parse_46 H
  refine cx_if_eq (pc := 20) 42 hx17 dX7_parse_20 rfl H (fun H => ?_) (fun H => ?_)
  · -- 20: 42
    exact AW.sel [0] rfl (hj42 _ H)
  · -- 20: 23
    refine aw_aload_n (pc := 23) dX7_parse_23 rfl ?_
    refine cx_gtF (pc := 24) hE r41 fl_X7_31 rfl rfl (Nat.le_of_ble_eq_true rfl) dX7_parse_24 H (fun x24 hx24 H => ?_)
    refine aw_aload_n (pc := 27) dX7_parse_27 rfl ?_
    refine cx_gtF (pc := 28) hE r41 fl_X7_27 rfl rfl (Nat.le_of_ble_eq_true rfl) dX7_parse_28 H (fun x28 hx28 H => ?_)
    refine cx_icmp_ge (pc := 31) 42 hx24 hx28 dX7_parse_31 rfl H (fun H => ?_) (fun H => ?_)
    · -- 31: 34
      refine aw_aload_n (pc := 34) dX7_parse_34 rfl ?_
      refine aw_aload_n (pc := 35) dX7_parse_35 rfl ?_
      refine cx_gtF (pc := 36) hE r41 fl_X7_31 rfl rfl (Nat.le_of_ble_eq_true rfl) dX7_parse_36 H (fun x36 hx36 H => ?_)
      refine cx_ptF (pc := 39) tyX7 hE r41 fl_X7_37 (fun r h => ⟨gty_X7 r h, by cases h; rfl⟩) rfl rfl rfl (Nat.le_of_ble_eq_true rfl) dX7_parse_39 H (fun m39 H => ?_)
      exact AW.sel [0] rfl (hj42 _ H)
    · -- 31: 42
      exact AW.sel [0] rfl (hj42 _ H)
/-- X7 taken (III)I -/
def f_X7_taken (n : Nat) (p0 : Int) (p1 : Int) (p2 : Int) (mi : Mem) : Option Rz :=
  if p0 = 3 then (
    rt 1 mi
  ) else
  if p0 = 4 then (
    rt 2 mi
  ) else
  if p0 = 5 then (
    rt (w32 (p1 + p2)) mi
  ) else
  rt 0 mi
set_option maxRecDepth 100000 in
set_option maxHeartbeats 4000000 in
theorem s_X7_taken (l : Launch) (sc : g_S) (E : Mem → g_H) (R : Nat → Prop) (hE : LE E R) (hR : RCL R) (n : Nat)  (p0 : Int) (p1 : Int) (p2 : Int) (hp0 : inR p0) (hp1 : inR p1) (hp2 : inR p2) (mi : Mem) (r : Rz) (H : f_X7_taken n p0 p1 p2 mi = some r) : AMet l sc yX7_taken cX7_taken 3 (some FieldType.int) 0 0 0 [iv p0, iv p1, iv p2] (E mi) (pI E r) := by
  unfold f_X7_taken at H
  refine AMet.of (own := RX7) (by decide +kernel) rfl (Nat.le_of_ble_eq_true rfl) [(0, iv p0), (1, iv p1), (2, iv p2)] rfl (fun D base ad => ?_)
  refine aw_iload_n (pc := 0) dX7_taken_0 rfl ?_
  rcases sw_eq H with ⟨q1_3, H⟩ | ⟨q1_3, H⟩
  · -- 1 case 3
    refine cx_tabIn (pc := 1) 28 3 q1_3 dX7_taken_1 (by decide) (by decide) rfl rfl ?_
    refine cx_iconst (pc := 28) dX7_taken_28 ?_
    exact cx_iret (pc := 29) (inR_lit _ rfl) rfl (Nat.le_of_ble_eq_true rfl) (Nat.le_of_ble_eq_true rfl) dX7_taken_29 H
  rcases sw_eq H with ⟨q1_4, H⟩ | ⟨q1_4, H⟩
  · -- 1 case 4
    refine cx_tabIn (pc := 1) 30 4 q1_4 dX7_taken_1 (by decide) (by decide) rfl rfl ?_
    refine cx_iconst (pc := 30) dX7_taken_30 ?_
    exact cx_iret (pc := 31) (inR_lit _ rfl) rfl (Nat.le_of_ble_eq_true rfl) (Nat.le_of_ble_eq_true rfl) dX7_taken_31 H
  rcases sw_eq H with ⟨q1_5, H⟩ | ⟨q1_5, H⟩
  · -- 1 case 5
    refine cx_tabIn (pc := 1) 32 5 q1_5 dX7_taken_1 (by decide) (by decide) rfl rfl ?_
    refine aw_iload_n (pc := 32) dX7_taken_32 rfl ?_
    refine aw_iload_n (pc := 33) dX7_taken_33 rfl ?_
    refine cx_iadd (pc := 34) dX7_taken_34 ?_
    exact cx_iret (pc := 35) (inR_w32 _) rfl (Nat.le_of_ble_eq_true rfl) (Nat.le_of_ble_eq_true rfl) dX7_taken_35 H
  refine cx_tabOut (pc := 1) 36 hp0 dX7_taken_1 (by omega) rfl ?_
  refine cx_iconst (pc := 36) dX7_taken_36 ?_
  exact cx_iret (pc := 37) (inR_lit _ rfl) rfl (Nat.le_of_ble_eq_true rfl) (Nat.le_of_ble_eq_true rfl) dX7_taken_37 H
/-- X7 build ()LUppityGames$Game; -/
def f_X7_build (n N : Nat)  (mi : Mem) : Option Rz :=
  lp (F := Int → Int → Mem → Option Rz) (fun _ _ _ => none) (fun w4 v1_4 v2_4 m4 =>
    gtF m4 41 7 fun x6 =>
    jn (fun (m301 : Mem) =>
      ldG m301 44 0 fun x306 =>
      rt (x306 : Nat) m301
    ) fun (j301 : Mem → Option Rz) =>
    if v2_4 < x6 then (
      if v2_4 < 120 then (
        ldI m4 43 v2_4 fun x26 =>
        nm (iand x26 15) fun z30 =>
        ldI m4 43 v2_4 fun x36 =>
        nm (iand (ishr x36 4) 255) fun z43 =>
        ldI m4 43 v2_4 fun x50 =>
        nm (iand (ishr x50 12) 255) fun z58 =>
        cal (f_X7_taken n z30 z43 z58 m4) fun x66 m66 =>
        nm (w32 (v1_4 - x66)) fun z70 =>
        jn (fun (m96 : Mem) =>
          rt (0 : Nat) m96
        ) fun (j96 : Mem → Option Rz) =>
        if z70 < 0 then (
          j96 m66
        ) else
        if z70 < 120 then (
          if 120 < v1_4 then (
            j96 m66
          ) else
          jn (fun (s0_114 : Nat) (m114 : Mem) =>
            jn (fun (m278 : Mem) =>
              ldG m278 44 z70 fun x284 =>
              if x284 = 0 then (
                rt (0 : Nat) m278
              ) else
              nm (w32 (z70 + 1)) fun z294 =>
              w4 z294 (w32 (v2_4 + 1)) m278
            ) fun (j278 : Mem → Option Rz) =>
            if z30 = 0 then (
              cal (f_X2_integerOf n z43 m114) fun x164 m164 =>
              stG m164 44 z70 x164.toNat fun m167 =>
              j278 m167
            ) else
            if z30 = 1 then (
              cal (f_X2_heapOf n z43 m114) fun x183 m183 =>
              stG m183 44 z70 x183.toNat fun m186 =>
              j278 m186
            ) else
            if z30 = 2 then (
              cal (f_X2_upGame n m114) fun x200 m200 =>
              stG m200 44 z70 x200.toNat fun m203 =>
              j278 m203
            ) else
            if z30 = 3 then (
              cal (f_X2_negativeOf n s0_114 m114) fun x219 m219 =>
              stG m219 44 z70 x219.toNat fun m222 =>
              j278 m222
            ) else
            if z30 = 4 then (
              ldG m114 44 z70 fun x242 =>
              cal (f_X2_sumOf n x242 s0_114 m114) fun x245 m245 =>
              stG m245 44 z70 x245.toNat fun m248 =>
              j278 m248
            ) else
            cal (f_X2_gameOf n 44 z70 (w32 (z70 + z43)) v1_4 m114) fun x274 m274 =>
            stG m274 44 z70 x274.toNat fun m277 =>
            j278 m277
          ) fun (j114 : Nat → Mem → Option Rz) =>
          if 0 < v1_4 then (
            ldG m66 44 (w32 (v1_4 - 1)) fun x109 =>
            j114 x109 m66
          ) else
          j114 0 m66
        ) else
        j96 m66
      ) else
      j301 m4
    ) else
    j301 m4
  ) N 0 0 mi
set_option maxRecDepth 100000 in
set_option maxHeartbeats 4000000 in
theorem s_X7_build (l : Launch) (sc : g_S) (E : Mem → g_H) (R : Nat → Prop) (hE : LE E R) (hR : RCL R) (hsc : sc.1 = 0) (n N : Nat)    (mi : Mem) (r : Rz) (H : f_X7_build n N  mi = some r) : AMet l sc yX7_build cX7_build 8 (some (FieldType.object "UppityGames$Game")) 6 (4 * N) (125 * N) [.ref 41] (E mi) (pG E r) := by
  have r28 : R 28 := hR.1 28 (Nat.le_of_ble_eq_true rfl) (Nat.le_of_ble_eq_true rfl)
  have r41 : R 41 := hR.1 41 (Nat.le_of_ble_eq_true rfl) (Nat.le_of_ble_eq_true rfl)
  have r43 : R 43 := hR.1 43 (Nat.le_of_ble_eq_true rfl) (Nat.le_of_ble_eq_true rfl)
  have r44 : R 44 := hR.1 44 (Nat.le_of_ble_eq_true rfl) (Nat.le_of_ble_eq_true rfl)
  unfold f_X7_build at H
  refine AMet.of (own := RX7) (by decide +kernel) rfl (Nat.le_of_ble_eq_true rfl) [(0, .ref 41)] rfl (fun D base ad => ?_)
  refine cx_iconst (pc := 0) dX7_build_0 ?_
  refine aw_istore_n (pc := 1) [(1, iv 0), (0, .ref 41)] dX7_build_1 rfl (by decide) ?_
  refine cx_iconst (pc := 2) dX7_build_2 ?_
  refine aw_istore_n (pc := 3) [(2, iv 0), (1, iv 0), (0, .ref 41)] dX7_build_3 rfl (by decide) ?_
  refine AW.sel [2, 1, 0] rfl (lp_indN (bot := fun _ _ _ => none) (fun n9 (f9 : Int → Int → Mem → Option Rz) => ∀ (u4 w4v : Nat) (v1_4 : Int) (v2_4 : Int) (m4 : Mem), u4 + 4 * n9 ≤ 4 * N → w4v + 125 * n9 ≤ 125 * N → inR v1_4 → inR v2_4 → f9 v1_4 v2_4 m4 = some r → AW l D base sc RX7 yX7_build cX7_build 8 (some (FieldType.object "UppityGames$Game")) 6 (4 * N) (125 * N) ad (E mi) (pG E r) u4 w4v (E m4) 4 [(0, .ref 41), (1, iv v1_4), (2, iv v2_4)] []) (fun _ _ _ _ _ _ _ _ _ h9 => nomatch h9) (fun n9 w4 ih4 u4 w4v v1_4 v2_4 m4 hA4 hB4 hv1_4 hv2_4 H => ?_) N _ _ _ _ _ (by omega) (by omega) (inR_lit _ rfl) (inR_lit _ rfl) H)
  refine aw_iload_n (pc := 4) dX7_build_4 rfl ?_
  refine aw_aload_n (pc := 5) dX7_build_5 rfl ?_
  refine cx_gtF (pc := 6) hE r41 fl_X7_34 rfl rfl (Nat.le_of_ble_eq_true rfl) dX7_build_6 H (fun x6 hx6 H => ?_)
  refine jn_ind (fun (f9 : Mem → Option Rz) => ∀ (m301 : Mem), f9 m301 = some r → AW l D base sc RX7 yX7_build cX7_build 8 (some (FieldType.object "UppityGames$Game")) 6 (4 * N) (125 * N) ad (E mi) (pG E r) u4 w4v (E m301) 301 [(0, .ref 41)] []) (fun m301 H => ?_) (fun j301 hj301 H => ?_) H
  · -- 301
    refine aw_aload_n (pc := 301) dX7_build_301 rfl ?_
    refine cx_gtC (pc := 302) 44 hE r41 fl_X7_19 rfl rfl (Nat.le_of_ble_eq_true rfl) dX7_build_302 ?_
    refine cx_iconst (pc := 305) dX7_build_305 ?_
    refine cx_ldG (pc := 306) hE r44 (inR_lit _ rfl) dX7_build_306 H (fun x306 H => ?_)
    exact cx_aret (pc := 307) ⟨_, rfl, Or.inl ⟨_, rfl⟩⟩ (by omega) (by omega) dX7_build_307 H
  refine cx_icmp_ge (pc := 9) 301 hv2_4 hx6 dX7_build_9 rfl H (fun H => ?_) (fun H => ?_)
  · -- 9: 12
    refine aw_iload_n (pc := 12) dX7_build_12 rfl ?_
    refine aw_aload_n (pc := 13) dX7_build_13 rfl ?_
    refine cx_gtC (pc := 14) 43 hE r41 fl_X7_13 rfl rfl (Nat.le_of_ble_eq_true rfl) dX7_build_14 ?_
    refine cx_lenC (pc := 17) (c := 120) hE r43 (fun _ => ⟨_, _, rfl, rfl⟩) dX7_build_17 ?_
    refine cx_icmp_ge (pc := 18) 301 hv2_4 (inR_lit _ rfl) dX7_build_18 rfl H (fun H => ?_) (fun H => ?_)
    · -- 18: 21
      refine aw_aload_n (pc := 21) dX7_build_21 rfl ?_
      refine cx_gtC (pc := 22) 43 hE r41 fl_X7_13 rfl rfl (Nat.le_of_ble_eq_true rfl) dX7_build_22 ?_
      refine aw_iload_n (pc := 25) dX7_build_25 rfl ?_
      refine cx_ldI (pc := 26) hE r43 hv2_4 dX7_build_26 H (fun x26 hx26 H => ?_)
      refine cx_bipush (pc := 27) dX7_build_27 (by decide) ?_
      refine cx_iand (pc := 29) dX7_build_29 ?_
      refine cx_nm (inR_32 _) H (fun z30 hz30 H => ?_)
      refine aw_istore_n (pc := 30) [(3, iv z30), (0, .ref 41), (1, iv v1_4), (2, iv v2_4)] dX7_build_30 rfl (by decide) ?_
      refine aw_aload_n (pc := 31) dX7_build_31 rfl ?_
      refine cx_gtC (pc := 32) 43 hE r41 fl_X7_13 rfl rfl (Nat.le_of_ble_eq_true rfl) dX7_build_32 ?_
      refine aw_iload_n (pc := 35) dX7_build_35 rfl ?_
      refine cx_ldI (pc := 36) hE r43 hv2_4 dX7_build_36 H (fun x36 hx36 H => ?_)
      refine cx_iconst (pc := 37) dX7_build_37 ?_
      refine cx_ishr (pc := 38) dX7_build_38 ?_
      refine cx_sipush (pc := 39) dX7_build_39 (by decide) ?_
      refine cx_iand (pc := 42) dX7_build_42 ?_
      refine cx_nm (inR_32 _) H (fun z43 hz43 H => ?_)
      refine aw_istore (pc := 43) [(4, iv z43), (3, iv z30), (0, .ref 41), (1, iv v1_4), (2, iv v2_4)] dX7_build_43 rfl (by decide) ?_
      refine aw_aload_n (pc := 45) dX7_build_45 rfl ?_
      refine cx_gtC (pc := 46) 43 hE r41 fl_X7_13 rfl rfl (Nat.le_of_ble_eq_true rfl) dX7_build_46 ?_
      refine aw_iload_n (pc := 49) dX7_build_49 rfl ?_
      refine cx_ldI (pc := 50) hE r43 hv2_4 dX7_build_50 H (fun x50 hx50 H => ?_)
      refine cx_bipush (pc := 51) dX7_build_51 (by decide) ?_
      refine cx_ishr (pc := 53) dX7_build_53 ?_
      refine cx_sipush (pc := 54) dX7_build_54 (by decide) ?_
      refine cx_iand (pc := 57) dX7_build_57 ?_
      refine cx_nm (inR_32 _) H (fun z58 hz58 H => ?_)
      refine aw_istore (pc := 58) [(5, iv z58), (4, iv z43), (3, iv z30), (0, .ref 41), (1, iv v1_4), (2, iv v2_4)] dX7_build_58 rfl (by decide) ?_
      refine aw_iload_n (pc := 60) dX7_build_60 rfl ?_
      refine aw_iload_n (pc := 61) dX7_build_61 rfl ?_
      refine aw_iload (pc := 62) dX7_build_62 rfl ?_
      refine aw_iload (pc := 64) dX7_build_64 rfl ?_
      refine cx_callS (pc := 66) (P := pI) (dC := 0) (mcC := 0) (msC := 0) [iv z30, iv z43, iv z58] (fun r1 H1 => s_X7_taken l sc E R hE hR n z30 z43 z58 hz30 hz43 hz58 m4 r1 H1) ca_X7_71 rfl rfl (Nat.le_of_ble_eq_true rfl) (Nat.le_of_ble_eq_true rfl) (by omega) (by omega) dX7_build_66 H (fun x66 m66 v66 hh66 H hp => ?_)
      refine cx_backI hp (fun hx66 => ?_)
      refine cx_isub (pc := 69) dX7_build_69 ?_
      refine cx_nm (inR_w32 _) H (fun z70 hz70 H => ?_)
      refine aw_istore (pc := 70) [(6, iv z70), (5, iv z58), (4, iv z43), (3, iv z30), (0, .ref 41), (1, iv v1_4), (2, iv v2_4)] dX7_build_70 rfl (by decide) ?_
      refine aw_iload (pc := 72) dX7_build_72 rfl ?_
      refine jn_ind (fun (f9 : Mem → Option Rz) => ∀ (m96 : Mem), f9 m96 = some r → AW l D base sc RX7 yX7_build cX7_build 8 (some (FieldType.object "UppityGames$Game")) 6 (4 * N) (125 * N) ad (E mi) (pG E r) (u4 + 0) (w4v + 0) (E m96) 96 [] []) (fun m96 H => ?_) (fun j96 hj96 H => ?_) H
      · -- 96
        refine cx_null (pc := 96) dX7_build_96 ?_
        exact cx_aret (pc := 97) ⟨_, rfl, Or.inl ⟨_, rfl⟩⟩ (by omega) (by omega) dX7_build_97 H
      refine cx_if_lt (pc := 74) 96 hz70 dX7_build_74 rfl H (fun H => ?_) (fun H => ?_)
      · -- 74: 96
        exact AW.sel [] rfl (hj96 _ H)
      · -- 74: 77
        refine aw_iload (pc := 77) dX7_build_77 rfl ?_
        refine aw_aload_n (pc := 79) dX7_build_79 rfl ?_
        refine cx_gtC (pc := 80) 44 hE r41 fl_X7_19 rfl rfl (Nat.le_of_ble_eq_true rfl) dX7_build_80 ?_
        refine cx_lenC (pc := 83) (c := 120) hE r44 (fun _ => ⟨_, _, rfl, rfl⟩) dX7_build_83 ?_
        refine cx_icmp_ge (pc := 84) 96 hz70 (inR_lit _ rfl) dX7_build_84 rfl H (fun H => ?_) (fun H => ?_)
        · -- 84: 87
          refine aw_iload_n (pc := 87) dX7_build_87 rfl ?_
          refine aw_aload_n (pc := 88) dX7_build_88 rfl ?_
          refine cx_gtC (pc := 89) 44 hE r41 fl_X7_19 rfl rfl (Nat.le_of_ble_eq_true rfl) dX7_build_89 ?_
          refine cx_lenC (pc := 92) (c := 120) hE r44 (fun _ => ⟨_, _, rfl, rfl⟩) dX7_build_92 ?_
          refine cx_icmp_le (pc := 93) 98 hv1_4 (inR_lit _ rfl) dX7_build_93 rfl H (fun H => ?_) (fun H => ?_)
          · -- 93: 96
            exact AW.sel [] rfl (hj96 _ H)
          · -- 93: 98
            refine aw_iload_n (pc := 98) dX7_build_98 rfl ?_
            refine jn_ind (fun (f9 : Nat → Mem → Option Rz) => ∀ (s0_114 : Nat) (m114 : Mem), f9 s0_114 m114 = some r → AW l D base sc RX7 yX7_build cX7_build 8 (some (FieldType.object "UppityGames$Game")) 6 (4 * N) (125 * N) ad (E mi) (pG E r) (u4 + 0) (w4v + 0) (E m114) 114 [(0, .ref 41), (1, iv v1_4), (2, iv v2_4), (3, iv z30), (4, iv z43), (6, iv z70)] [rv s0_114]) (fun s0_114 m114 H => ?_) (fun j114 hj114 H => ?_) H
            · -- 114
              refine cx_astore (pc := 114) [(7, rv s0_114), (0, .ref 41), (1, iv v1_4), (2, iv v2_4), (3, iv z30), (4, iv z43), (6, iv z70)] dX7_build_114 rfl (by decide) ?_
              refine aw_iload_n (pc := 116) dX7_build_116 rfl ?_
              refine jn_ind (fun (f9 : Mem → Option Rz) => ∀ (m278 : Mem), f9 m278 = some r → AW l D base sc RX7 yX7_build cX7_build 8 (some (FieldType.object "UppityGames$Game")) 6 (4 * N) (125 * N) ad (E mi) (pG E r) ((u4 + 0) + 4) ((w4v + 0) + 125) (E m278) 278 [(0, .ref 41), (2, iv v2_4), (6, iv z70)] []) (fun m278 H => ?_) (fun j278 hj278 H => ?_) H
              · -- 278
                refine aw_aload_n (pc := 278) dX7_build_278 rfl ?_
                refine cx_gtC (pc := 279) 44 hE r41 fl_X7_19 rfl rfl (Nat.le_of_ble_eq_true rfl) dX7_build_279 ?_
                refine aw_iload (pc := 282) dX7_build_282 rfl ?_
                refine cx_ldG (pc := 284) hE r44 hz70 dX7_build_284 H (fun x284 H => ?_)
                refine cx_ifnonnull (pc := 285) 290 dX7_build_285 rfl H (fun H => ?_) (fun H => ?_)
                · -- 285: 288
                  refine cx_null (pc := 288) dX7_build_288 ?_
                  exact cx_aret (pc := 289) ⟨_, rfl, Or.inl ⟨_, rfl⟩⟩ (by omega) (by omega) dX7_build_289 H
                · -- 285: 290
                  refine aw_iload (pc := 290) dX7_build_290 rfl ?_
                  refine cx_iconst (pc := 292) dX7_build_292 ?_
                  refine cx_iadd (pc := 293) dX7_build_293 ?_
                  refine cx_nm (inR_w32 _) H (fun z294 hz294 H => ?_)
                  refine aw_istore_n (pc := 294) [(1, iv z294), (0, .ref 41), (2, iv v2_4), (6, iv z70)] dX7_build_294 rfl (by decide) ?_
                  refine cx_iinc (pc := 295) [(2, iv (w32 (v2_4 + 1))), (1, iv z294), (0, .ref 41), (6, iv z70)] dX7_build_295 rfl rfl (by decide) ?_
                  refine aw_goto (pc := 298) 4 dX7_build_298 rfl ?_
                  exact AW.sel [2, 1, 0] rfl (ih4 _ _ _ _ _ (by omega) (by omega) hz294 (inR_w32 _) H)
              rcases sw_eq H with ⟨q117_0, H⟩ | ⟨q117_0, H⟩
              · -- 117 case 0
                refine cx_tabIn (pc := 117) 152 0 q117_0 dX7_build_117 (by decide) (by decide) rfl rfl ?_
                refine aw_aload_n (pc := 152) dX7_build_152 rfl ?_
                refine cx_gtC (pc := 153) 44 hE r41 fl_X7_19 rfl rfl (Nat.le_of_ble_eq_true rfl) dX7_build_153 ?_
                refine aw_iload (pc := 156) dX7_build_156 rfl ?_
                refine aw_aload_n (pc := 158) dX7_build_158 rfl ?_
                refine cx_gtC (pc := 159) 28 hE r41 fl_X7_23 rfl rfl (Nat.le_of_ble_eq_true rfl) dX7_build_159 ?_
                refine aw_iload (pc := 162) dX7_build_162 rfl ?_
                refine cx_callV (pc := 164) (P := pG) (dC := 5) (mcC := 4) (msC := 125) [iv z43] hE r28 (fun r1 H1 => s_X2_integerOf l sc E R hE hR.mk hsc n z43 hz43 m114 r1 H1) ca_X7_75 rfl ⟨_, rfl, rfl⟩ rfl rfl (Nat.le_of_ble_eq_true rfl) (Nat.le_of_ble_eq_true rfl) (by omega) (by omega) dX7_build_164 H (fun x164 m164 v164 hh164 H hp => ?_)
                refine cx_backG hp ?_
                refine cx_stG (pc := 167) hE r44 hR.d hz70 dX7_build_167 H (fun m167 H => ?_)
                refine aw_goto (pc := 168) 278 dX7_build_168 rfl ?_
                exact AW.sel [1, 3, 6] rfl (hj278 _ H)
              rcases sw_eq H with ⟨q117_1, H⟩ | ⟨q117_1, H⟩
              · -- 117 case 1
                refine cx_tabIn (pc := 117) 171 1 q117_1 dX7_build_117 (by decide) (by decide) rfl rfl ?_
                refine aw_aload_n (pc := 171) dX7_build_171 rfl ?_
                refine cx_gtC (pc := 172) 44 hE r41 fl_X7_19 rfl rfl (Nat.le_of_ble_eq_true rfl) dX7_build_172 ?_
                refine aw_iload (pc := 175) dX7_build_175 rfl ?_
                refine aw_aload_n (pc := 177) dX7_build_177 rfl ?_
                refine cx_gtC (pc := 178) 28 hE r41 fl_X7_23 rfl rfl (Nat.le_of_ble_eq_true rfl) dX7_build_178 ?_
                refine aw_iload (pc := 181) dX7_build_181 rfl ?_
                refine cx_callV (pc := 183) (P := pG) (dC := 5) (mcC := 4) (msC := 125) [iv z43] hE r28 (fun r1 H1 => s_X2_heapOf l sc E R hE hR.mk hsc n z43 hz43 m114 r1 H1) ca_X7_81 rfl ⟨_, rfl, rfl⟩ rfl rfl (Nat.le_of_ble_eq_true rfl) (Nat.le_of_ble_eq_true rfl) (by omega) (by omega) dX7_build_183 H (fun x183 m183 v183 hh183 H hp => ?_)
                refine cx_backG hp ?_
                refine cx_stG (pc := 186) hE r44 hR.d hz70 dX7_build_186 H (fun m186 H => ?_)
                refine aw_goto (pc := 187) 278 dX7_build_187 rfl ?_
                exact AW.sel [1, 3, 6] rfl (hj278 _ H)
              rcases sw_eq H with ⟨q117_2, H⟩ | ⟨q117_2, H⟩
              · -- 117 case 2
                refine cx_tabIn (pc := 117) 190 2 q117_2 dX7_build_117 (by decide) (by decide) rfl rfl ?_
                refine aw_aload_n (pc := 190) dX7_build_190 rfl ?_
                refine cx_gtC (pc := 191) 44 hE r41 fl_X7_19 rfl rfl (Nat.le_of_ble_eq_true rfl) dX7_build_191 ?_
                refine aw_iload (pc := 194) dX7_build_194 rfl ?_
                refine aw_aload_n (pc := 196) dX7_build_196 rfl ?_
                refine cx_gtC (pc := 197) 28 hE r41 fl_X7_23 rfl rfl (Nat.le_of_ble_eq_true rfl) dX7_build_197 ?_
                refine cx_callV (pc := 200) (P := pG) (dC := 0) (mcC := 0) (msC := 0) [] hE r28 (fun r1 H1 => s_X2_upGame l sc E R hE hR.mk n m114 r1 H1) ca_X7_84 rfl ⟨_, rfl, rfl⟩ rfl rfl (Nat.le_of_ble_eq_true rfl) (Nat.le_of_ble_eq_true rfl) (by omega) (by omega) dX7_build_200 H (fun x200 m200 v200 hh200 H hp => ?_)
                refine cx_backG hp ?_
                refine cx_stG (pc := 203) hE r44 hR.d hz70 dX7_build_203 H (fun m203 H => ?_)
                refine aw_goto (pc := 204) 278 dX7_build_204 rfl ?_
                refine AW.widen (k' := ((u4 + 0) + 4)) (n' := ((w4v + 0) + 125)) (by omega) (by omega) ?_
                exact AW.sel [1, 3, 6] rfl (hj278 _ H)
              rcases sw_eq H with ⟨q117_3, H⟩ | ⟨q117_3, H⟩
              · -- 117 case 3
                refine cx_tabIn (pc := 117) 207 3 q117_3 dX7_build_117 (by decide) (by decide) rfl rfl ?_
                refine aw_aload_n (pc := 207) dX7_build_207 rfl ?_
                refine cx_gtC (pc := 208) 44 hE r41 fl_X7_19 rfl rfl (Nat.le_of_ble_eq_true rfl) dX7_build_208 ?_
                refine aw_iload (pc := 211) dX7_build_211 rfl ?_
                refine aw_aload_n (pc := 213) dX7_build_213 rfl ?_
                refine cx_gtC (pc := 214) 28 hE r41 fl_X7_23 rfl rfl (Nat.le_of_ble_eq_true rfl) dX7_build_214 ?_
                refine cx_aload (pc := 217) dX7_build_217 rfl ?_
                refine cx_callV (pc := 219) (P := pG) (dC := 5) (mcC := 4) (msC := 125) [rv s0_114] hE r28 (fun r1 H1 => s_X2_negativeOf l sc E R hE hR.mk hsc n s0_114 m114 r1 H1) ca_X7_88 rfl ⟨_, rfl, rfl⟩ rfl rfl (Nat.le_of_ble_eq_true rfl) (Nat.le_of_ble_eq_true rfl) (by omega) (by omega) dX7_build_219 H (fun x219 m219 v219 hh219 H hp => ?_)
                refine cx_backG hp ?_
                refine cx_stG (pc := 222) hE r44 hR.d hz70 dX7_build_222 H (fun m222 H => ?_)
                refine aw_goto (pc := 223) 278 dX7_build_223 rfl ?_
                exact AW.sel [1, 3, 6] rfl (hj278 _ H)
              rcases sw_eq H with ⟨q117_4, H⟩ | ⟨q117_4, H⟩
              · -- 117 case 4
                refine cx_tabIn (pc := 117) 226 4 q117_4 dX7_build_117 (by decide) (by decide) rfl rfl ?_
                refine aw_aload_n (pc := 226) dX7_build_226 rfl ?_
                refine cx_gtC (pc := 227) 44 hE r41 fl_X7_19 rfl rfl (Nat.le_of_ble_eq_true rfl) dX7_build_227 ?_
                refine aw_iload (pc := 230) dX7_build_230 rfl ?_
                refine aw_aload_n (pc := 232) dX7_build_232 rfl ?_
                refine cx_gtC (pc := 233) 28 hE r41 fl_X7_23 rfl rfl (Nat.le_of_ble_eq_true rfl) dX7_build_233 ?_
                refine aw_aload_n (pc := 236) dX7_build_236 rfl ?_
                refine cx_gtC (pc := 237) 44 hE r41 fl_X7_19 rfl rfl (Nat.le_of_ble_eq_true rfl) dX7_build_237 ?_
                refine aw_iload (pc := 240) dX7_build_240 rfl ?_
                refine cx_ldG (pc := 242) hE r44 hz70 dX7_build_242 H (fun x242 H => ?_)
                refine cx_aload (pc := 243) dX7_build_243 rfl ?_
                refine cx_callV (pc := 245) (P := pG) (dC := 5) (mcC := 4) (msC := 125) [rv x242, rv s0_114] hE r28 (fun r1 H1 => s_X2_sumOf l sc E R hE hR.mk hsc n x242 s0_114 m114 r1 H1) ca_X7_92 rfl ⟨_, rfl, rfl⟩ rfl rfl (Nat.le_of_ble_eq_true rfl) (Nat.le_of_ble_eq_true rfl) (by omega) (by omega) dX7_build_245 H (fun x245 m245 v245 hh245 H hp => ?_)
                refine cx_backG hp ?_
                refine cx_stG (pc := 248) hE r44 hR.d hz70 dX7_build_248 H (fun m248 H => ?_)
                refine aw_goto (pc := 249) 278 dX7_build_249 rfl ?_
                exact AW.sel [1, 3, 6] rfl (hj278 _ H)
              refine cx_tabOut (pc := 117) 252 hz30 dX7_build_117 (by omega) rfl ?_
              refine aw_aload_n (pc := 252) dX7_build_252 rfl ?_
              refine cx_gtC (pc := 253) 44 hE r41 fl_X7_19 rfl rfl (Nat.le_of_ble_eq_true rfl) dX7_build_253 ?_
              refine aw_iload (pc := 256) dX7_build_256 rfl ?_
              refine aw_aload_n (pc := 258) dX7_build_258 rfl ?_
              refine cx_gtC (pc := 259) 28 hE r41 fl_X7_23 rfl rfl (Nat.le_of_ble_eq_true rfl) dX7_build_259 ?_
              refine aw_aload_n (pc := 262) dX7_build_262 rfl ?_
              refine cx_gtC (pc := 263) 44 hE r41 fl_X7_19 rfl rfl (Nat.le_of_ble_eq_true rfl) dX7_build_263 ?_
              refine aw_iload (pc := 266) dX7_build_266 rfl ?_
              refine aw_iload (pc := 268) dX7_build_268 rfl ?_
              refine aw_iload (pc := 270) dX7_build_270 rfl ?_
              refine cx_iadd (pc := 272) dX7_build_272 ?_
              refine aw_iload_n (pc := 273) dX7_build_273 rfl ?_
              refine cx_callV (pc := 274) (P := pG) (dC := 5) (mcC := 4) (msC := 125) [.ref 44, iv z70, iv (w32 (z70 + z43)), iv v1_4] hE r28 (fun r1 H1 => s_X2_gameOf l sc E R hE hR.mk hsc n 44 z70 (w32 (z70 + z43)) v1_4 r44 hz70 (inR_w32 _) hv1_4 m114 r1 H1) ca_X7_96 rfl ⟨_, rfl, rfl⟩ rfl rfl (Nat.le_of_ble_eq_true rfl) (Nat.le_of_ble_eq_true rfl) (by omega) (by omega) dX7_build_274 H (fun x274 m274 v274 hh274 H hp => ?_)
              refine cx_backG hp ?_
              refine cx_stG (pc := 277) hE r44 hR.d hz70 dX7_build_277 H (fun m277 H => ?_)
              exact AW.sel [1, 3, 6] rfl (hj278 _ H)
            refine cx_if_le (pc := 99) 113 hv1_4 dX7_build_99 rfl H (fun H => ?_) (fun H => ?_)
            · -- 99: 102
              refine aw_aload_n (pc := 102) dX7_build_102 rfl ?_
              refine cx_gtC (pc := 103) 44 hE r41 fl_X7_19 rfl rfl (Nat.le_of_ble_eq_true rfl) dX7_build_103 ?_
              refine aw_iload_n (pc := 106) dX7_build_106 rfl ?_
              refine cx_iconst (pc := 107) dX7_build_107 ?_
              refine cx_isub (pc := 108) dX7_build_108 ?_
              refine cx_ldG (pc := 109) hE r44 (inR_w32 _) dX7_build_109 H (fun x109 H => ?_)
              refine aw_goto (pc := 110) 114 dX7_build_110 rfl ?_
              exact AW.sel [4, 5, 6, 3, 2, 0] rfl (hj114 _ _ H)
            · -- 99: 113
              refine cx_null (pc := 113) dX7_build_113 ?_
              exact AW.sel [4, 5, 6, 3, 2, 0] rfl (hj114 _ _ H)
        · -- 84: 96
          exact AW.sel [] rfl (hj96 _ H)
    · -- 18: 301
      exact AW.sel [0] rfl (hj301 _ H)
  · -- 9: 301
    exact AW.sel [0] rfl (hj301 _ H)
