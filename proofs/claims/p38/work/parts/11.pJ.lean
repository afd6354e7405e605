theorem mimax_y : yJ9_max_7cf53 = Lib.Math.max.name := by decide +kernel
theorem mimax_c : cJ9_max_7cf53 = Lib.Math.max.code := by decide +kernel
theorem mimin_y : yJ9_min_7cf53 = Lib.Math.min.name := by decide +kernel
theorem mimin_c : cJ9_min_7cf53 = Lib.Math.min.code := by decide +kernel
theorem miabs_y : yJ9_abs_0f7a4 = Lib.Math.abs.name := by decide +kernel
theorem miabs_c : cJ9_abs_0f7a4 = Lib.Math.abs.code := by decide +kernel
theorem dJ6_bitCount_0f7a4_0 : decode cJ6_bitCount_0f7a4 0 = .ok (.iload_n 0, 1) := by decide +kernel
theorem dJ6_bitCount_0f7a4_1 : decode cJ6_bitCount_0f7a4 1 = .ok (.iload_n 0, 1) := by decide +kernel
theorem dJ6_bitCount_0f7a4_2 : decode cJ6_bitCount_0f7a4 2 = .ok (.iconst 1, 1) := by decide +kernel
theorem dJ6_bitCount_0f7a4_3 : decode cJ6_bitCount_0f7a4 3 = .ok (.iushr, 1) := by decide +kernel
theorem dJ6_bitCount_0f7a4_4 : decode cJ6_bitCount_0f7a4 4 = .ok (.ldc_w 265, 3) := by decide +kernel
theorem dJ6_bitCount_0f7a4_7 : decode cJ6_bitCount_0f7a4 7 = .ok (.iand, 1) := by decide +kernel
theorem dJ6_bitCount_0f7a4_8 : decode cJ6_bitCount_0f7a4 8 = .ok (.isub, 1) := by decide +kernel
theorem dJ6_bitCount_0f7a4_9 : decode cJ6_bitCount_0f7a4 9 = .ok (.istore_n 0, 1) := by decide +kernel
theorem dJ6_bitCount_0f7a4_10 : decode cJ6_bitCount_0f7a4 10 = .ok (.iload_n 0, 1) := by decide +kernel
theorem dJ6_bitCount_0f7a4_11 : decode cJ6_bitCount_0f7a4 11 = .ok (.ldc_w 266, 3) := by decide +kernel
theorem dJ6_bitCount_0f7a4_14 : decode cJ6_bitCount_0f7a4 14 = .ok (.iand, 1) := by decide +kernel
theorem dJ6_bitCount_0f7a4_15 : decode cJ6_bitCount_0f7a4 15 = .ok (.iload_n 0, 1) := by decide +kernel
theorem dJ6_bitCount_0f7a4_16 : decode cJ6_bitCount_0f7a4 16 = .ok (.iconst 2, 1) := by decide +kernel
theorem dJ6_bitCount_0f7a4_17 : decode cJ6_bitCount_0f7a4 17 = .ok (.iushr, 1) := by decide +kernel
theorem dJ6_bitCount_0f7a4_18 : decode cJ6_bitCount_0f7a4 18 = .ok (.ldc_w 266, 3) := by decide +kernel
theorem dJ6_bitCount_0f7a4_21 : decode cJ6_bitCount_0f7a4 21 = .ok (.iand, 1) := by decide +kernel
theorem dJ6_bitCount_0f7a4_22 : decode cJ6_bitCount_0f7a4 22 = .ok (.iadd, 1) := by decide +kernel
theorem dJ6_bitCount_0f7a4_23 : decode cJ6_bitCount_0f7a4 23 = .ok (.istore_n 0, 1) := by decide +kernel
theorem dJ6_bitCount_0f7a4_24 : decode cJ6_bitCount_0f7a4 24 = .ok (.iload_n 0, 1) := by decide +kernel
theorem dJ6_bitCount_0f7a4_25 : decode cJ6_bitCount_0f7a4 25 = .ok (.iload_n 0, 1) := by decide +kernel
theorem dJ6_bitCount_0f7a4_26 : decode cJ6_bitCount_0f7a4 26 = .ok (.iconst 4, 1) := by decide +kernel
theorem dJ6_bitCount_0f7a4_27 : decode cJ6_bitCount_0f7a4 27 = .ok (.iushr, 1) := by decide +kernel
theorem dJ6_bitCount_0f7a4_28 : decode cJ6_bitCount_0f7a4 28 = .ok (.iadd, 1) := by decide +kernel
theorem dJ6_bitCount_0f7a4_29 : decode cJ6_bitCount_0f7a4 29 = .ok (.ldc_w 267, 3) := by decide +kernel
theorem dJ6_bitCount_0f7a4_32 : decode cJ6_bitCount_0f7a4 32 = .ok (.iand, 1) := by decide +kernel
theorem dJ6_bitCount_0f7a4_33 : decode cJ6_bitCount_0f7a4 33 = .ok (.istore_n 0, 1) := by decide +kernel
theorem dJ6_bitCount_0f7a4_34 : decode cJ6_bitCount_0f7a4 34 = .ok (.iload_n 0, 1) := by decide +kernel
theorem dJ6_bitCount_0f7a4_35 : decode cJ6_bitCount_0f7a4 35 = .ok (.iload_n 0, 1) := by decide +kernel
theorem dJ6_bitCount_0f7a4_36 : decode cJ6_bitCount_0f7a4 36 = .ok (.bipush 8, 2) := by decide +kernel
theorem dJ6_bitCount_0f7a4_38 : decode cJ6_bitCount_0f7a4 38 = .ok (.iushr, 1) := by decide +kernel
theorem dJ6_bitCount_0f7a4_39 : decode cJ6_bitCount_0f7a4 39 = .ok (.iadd, 1) := by decide +kernel
theorem dJ6_bitCount_0f7a4_40 : decode cJ6_bitCount_0f7a4 40 = .ok (.istore_n 0, 1) := by decide +kernel
theorem dJ6_bitCount_0f7a4_41 : decode cJ6_bitCount_0f7a4 41 = .ok (.iload_n 0, 1) := by decide +kernel
theorem dJ6_bitCount_0f7a4_42 : decode cJ6_bitCount_0f7a4 42 = .ok (.iload_n 0, 1) := by decide +kernel
theorem dJ6_bitCount_0f7a4_43 : decode cJ6_bitCount_0f7a4 43 = .ok (.bipush 16, 2) := by decide +kernel
theorem dJ6_bitCount_0f7a4_45 : decode cJ6_bitCount_0f7a4 45 = .ok (.iushr, 1) := by decide +kernel
theorem dJ6_bitCount_0f7a4_46 : decode cJ6_bitCount_0f7a4 46 = .ok (.iadd, 1) := by decide +kernel
theorem dJ6_bitCount_0f7a4_47 : decode cJ6_bitCount_0f7a4 47 = .ok (.istore_n 0, 1) := by decide +kernel
theorem dJ6_bitCount_0f7a4_48 : decode cJ6_bitCount_0f7a4 48 = .ok (.iload_n 0, 1) := by decide +kernel
theorem dJ6_bitCount_0f7a4_49 : decode cJ6_bitCount_0f7a4 49 = .ok (.bipush 63, 2) := by decide +kernel
theorem dJ6_bitCount_0f7a4_51 : decode cJ6_bitCount_0f7a4 51 = .ok (.iand, 1) := by decide +kernel
theorem dJ6_bitCount_0f7a4_52 : decode cJ6_bitCount_0f7a4 52 = .ok (.ireturn, 1) := by decide +kernel
theorem dJ6_compare_7cf53_0 : decode cJ6_compare_7cf53 0 = .ok (.iload_n 0, 1) := by decide +kernel
theorem dJ6_compare_7cf53_1 : decode cJ6_compare_7cf53 1 = .ok (.iload_n 1, 1) := by decide +kernel
theorem dJ6_compare_7cf53_2 : decode cJ6_compare_7cf53 2 = .ok (.if_icmp .ge 7, 3) := by decide +kernel
theorem dJ6_compare_7cf53_5 : decode cJ6_compare_7cf53 5 = .ok (.iconst (-1), 1) := by decide +kernel
theorem dJ6_compare_7cf53_6 : decode cJ6_compare_7cf53 6 = .ok (.goto 13, 3) := by decide +kernel
theorem dJ6_compare_7cf53_9 : decode cJ6_compare_7cf53 9 = .ok (.iload_n 0, 1) := by decide +kernel
theorem dJ6_compare_7cf53_10 : decode cJ6_compare_7cf53 10 = .ok (.iload_n 1, 1) := by decide +kernel
theorem dJ6_compare_7cf53_11 : decode cJ6_compare_7cf53 11 = .ok (.if_icmp .ne 7, 3) := by decide +kernel
theorem dJ6_compare_7cf53_14 : decode cJ6_compare_7cf53 14 = .ok (.iconst 0, 1) := by decide +kernel
theorem dJ6_compare_7cf53_15 : decode cJ6_compare_7cf53 15 = .ok (.goto 4, 3) := by decide +kernel
theorem dJ6_compare_7cf53_18 : decode cJ6_compare_7cf53 18 = .ok (.iconst 1, 1) := by decide +kernel
theorem dJ6_compare_7cf53_19 : decode cJ6_compare_7cf53 19 = .ok (.ireturn, 1) := by decide +kernel
theorem dJ7_checkLength_df160_0 : decode cJ7_checkLength_df160 0 = .ok (.iload_n 1, 1) := by decide +kernel
theorem dJ7_checkLength_df160_1 : decode cJ7_checkLength_df160 1 = .ok (.iload_n 0, 1) := by decide +kernel
theorem dJ7_checkLength_df160_2 : decode cJ7_checkLength_df160 2 = .ok (.if_icmp .ge 35, 3) := by decide +kernel
theorem dJ7_checkLength_df160_5 : decode cJ7_checkLength_df160 5 = .ok (.new 43, 3) := by decide +kernel
theorem dJ7_checkLength_df160_8 : decode cJ7_checkLength_df160 8 = .ok (.dup, 1) := by decide +kernel
theorem dJ7_checkLength_df160_9 : decode cJ7_checkLength_df160 9 = .ok (.new 45, 3) := by decide +kernel
theorem dJ7_checkLength_df160_12 : decode cJ7_checkLength_df160 12 = .ok (.dup, 1) := by decide +kernel
theorem dJ7_checkLength_df160_13 : decode cJ7_checkLength_df160 13 = .ok (.invokespecial 47, 3) := by decide +kernel
theorem dJ7_checkLength_df160_16 : decode cJ7_checkLength_df160 16 = .ok (.iload_n 0, 1) := by decide +kernel
theorem dJ7_checkLength_df160_17 : decode cJ7_checkLength_df160 17 = .ok (.invokevirtual 54, 3) := by decide +kernel
theorem dJ7_checkLength_df160_20 : decode cJ7_checkLength_df160 20 = .ok (.ldc_w 337, 3) := by decide +kernel
theorem dJ7_checkLength_df160_23 : decode cJ7_checkLength_df160 23 = .ok (.invokevirtual 50, 3) := by decide +kernel
theorem dJ7_checkLength_df160_26 : decode cJ7_checkLength_df160 26 = .ok (.iload_n 1, 1) := by decide +kernel
theorem dJ7_checkLength_df160_27 : decode cJ7_checkLength_df160 27 = .ok (.invokevirtual 54, 3) := by decide +kernel
theorem dJ7_checkLength_df160_30 : decode cJ7_checkLength_df160 30 = .ok (.invokevirtual 61, 3) := by decide +kernel
theorem dJ7_checkLength_df160_33 : decode cJ7_checkLength_df160 33 = .ok (.invokespecial 65, 3) := by decide +kernel
theorem dJ7_checkLength_df160_36 : decode cJ7_checkLength_df160 36 = .ok (.athrow, 1) := by decide +kernel
theorem dJ7_checkLength_df160_37 : decode cJ7_checkLength_df160 37 = .ok (.return_, 1) := by decide +kernel
theorem dJ7_copyOfRangeByte_39247_0 : decode cJ7_copyOfRangeByte_39247 0 = .ok (.iload_n 1, 1) := by decide +kernel
theorem dJ7_copyOfRangeByte_39247_1 : decode cJ7_copyOfRangeByte_39247 1 = .ok (.iload_n 2, 1) := by decide +kernel
theorem dJ7_copyOfRangeByte_39247_2 : decode cJ7_copyOfRangeByte_39247 2 = .ok (.invokestatic 343, 3) := by decide +kernel
theorem dJ7_copyOfRangeByte_39247_5 : decode cJ7_copyOfRangeByte_39247 5 = .ok (.iload_n 2, 1) := by decide +kernel
theorem dJ7_copyOfRangeByte_39247_6 : decode cJ7_copyOfRangeByte_39247 6 = .ok (.iload_n 1, 1) := by decide +kernel
theorem dJ7_copyOfRangeByte_39247_7 : decode cJ7_copyOfRangeByte_39247 7 = .ok (.isub, 1) := by decide +kernel
theorem dJ7_copyOfRangeByte_39247_8 : decode cJ7_copyOfRangeByte_39247 8 = .ok (.istore_n 3, 1) := by decide +kernel
theorem dJ7_copyOfRangeByte_39247_9 : decode cJ7_copyOfRangeByte_39247 9 = .ok (.iload_n 3, 1) := by decide +kernel
theorem dJ7_copyOfRangeByte_39247_10 : decode cJ7_copyOfRangeByte_39247 10 = .ok (.newarray .byte, 2) := by decide +kernel
theorem dJ7_copyOfRangeByte_39247_12 : decode cJ7_copyOfRangeByte_39247 12 = .ok (.astore 4, 2) := by decide +kernel
theorem dJ7_copyOfRangeByte_39247_14 : decode cJ7_copyOfRangeByte_39247 14 = .ok (.aload_n 0, 1) := by decide +kernel
theorem dJ7_copyOfRangeByte_39247_15 : decode cJ7_copyOfRangeByte_39247 15 = .ok (.iload_n 1, 1) := by decide +kernel
theorem dJ7_copyOfRangeByte_39247_16 : decode cJ7_copyOfRangeByte_39247 16 = .ok (.aload 4, 2) := by decide +kernel
theorem dJ7_copyOfRangeByte_39247_18 : decode cJ7_copyOfRangeByte_39247 18 = .ok (.iconst 0, 1) := by decide +kernel
theorem dJ7_copyOfRangeByte_39247_19 : decode cJ7_copyOfRangeByte_39247 19 = .ok (.aload_n 0, 1) := by decide +kernel
theorem dJ7_copyOfRangeByte_39247_20 : decode cJ7_copyOfRangeByte_39247 20 = .ok (.arraylength, 1) := by decide +kernel
theorem dJ7_copyOfRangeByte_39247_21 : decode cJ7_copyOfRangeByte_39247 21 = .ok (.iload_n 1, 1) := by decide +kernel
theorem dJ7_copyOfRangeByte_39247_22 : decode cJ7_copyOfRangeByte_39247 22 = .ok (.isub, 1) := by decide +kernel
theorem dJ7_copyOfRangeByte_39247_23 : decode cJ7_copyOfRangeByte_39247 23 = .ok (.iload_n 3, 1) := by decide +kernel
theorem dJ7_copyOfRangeByte_39247_24 : decode cJ7_copyOfRangeByte_39247 24 = .ok (.invokestatic 304, 3) := by decide +kernel
theorem dJ7_copyOfRangeByte_39247_27 : decode cJ7_copyOfRangeByte_39247 27 = .ok (.invokestatic 150, 3) := by decide +kernel
theorem dJ7_copyOfRangeByte_39247_30 : decode cJ7_copyOfRangeByte_39247 30 = .ok (.aload 4, 2) := by decide +kernel
theorem dJ7_copyOfRangeByte_39247_32 : decode cJ7_copyOfRangeByte_39247 32 = .ok (.areturn, 1) := by decide +kernel
theorem dJ7_copyOfRange_39247_0 : decode cJ7_copyOfRange_39247 0 = .ok (.iload_n 1, 1) := by decide +kernel
theorem dJ7_copyOfRange_39247_1 : decode cJ7_copyOfRange_39247 1 = .ok (.ifCond .ne 9, 3) := by decide +kernel
theorem dJ7_copyOfRange_39247_4 : decode cJ7_copyOfRange_39247 4 = .ok (.iload_n 2, 1) := by decide +kernel
theorem dJ7_copyOfRange_39247_5 : decode cJ7_copyOfRange_39247 5 = .ok (.aload_n 0, 1) := by decide +kernel
theorem dJ7_copyOfRange_39247_6 : decode cJ7_copyOfRange_39247 6 = .ok (.arraylength, 1) := by decide +kernel
theorem dJ7_copyOfRange_39247_7 : decode cJ7_copyOfRange_39247 7 = .ok (.if_icmp .eq 10, 3) := by decide +kernel
theorem dJ7_copyOfRange_39247_10 : decode cJ7_copyOfRange_39247 10 = .ok (.aload_n 0, 1) := by decide +kernel
theorem dJ7_copyOfRange_39247_11 : decode cJ7_copyOfRange_39247 11 = .ok (.iload_n 1, 1) := by decide +kernel
theorem dJ7_copyOfRange_39247_12 : decode cJ7_copyOfRange_39247 12 = .ok (.iload_n 2, 1) := by decide +kernel
theorem dJ7_copyOfRange_39247_13 : decode cJ7_copyOfRange_39247 13 = .ok (.invokestatic 339, 3) := by decide +kernel
theorem dJ7_copyOfRange_39247_16 : decode cJ7_copyOfRange_39247 16 = .ok (.areturn, 1) := by decide +kernel
theorem dJ7_copyOfRange_39247_17 : decode cJ7_copyOfRange_39247 17 = .ok (.aload_n 0, 1) := by decide +kernel
theorem dJ7_copyOfRange_39247_18 : decode cJ7_copyOfRange_39247 18 = .ok (.invokevirtual 310, 3) := by decide +kernel
theorem dJ7_copyOfRange_39247_21 : decode cJ7_copyOfRange_39247 21 = .ok (.checkcast 311, 3) := by decide +kernel
theorem dJ7_copyOfRange_39247_24 : decode cJ7_copyOfRange_39247 24 = .ok (.areturn, 1) := by decide +kernel
theorem dJ7_fill_d0a16_0 : decode cJ7_fill_d0a16 0 = .ok (.iconst 0, 1) := by decide +kernel
theorem dJ7_fill_d0a16_1 : decode cJ7_fill_d0a16 1 = .ok (.istore_n 3, 1) := by decide +kernel
theorem dJ7_fill_d0a16_2 : decode cJ7_fill_d0a16 2 = .ok (.aload_n 0, 1) := by decide +kernel
theorem dJ7_fill_d0a16_3 : decode cJ7_fill_d0a16 3 = .ok (.arraylength, 1) := by decide +kernel
theorem dJ7_fill_d0a16_4 : decode cJ7_fill_d0a16 4 = .ok (.istore 4, 2) := by decide +kernel
theorem dJ7_fill_d0a16_6 : decode cJ7_fill_d0a16 6 = .ok (.iload_n 3, 1) := by decide +kernel
theorem dJ7_fill_d0a16_7 : decode cJ7_fill_d0a16 7 = .ok (.iload 4, 2) := by decide +kernel
theorem dJ7_fill_d0a16_9 : decode cJ7_fill_d0a16 9 = .ok (.if_icmp .ge 13, 3) := by decide +kernel
theorem dJ7_fill_d0a16_12 : decode cJ7_fill_d0a16 12 = .ok (.aload_n 0, 1) := by decide +kernel
theorem dJ7_fill_d0a16_13 : decode cJ7_fill_d0a16 13 = .ok (.iload_n 3, 1) := by decide +kernel
theorem dJ7_fill_d0a16_14 : decode cJ7_fill_d0a16 14 = .ok (.lload_n 1, 1) := by decide +kernel
theorem dJ7_fill_d0a16_15 : decode cJ7_fill_d0a16 15 = .ok (.lastore, 1) := by decide +kernel
theorem dJ7_fill_d0a16_16 : decode cJ7_fill_d0a16 16 = .ok (.iinc 3 1, 3) := by decide +kernel
theorem dJ7_fill_d0a16_19 : decode cJ7_fill_d0a16 19 = .ok (.goto (-13), 3) := by decide +kernel
theorem dJ7_fill_d0a16_22 : decode cJ7_fill_d0a16 22 = .ok (.return_, 1) := by decide +kernel
theorem dX1_byWords_0 : decode cX1_byWords 0 = .ok (.aload_n 0, 1) := by decide +kernel
theorem dX1_byWords_1 : decode cX1_byWords 1 = .ok (.iconst 1, 1) := by decide +kernel
theorem dX1_byWords_2 : decode cX1_byWords 2 = .ok (.iconst 0, 1) := by decide +kernel
theorem dX1_byWords_3 : decode cX1_byWords 3 = .ok (.invokevirtual 32, 3) := by decide +kernel
theorem dX1_byWords_6 : decode cX1_byWords 6 = .ok (.iconst 1, 1) := by decide +kernel
theorem dX1_byWords_7 : decode cX1_byWords 7 = .ok (.if_icmp .ne 17, 3) := by decide +kernel
theorem dX1_byWords_10 : decode cX1_byWords 10 = .ok (.aload_n 0, 1) := by decide +kernel
theorem dX1_byWords_11 : decode cX1_byWords 11 = .ok (.iconst 1, 1) := by decide +kernel
theorem dX1_byWords_12 : decode cX1_byWords 12 = .ok (.iconst 1, 1) := by decide +kernel
theorem dX1_byWords_13 : decode cX1_byWords 13 = .ok (.invokevirtual 32, 3) := by decide +kernel
theorem dX1_byWords_16 : decode cX1_byWords 16 = .ok (.iconst 1, 1) := by decide +kernel
theorem dX1_byWords_17 : decode cX1_byWords 17 = .ok (.if_icmp .ne 7, 3) := by decide +kernel
theorem dX1_byWords_20 : decode cX1_byWords 20 = .ok (.iconst 1, 1) := by decide +kernel
theorem dX1_byWords_21 : decode cX1_byWords 21 = .ok (.goto 4, 3) := by decide +kernel
theorem dX1_byWords_24 : decode cX1_byWords 24 = .ok (.iconst 0, 1) := by decide +kernel
theorem dX1_byWords_25 : decode cX1_byWords 25 = .ok (.istore_n 2, 1) := by decide +kernel
theorem dX1_byWords_26 : decode cX1_byWords 26 = .ok (.iload_n 2, 1) := by decide +kernel
theorem dX1_byWords_27 : decode cX1_byWords 27 = .ok (.ifCond .eq 14, 3) := by decide +kernel
theorem dX1_byWords_30 : decode cX1_byWords 30 = .ok (.iload_n 1, 1) := by decide +kernel
theorem dX1_byWords_31 : decode cX1_byWords 31 = .ok (.iconst 2, 1) := by decide +kernel
theorem dX1_byWords_32 : decode cX1_byWords 32 = .ok (.if_icmp .ge 9, 3) := by decide +kernel
theorem dX1_byWords_35 : decode cX1_byWords 35 = .ok (.iconst 1, 1) := by decide +kernel
theorem dX1_byWords_36 : decode cX1_byWords 36 = .ok (.iload_n 1, 1) := by decide +kernel
theorem dX1_byWords_37 : decode cX1_byWords 37 = .ok (.isub, 1) := by decide +kernel
theorem dX1_byWords_38 : decode cX1_byWords 38 = .ok (.goto 4, 3) := by decide +kernel
theorem dX1_byWords_41 : decode cX1_byWords 41 = .ok (.iload_n 1, 1) := by decide +kernel
theorem dX1_byWords_42 : decode cX1_byWords 42 = .ok (.ireturn, 1) := by decide +kernel
theorem dX1_compareWords_0 : decode cX1_compareWords 0 = .ok (.aload_n 0, 1) := by decide +kernel
theorem dX1_compareWords_1 : decode cX1_compareWords 1 = .ok (.getfield 18, 3) := by decide +kernel
theorem dX1_compareWords_4 : decode cX1_compareWords 4 = .ok (.arraylength, 1) := by decide +kernel
theorem dX1_compareWords_5 : decode cX1_compareWords 5 = .ok (.aload_n 1, 1) := by decide +kernel
theorem dX1_compareWords_6 : decode cX1_compareWords 6 = .ok (.getfield 18, 3) := by decide +kernel
theorem dX1_compareWords_9 : decode cX1_compareWords 9 = .ok (.arraylength, 1) := by decide +kernel
theorem dX1_compareWords_10 : decode cX1_compareWords 10 = .ok (.if_icmp .eq 17, 3) := by decide +kernel
theorem dX1_compareWords_13 : decode cX1_compareWords 13 = .ok (.aload_n 0, 1) := by decide +kernel
theorem dX1_compareWords_14 : decode cX1_compareWords 14 = .ok (.getfield 18, 3) := by decide +kernel
theorem dX1_compareWords_17 : decode cX1_compareWords 17 = .ok (.arraylength, 1) := by decide +kernel
theorem dX1_compareWords_18 : decode cX1_compareWords 18 = .ok (.aload_n 1, 1) := by decide +kernel
theorem dX1_compareWords_19 : decode cX1_compareWords 19 = .ok (.getfield 18, 3) := by decide +kernel
theorem dX1_compareWords_22 : decode cX1_compareWords 22 = .ok (.arraylength, 1) := by decide +kernel
theorem dX1_compareWords_23 : decode cX1_compareWords 23 = .ok (.invokestatic 44, 3) := by decide +kernel
theorem dX1_compareWords_26 : decode cX1_compareWords 26 = .ok (.ireturn, 1) := by decide +kernel
theorem dX1_compareWords_27 : decode cX1_compareWords 27 = .ok (.iconst 0, 1) := by decide +kernel
theorem dX1_compareWords_28 : decode cX1_compareWords 28 = .ok (.istore_n 2, 1) := by decide +kernel
theorem dX1_compareWords_29 : decode cX1_compareWords 29 = .ok (.iload_n 2, 1) := by decide +kernel
theorem dX1_compareWords_30 : decode cX1_compareWords 30 = .ok (.aload_n 0, 1) := by decide +kernel
theorem dX1_compareWords_31 : decode cX1_compareWords 31 = .ok (.getfield 18, 3) := by decide +kernel
theorem dX1_compareWords_34 : decode cX1_compareWords 34 = .ok (.arraylength, 1) := by decide +kernel
theorem dX1_compareWords_35 : decode cX1_compareWords 35 = .ok (.if_icmp .ge 49, 3) := by decide +kernel
theorem dX1_compareWords_38 : decode cX1_compareWords 38 = .ok (.iload_n 2, 1) := by decide +kernel
theorem dX1_compareWords_39 : decode cX1_compareWords 39 = .ok (.aload_n 1, 1) := by decide +kernel
theorem dX1_compareWords_40 : decode cX1_compareWords 40 = .ok (.getfield 18, 3) := by decide +kernel
theorem dX1_compareWords_43 : decode cX1_compareWords 43 = .ok (.arraylength, 1) := by decide +kernel
theorem dX1_compareWords_44 : decode cX1_compareWords 44 = .ok (.if_icmp .ge 40, 3) := by decide +kernel
theorem dX1_compareWords_47 : decode cX1_compareWords 47 = .ok (.aload_n 0, 1) := by decide +kernel
theorem dX1_compareWords_48 : decode cX1_compareWords 48 = .ok (.getfield 18, 3) := by decide +kernel
theorem dX1_compareWords_51 : decode cX1_compareWords 51 = .ok (.iload_n 2, 1) := by decide +kernel
theorem dX1_compareWords_52 : decode cX1_compareWords 52 = .ok (.baload, 1) := by decide +kernel
theorem dX1_compareWords_53 : decode cX1_compareWords 53 = .ok (.aload_n 1, 1) := by decide +kernel
theorem dX1_compareWords_54 : decode cX1_compareWords 54 = .ok (.getfield 18, 3) := by decide +kernel
theorem dX1_compareWords_57 : decode cX1_compareWords 57 = .ok (.iload_n 2, 1) := by decide +kernel
theorem dX1_compareWords_58 : decode cX1_compareWords 58 = .ok (.baload, 1) := by decide +kernel
theorem dX1_compareWords_59 : decode cX1_compareWords 59 = .ok (.if_icmp .eq 19, 3) := by decide +kernel
theorem dX1_compareWords_62 : decode cX1_compareWords 62 = .ok (.aload_n 0, 1) := by decide +kernel
theorem dX1_compareWords_63 : decode cX1_compareWords 63 = .ok (.getfield 18, 3) := by decide +kernel
theorem dX1_compareWords_66 : decode cX1_compareWords 66 = .ok (.iload_n 2, 1) := by decide +kernel
theorem dX1_compareWords_67 : decode cX1_compareWords 67 = .ok (.baload, 1) := by decide +kernel
theorem dX1_compareWords_68 : decode cX1_compareWords 68 = .ok (.aload_n 1, 1) := by decide +kernel
theorem dX1_compareWords_69 : decode cX1_compareWords 69 = .ok (.getfield 18, 3) := by decide +kernel
theorem dX1_compareWords_72 : decode cX1_compareWords 72 = .ok (.iload_n 2, 1) := by decide +kernel
theorem dX1_compareWords_73 : decode cX1_compareWords 73 = .ok (.baload, 1) := by decide +kernel
theorem dX1_compareWords_74 : decode cX1_compareWords 74 = .ok (.invokestatic 44, 3) := by decide +kernel
theorem dX1_compareWords_77 : decode cX1_compareWords 77 = .ok (.ireturn, 1) := by decide +kernel
theorem dX1_compareWords_78 : decode cX1_compareWords 78 = .ok (.iinc 2 1, 3) := by decide +kernel
theorem dX1_compareWords_81 : decode cX1_compareWords 81 = .ok (.goto (-52), 3) := by decide +kernel
theorem dX1_compareWords_84 : decode cX1_compareWords 84 = .ok (.iconst 0, 1) := by decide +kernel
theorem dX1_compareWords_85 : decode cX1_compareWords 85 = .ok (.ireturn, 1) := by decide +kernel
theorem dX1_farHeap_0 : decode cX1_farHeap 0 = .ok (.bipush 11, 2) := by decide +kernel
theorem dX1_farHeap_2 : decode cX1_farHeap 2 = .ok (.newarray .int, 2) := by decide +kernel
theorem dX1_farHeap_4 : decode cX1_farHeap 4 = .ok (.astore_n 0, 1) := by decide +kernel
theorem dX1_farHeap_5 : decode cX1_farHeap 5 = .ok (.iconst 0, 1) := by decide +kernel
theorem dX1_farHeap_6 : decode cX1_farHeap 6 = .ok (.istore_n 1, 1) := by decide +kernel
theorem dX1_farHeap_7 : decode cX1_farHeap 7 = .ok (.iload_n 1, 1) := by decide +kernel
theorem dX1_farHeap_8 : decode cX1_farHeap 8 = .ok (.aload_n 0, 1) := by decide +kernel
theorem dX1_farHeap_9 : decode cX1_farHeap 9 = .ok (.arraylength, 1) := by decide +kernel
theorem dX1_farHeap_10 : decode cX1_farHeap 10 = .ok (.if_icmp .ge 17, 3) := by decide +kernel
theorem dX1_farHeap_13 : decode cX1_farHeap 13 = .ok (.aload_n 0, 1) := by decide +kernel
theorem dX1_farHeap_14 : decode cX1_farHeap 14 = .ok (.iload_n 1, 1) := by decide +kernel
theorem dX1_farHeap_15 : decode cX1_farHeap 15 = .ok (.iconst 1, 1) := by decide +kernel
theorem dX1_farHeap_16 : decode cX1_farHeap 16 = .ok (.iload_n 1, 1) := by decide +kernel
theorem dX1_farHeap_17 : decode cX1_farHeap 17 = .ok (.ishl, 1) := by decide +kernel
theorem dX1_farHeap_18 : decode cX1_farHeap 18 = .ok (.iconst 1, 1) := by decide +kernel
theorem dX1_farHeap_19 : decode cX1_farHeap 19 = .ok (.isub, 1) := by decide +kernel
theorem dX1_farHeap_20 : decode cX1_farHeap 20 = .ok (.iastore, 1) := by decide +kernel
theorem dX1_farHeap_21 : decode cX1_farHeap 21 = .ok (.iinc 1 1, 3) := by decide +kernel
theorem dX1_farHeap_24 : decode cX1_farHeap 24 = .ok (.goto (-17), 3) := by decide +kernel
theorem dX1_farHeap_27 : decode cX1_farHeap 27 = .ok (.new 10, 3) := by decide +kernel
theorem dX1_farHeap_30 : decode cX1_farHeap 30 = .ok (.dup, 1) := by decide +kernel
theorem dX1_farHeap_31 : decode cX1_farHeap 31 = .ok (.aload_n 0, 1) := by decide +kernel
theorem dX1_farHeap_32 : decode cX1_farHeap 32 = .ok (.aload_n 0, 1) := by decide +kernel
theorem dX1_farHeap_33 : decode cX1_farHeap 33 = .ok (.iconst 3, 1) := by decide +kernel
theorem dX1_farHeap_34 : decode cX1_farHeap 34 = .ok (.newarray .byte, 2) := by decide +kernel
theorem dX1_farHeap_36 : decode cX1_farHeap 36 = .ok (.dup, 1) := by decide +kernel
theorem dX1_farHeap_37 : decode cX1_farHeap 37 = .ok (.iconst 0, 1) := by decide +kernel
theorem dX1_farHeap_38 : decode cX1_farHeap 38 = .ok (.bipush 42, 2) := by decide +kernel
theorem dX1_farHeap_40 : decode cX1_farHeap 40 = .ok (.bastore, 1) := by decide +kernel
theorem dX1_farHeap_41 : decode cX1_farHeap 41 = .ok (.dup, 1) := by decide +kernel
theorem dX1_farHeap_42 : decode cX1_farHeap 42 = .ok (.iconst 1, 1) := by decide +kernel
theorem dX1_farHeap_43 : decode cX1_farHeap 43 = .ok (.bipush 49, 2) := by decide +kernel
theorem dX1_farHeap_45 : decode cX1_farHeap 45 = .ok (.bastore, 1) := by decide +kernel
theorem dX1_farHeap_46 : decode cX1_farHeap 46 = .ok (.dup, 1) := by decide +kernel
theorem dX1_farHeap_47 : decode cX1_farHeap 47 = .ok (.iconst 2, 1) := by decide +kernel
theorem dX1_farHeap_48 : decode cX1_farHeap 48 = .ok (.bipush 48, 2) := by decide +kernel
theorem dX1_farHeap_50 : decode cX1_farHeap 50 = .ok (.bastore, 1) := by decide +kernel
theorem dX1_farHeap_51 : decode cX1_farHeap 51 = .ok (.bipush 10, 2) := by decide +kernel
theorem dX1_farHeap_53 : decode cX1_farHeap 53 = .ok (.bipush 10, 2) := by decide +kernel
theorem dX1_farHeap_55 : decode cX1_farHeap 55 = .ok (.invokespecial 29, 3) := by decide +kernel
theorem dX1_farHeap_58 : decode cX1_farHeap 58 = .ok (.areturn, 1) := by decide +kernel
theorem dX1_init_0 : decode cX1_init 0 = .ok (.aload_n 0, 1) := by decide +kernel
theorem dX1_init_1 : decode cX1_init 1 = .ok (.invokespecial 3, 3) := by decide +kernel
theorem dX1_init_4 : decode cX1_init 4 = .ok (.aload_n 0, 1) := by decide +kernel
theorem dX1_init_5 : decode cX1_init 5 = .ok (.aload_n 1, 1) := by decide +kernel
theorem dX1_init_6 : decode cX1_init 6 = .ok (.putfield 9, 3) := by decide +kernel
theorem dX1_init_9 : decode cX1_init 9 = .ok (.aload_n 0, 1) := by decide +kernel
theorem dX1_init_10 : decode cX1_init 10 = .ok (.aload_n 2, 1) := by decide +kernel
theorem dX1_init_11 : decode cX1_init 11 = .ok (.putfield 15, 3) := by decide +kernel
theorem dX1_init_14 : decode cX1_init 14 = .ok (.aload_n 0, 1) := by decide +kernel
theorem dX1_init_15 : decode cX1_init 15 = .ok (.aload_n 3, 1) := by decide +kernel
theorem dX1_init_16 : decode cX1_init 16 = .ok (.putfield 18, 3) := by decide +kernel
theorem dX1_init_19 : decode cX1_init 19 = .ok (.aload_n 0, 1) := by decide +kernel
theorem dX1_init_20 : decode cX1_init 20 = .ok (.iload 4, 2) := by decide +kernel
theorem dX1_init_22 : decode cX1_init 22 = .ok (.putfield 22, 3) := by decide +kernel
theorem dX1_init_25 : decode cX1_init 25 = .ok (.aload_n 0, 1) := by decide +kernel
theorem dX1_init_26 : decode cX1_init 26 = .ok (.iload 5, 2) := by decide +kernel
theorem dX1_init_28 : decode cX1_init 28 = .ok (.putfield 26, 3) := by decide +kernel
theorem dX1_init_31 : decode cX1_init 31 = .ok (.return_, 1) := by decide +kernel
theorem dX1_isInteger_0 : decode cX1_isInteger 0 = .ok (.aload_n 0, 1) := by decide +kernel
theorem dX1_isInteger_1 : decode cX1_isInteger 1 = .ok (.aload_n 0, 1) := by decide +kernel
theorem dX1_isInteger_2 : decode cX1_isInteger 2 = .ok (.invokevirtual 40, 3) := by decide +kernel
theorem dX1_isInteger_5 : decode cX1_isInteger 5 = .ok (.iconst 0, 1) := by decide +kernel
theorem dX1_isInteger_6 : decode cX1_isInteger 6 = .ok (.invokevirtual 32, 3) := by decide +kernel
theorem dX1_isInteger_9 : decode cX1_isInteger 9 = .ok (.ifCond .eq 15, 3) := by decide +kernel
theorem dX1_isInteger_12 : decode cX1_isInteger 12 = .ok (.aload_n 0, 1) := by decide +kernel
theorem dX1_isInteger_13 : decode cX1_isInteger 13 = .ok (.aload_n 0, 1) := by decide +kernel
theorem dX1_isInteger_14 : decode cX1_isInteger 14 = .ok (.invokevirtual 40, 3) := by decide +kernel
theorem dX1_isInteger_17 : decode cX1_isInteger 17 = .ok (.iconst 1, 1) := by decide +kernel
theorem dX1_isInteger_18 : decode cX1_isInteger 18 = .ok (.invokevirtual 32, 3) := by decide +kernel
theorem dX1_isInteger_21 : decode cX1_isInteger 21 = .ok (.ifCond .ne 7, 3) := by decide +kernel
theorem dX1_isInteger_24 : decode cX1_isInteger 24 = .ok (.iconst 1, 1) := by decide +kernel
theorem dX1_isInteger_25 : decode cX1_isInteger 25 = .ok (.goto 4, 3) := by decide +kernel
theorem dX1_isInteger_28 : decode cX1_isInteger 28 = .ok (.iconst 0, 1) := by decide +kernel
theorem dX1_isInteger_29 : decode cX1_isInteger 29 = .ok (.ireturn, 1) := by decide +kernel
theorem dX1_isSmall_0 : decode cX1_isSmall 0 = .ok (.iconst 0, 1) := by decide +kernel
theorem dX1_isSmall_1 : decode cX1_isSmall 1 = .ok (.istore_n 1, 1) := by decide +kernel
theorem dX1_isSmall_2 : decode cX1_isSmall 2 = .ok (.iload_n 1, 1) := by decide +kernel
theorem dX1_isSmall_3 : decode cX1_isSmall 3 = .ok (.aload_n 0, 1) := by decide +kernel
theorem dX1_isSmall_4 : decode cX1_isSmall 4 = .ok (.getfield 9, 3) := by decide +kernel
theorem dX1_isSmall_7 : decode cX1_isSmall 7 = .ok (.arraylength, 1) := by decide +kernel
theorem dX1_isSmall_8 : decode cX1_isSmall 8 = .ok (.if_icmp .ge 42, 3) := by decide +kernel
theorem dX1_isSmall_11 : decode cX1_isSmall 11 = .ok (.aload_n 0, 1) := by decide +kernel
theorem dX1_isSmall_12 : decode cX1_isSmall 12 = .ok (.iload_n 1, 1) := by decide +kernel
theorem dX1_isSmall_13 : decode cX1_isSmall 13 = .ok (.iconst 0, 1) := by decide +kernel
theorem dX1_isSmall_14 : decode cX1_isSmall 14 = .ok (.invokevirtual 32, 3) := by decide +kernel
theorem dX1_isSmall_17 : decode cX1_isSmall 17 = .ok (.ifCond .ne 7, 3) := by decide +kernel
theorem dX1_isSmall_20 : decode cX1_isSmall 20 = .ok (.iconst 1, 1) := by decide +kernel
theorem dX1_isSmall_21 : decode cX1_isSmall 21 = .ok (.goto 4, 3) := by decide +kernel
theorem dX1_isSmall_24 : decode cX1_isSmall 24 = .ok (.iconst 0, 1) := by decide +kernel
theorem dX1_isSmall_25 : decode cX1_isSmall 25 = .ok (.aload_n 0, 1) := by decide +kernel
theorem dX1_isSmall_26 : decode cX1_isSmall 26 = .ok (.iload_n 1, 1) := by decide +kernel
theorem dX1_isSmall_27 : decode cX1_isSmall 27 = .ok (.iconst 1, 1) := by decide +kernel
theorem dX1_isSmall_28 : decode cX1_isSmall 28 = .ok (.invokevirtual 32, 3) := by decide +kernel
theorem dX1_isSmall_31 : decode cX1_isSmall 31 = .ok (.ifCond .ne 7, 3) := by decide +kernel
theorem dX1_isSmall_34 : decode cX1_isSmall 34 = .ok (.iconst 1, 1) := by decide +kernel
theorem dX1_isSmall_35 : decode cX1_isSmall 35 = .ok (.goto 4, 3) := by decide +kernel
theorem dX1_isSmall_38 : decode cX1_isSmall 38 = .ok (.iconst 0, 1) := by decide +kernel
theorem dX1_isSmall_39 : decode cX1_isSmall 39 = .ok (.if_icmp .eq 5, 3) := by decide +kernel
theorem dX1_isSmall_42 : decode cX1_isSmall 42 = .ok (.iconst 0, 1) := by decide +kernel
theorem dX1_isSmall_43 : decode cX1_isSmall 43 = .ok (.ireturn, 1) := by decide +kernel
theorem dX1_isSmall_44 : decode cX1_isSmall 44 = .ok (.iinc 1 1, 3) := by decide +kernel
theorem dX1_isSmall_47 : decode cX1_isSmall 47 = .ok (.goto (-45), 3) := by decide +kernel
theorem dX1_isSmall_50 : decode cX1_isSmall 50 = .ok (.iconst 1, 1) := by decide +kernel
theorem dX1_isSmall_51 : decode cX1_isSmall 51 = .ok (.ireturn, 1) := by decide +kernel
theorem dX1_numbered_0 : decode cX1_numbered 0 = .ok (.aload_n 0, 1) := by decide +kernel
theorem dX1_numbered_1 : decode cX1_numbered 1 = .ok (.iload_n 1, 1) := by decide +kernel
theorem dX1_numbered_2 : decode cX1_numbered 2 = .ok (.iload_n 2, 1) := by decide +kernel
theorem dX1_numbered_3 : decode cX1_numbered 3 = .ok (.invokevirtual 32, 3) := by decide +kernel
theorem dX1_numbered_6 : decode cX1_numbered 6 = .ok (.istore 4, 2) := by decide +kernel
theorem dX1_numbered_8 : decode cX1_numbered 8 = .ok (.iconst 0, 1) := by decide +kernel
theorem dX1_numbered_9 : decode cX1_numbered 9 = .ok (.istore 5, 2) := by decide +kernel
theorem dX1_numbered_11 : decode cX1_numbered 11 = .ok (.iconst 0, 1) := by decide +kernel
theorem dX1_numbered_12 : decode cX1_numbered 12 = .ok (.istore 6, 2) := by decide +kernel
theorem dX1_numbered_14 : decode cX1_numbered 14 = .ok (.iload 6, 2) := by decide +kernel
theorem dX1_numbered_16 : decode cX1_numbered 16 = .ok (.aload_n 0, 1) := by decide +kernel
theorem dX1_numbered_17 : decode cX1_numbered 17 = .ok (.getfield 9, 3) := by decide +kernel
theorem dX1_numbered_20 : decode cX1_numbered 20 = .ok (.arraylength, 1) := by decide +kernel
theorem dX1_numbered_21 : decode cX1_numbered 21 = .ok (.if_icmp .ge 39, 3) := by decide +kernel
theorem dX1_numbered_24 : decode cX1_numbered 24 = .ok (.aload_n 0, 1) := by decide +kernel
theorem dX1_numbered_25 : decode cX1_numbered 25 = .ok (.iload 6, 2) := by decide +kernel
theorem dX1_numbered_27 : decode cX1_numbered 27 = .ok (.invokevirtual 36, 3) := by decide +kernel
theorem dX1_numbered_30 : decode cX1_numbered 30 = .ok (.istore 7, 2) := by decide +kernel
theorem dX1_numbered_32 : decode cX1_numbered 32 = .ok (.iload 4, 2) := by decide +kernel
theorem dX1_numbered_34 : decode cX1_numbered 34 = .ok (.iload 7, 2) := by decide +kernel
theorem dX1_numbered_36 : decode cX1_numbered 36 = .ok (.ishr, 1) := by decide +kernel
theorem dX1_numbered_37 : decode cX1_numbered 37 = .ok (.iconst 1, 1) := by decide +kernel
theorem dX1_numbered_38 : decode cX1_numbered 38 = .ok (.iand, 1) := by decide +kernel
theorem dX1_numbered_39 : decode cX1_numbered 39 = .ok (.ifCond .eq 15, 3) := by decide +kernel
theorem dX1_numbered_42 : decode cX1_numbered 42 = .ok (.iload 5, 2) := by decide +kernel
theorem dX1_numbered_44 : decode cX1_numbered 44 = .ok (.iload_n 3, 1) := by decide +kernel
theorem dX1_numbered_45 : decode cX1_numbered 45 = .ok (.if_icmp .ne 6, 3) := by decide +kernel
theorem dX1_numbered_48 : decode cX1_numbered 48 = .ok (.iload 7, 2) := by decide +kernel
theorem dX1_numbered_50 : decode cX1_numbered 50 = .ok (.ireturn, 1) := by decide +kernel
theorem dX1_numbered_51 : decode cX1_numbered 51 = .ok (.iinc 5 1, 3) := by decide +kernel
theorem dX1_numbered_54 : decode cX1_numbered 54 = .ok (.iinc 6 1, 3) := by decide +kernel
theorem dX1_numbered_57 : decode cX1_numbered 57 = .ok (.goto (-43), 3) := by decide +kernel
theorem dX1_numbered_60 : decode cX1_numbered 60 = .ok (.iconst (-1), 1) := by decide +kernel
theorem dX1_numbered_61 : decode cX1_numbered 61 = .ok (.ireturn, 1) := by decide +kernel
theorem dX1_options_0 : decode cX1_options 0 = .ok (.iload_n 2, 1) := by decide +kernel
theorem dX1_options_1 : decode cX1_options 1 = .ok (.ifCond .ne 10, 3) := by decide +kernel
theorem dX1_options_4 : decode cX1_options 4 = .ok (.aload_n 0, 1) := by decide +kernel
theorem dX1_options_5 : decode cX1_options 5 = .ok (.getfield 9, 3) := by decide +kernel
theorem dX1_options_8 : decode cX1_options 8 = .ok (.goto 7, 3) := by decide +kernel
theorem dX1_options_11 : decode cX1_options 11 = .ok (.aload_n 0, 1) := by decide +kernel
theorem dX1_options_12 : decode cX1_options 12 = .ok (.getfield 15, 3) := by decide +kernel
theorem dX1_options_15 : decode cX1_options 15 = .ok (.astore_n 3, 1) := by decide +kernel
theorem dX1_options_16 : decode cX1_options 16 = .ok (.iload_n 1, 1) := by decide +kernel
theorem dX1_options_17 : decode cX1_options 17 = .ok (.ifCond .lt 15, 3) := by decide +kernel
theorem dX1_options_20 : decode cX1_options 20 = .ok (.iload_n 1, 1) := by decide +kernel
theorem dX1_options_21 : decode cX1_options 21 = .ok (.aload_n 3, 1) := by decide +kernel
theorem dX1_options_22 : decode cX1_options 22 = .ok (.arraylength, 1) := by decide +kernel
theorem dX1_options_23 : decode cX1_options 23 = .ok (.if_icmp .ge 9, 3) := by decide +kernel
theorem dX1_options_26 : decode cX1_options 26 = .ok (.aload_n 3, 1) := by decide +kernel
theorem dX1_options_27 : decode cX1_options 27 = .ok (.iload_n 1, 1) := by decide +kernel
theorem dX1_options_28 : decode cX1_options 28 = .ok (.iaload, 1) := by decide +kernel
theorem dX1_options_29 : decode cX1_options 29 = .ok (.goto 4, 3) := by decide +kernel
theorem dX1_options_32 : decode cX1_options 32 = .ok (.iconst 0, 1) := by decide +kernel
theorem dX1_options_33 : decode cX1_options 33 = .ok (.ireturn, 1) := by decide +kernel
theorem dX1_top_0 : decode cX1_top 0 = .ok (.aload_n 0, 1) := by decide +kernel
theorem dX1_top_1 : decode cX1_top 1 = .ok (.getfield 9, 3) := by decide +kernel
theorem dX1_top_4 : decode cX1_top 4 = .ok (.arraylength, 1) := by decide +kernel
theorem dX1_top_5 : decode cX1_top 5 = .ok (.iconst 1, 1) := by decide +kernel
theorem dX1_top_6 : decode cX1_top 6 = .ok (.isub, 1) := by decide +kernel
theorem dX1_top_7 : decode cX1_top 7 = .ok (.ireturn, 1) := by decide +kernel
theorem dX1_width_0 : decode cX1_width 0 = .ok (.aload_n 0, 1) := by decide +kernel
theorem dX1_width_1 : decode cX1_width 1 = .ok (.getfield 9, 3) := by decide +kernel
theorem dX1_width_4 : decode cX1_width 4 = .ok (.arraylength, 1) := by decide +kernel
theorem dX1_width_5 : decode cX1_width 5 = .ok (.ireturn, 1) := by decide +kernel
theorem dX1_zero_0 : decode cX1_zero 0 = .ok (.new 10, 3) := by decide +kernel
theorem dX1_zero_3 : decode cX1_zero 3 = .ok (.dup, 1) := by decide +kernel
theorem dX1_zero_4 : decode cX1_zero 4 = .ok (.iconst 1, 1) := by decide +kernel
theorem dX1_zero_5 : decode cX1_zero 5 = .ok (.newarray .int, 2) := by decide +kernel
theorem dX1_zero_7 : decode cX1_zero 7 = .ok (.iconst 1, 1) := by decide +kernel
theorem dX1_zero_8 : decode cX1_zero 8 = .ok (.newarray .int, 2) := by decide +kernel
theorem dX1_zero_10 : decode cX1_zero 10 = .ok (.iconst 1, 1) := by decide +kernel
theorem dX1_zero_11 : decode cX1_zero 11 = .ok (.newarray .byte, 2) := by decide +kernel
theorem dX1_zero_13 : decode cX1_zero 13 = .ok (.dup, 1) := by decide +kernel
theorem dX1_zero_14 : decode cX1_zero 14 = .ok (.iconst 0, 1) := by decide +kernel
theorem dX1_zero_15 : decode cX1_zero 15 = .ok (.bipush 48, 2) := by decide +kernel
theorem dX1_zero_17 : decode cX1_zero 17 = .ok (.bastore, 1) := by decide +kernel
theorem dX1_zero_18 : decode cX1_zero 18 = .ok (.iconst 0, 1) := by decide +kernel
theorem dX1_zero_19 : decode cX1_zero 19 = .ok (.iconst 0, 1) := by decide +kernel
theorem dX1_zero_20 : decode cX1_zero 20 = .ok (.invokespecial 29, 3) := by decide +kernel
theorem dX1_zero_23 : decode cX1_zero 23 = .ok (.areturn, 1) := by decide +kernel
/-- J6 compare (II)I -/
def f_J6_compare_7cf53 (n : Nat) (p0 : Int) (p1 : Int) (mi : Mem) : Option Rz :=
  jn (fun (s0_19 : Int) (m19 : Mem) =>
    rt s0_19 m19
  ) fun (j19 : Int → Mem → Option Rz) =>
  if p0 < p1 then (
    j19 (-1) mi
  ) else
  if p0 = p1 then (
    j19 0 mi
  ) else
  j19 1 mi
set_option maxRecDepth 100000 in
set_option maxHeartbeats 4000000 in
theorem s_J6_compare_7cf53 (l : Launch) (sc : g_S) (E : Mem → g_H) (R : Nat → Prop) (hE : LE E R)  (n : Nat)  (p0 : Int) (p1 : Int) (hp0 : inR p0) (hp1 : inR p1) (mi : Mem) (r : Rz) (H : f_J6_compare_7cf53 n p0 p1 mi = some r) : AMet l sc yJ6_compare_7cf53 cJ6_compare_7cf53 2 (some FieldType.int) 0 0 0 [iv p0, iv p1] (E mi) (pI E r) := by
  unfold f_J6_compare_7cf53 at H
  refine AMet.of (own := RJ6) (by decide +kernel) rfl (Nat.le_of_ble_eq_true rfl) [(0, iv p0), (1, iv p1)] rfl (fun D base ad => ?_)
  refine aw_iload_n (pc := 0) dJ6_compare_7cf53_0 rfl ?_
  refine aw_iload_n (pc := 1) dJ6_compare_7cf53_1 rfl ?_
  refine jn_ind (fun (f9 : Int → Mem → Option Rz) => ∀ (s0_19 : Int) (m19 : Mem), inR s0_19 → f9 s0_19 m19 = some r → AW l D base sc RJ6 yJ6_compare_7cf53 cJ6_compare_7cf53 2 (some FieldType.int) 0 0 0 ad (E mi) (pI E r) 0 0 (E m19) 19 [] [iv s0_19]) (fun s0_19 m19 hs0_19 H => ?_) (fun j19 hj19 H => ?_) H
  · -- 19
    exact cx_iret (pc := 19) hs0_19 rfl (Nat.le_of_ble_eq_true rfl) (Nat.le_of_ble_eq_true rfl) dJ6_compare_7cf53_19 H
  refine cx_icmp_ge (pc := 2) 9 hp0 hp1 dJ6_compare_7cf53_2 rfl H (fun H => ?_) (fun H => ?_)
  · -- 2: 5
    refine cx_iconst (pc := 5) dJ6_compare_7cf53_5 ?_
    refine aw_goto (pc := 6) 19 dJ6_compare_7cf53_6 rfl ?_
    exact AW.sel [] rfl (hj19 _ _ (inR_lit _ rfl) H)
  · -- 2: 9
    refine aw_iload_n (pc := 9) dJ6_compare_7cf53_9 rfl ?_
    refine aw_iload_n (pc := 10) dJ6_compare_7cf53_10 rfl ?_
    refine cx_icmp_ne (pc := 11) 18 hp0 hp1 dJ6_compare_7cf53_11 rfl H (fun H => ?_) (fun H => ?_)
    · -- 11: 14
      refine cx_iconst (pc := 14) dJ6_compare_7cf53_14 ?_
      refine aw_goto (pc := 15) 19 dJ6_compare_7cf53_15 rfl ?_
      exact AW.sel [] rfl (hj19 _ _ (inR_lit _ rfl) H)
    · -- 11: 18
      refine cx_iconst (pc := 18) dJ6_compare_7cf53_18 ?_
      exact AW.sel [] rfl (hj19 _ _ (inR_lit _ rfl) H)
/-- J6 bitCount (I)I -/
def f_J6_bitCount_0f7a4 (n : Nat) (p0 : Int) (mi : Mem) : Option Rz :=
  nm (w32 (p0 - (iand (iushr p0 1) 1431655765))) fun z9 =>
  nm (w32 ((iand z9 858993459) + (iand (iushr z9 2) 858993459))) fun z23 =>
  nm (iand (w32 (z23 + (iushr z23 4))) 252645135) fun z33 =>
  nm (w32 (z33 + (iushr z33 8))) fun z40 =>
  nm (w32 (z40 + (iushr z40 16))) fun z47 =>
  rt (iand z47 63) mi
set_option maxRecDepth 100000 in
set_option maxHeartbeats 4000000 in
theorem s_J6_bitCount_0f7a4 (l : Launch) (sc : g_S) (E : Mem → g_H) (R : Nat → Prop) (hE : LE E R)  (n : Nat)  (p0 : Int) (hp0 : inR p0) (mi : Mem) (r : Rz) (H : f_J6_bitCount_0f7a4 n p0 mi = some r) : AMet l sc yJ6_bitCount_0f7a4 cJ6_bitCount_0f7a4 1 (some FieldType.int) 0 0 0 [iv p0] (E mi) (pI E r) := by
  unfold f_J6_bitCount_0f7a4 at H
  refine AMet.of (own := RJ6) (by decide +kernel) rfl (Nat.le_of_ble_eq_true rfl) [(0, iv p0)] rfl (fun D base ad => ?_)
  refine aw_iload_n (pc := 0) dJ6_bitCount_0f7a4_0 rfl ?_
  refine aw_iload_n (pc := 1) dJ6_bitCount_0f7a4_1 rfl ?_
  refine cx_iconst (pc := 2) dJ6_bitCount_0f7a4_2 ?_
  refine cx_iushr (pc := 3) dJ6_bitCount_0f7a4_3 ?_
  refine cx_ldcw (pc := 4) 1431655765 dJ6_bitCount_0f7a4_4 ct_J6_265 (by decide) ?_
  refine cx_iand (pc := 7) dJ6_bitCount_0f7a4_7 ?_
  refine cx_isub (pc := 8) dJ6_bitCount_0f7a4_8 ?_
  refine cx_nm (inR_w32 _) H (fun z9 hz9 H => ?_)
  refine aw_istore_n (pc := 9) [(0, iv z9)] dJ6_bitCount_0f7a4_9 rfl (by decide) ?_
  refine aw_iload_n (pc := 10) dJ6_bitCount_0f7a4_10 rfl ?_
  refine cx_ldcw (pc := 11) 858993459 dJ6_bitCount_0f7a4_11 ct_J6_266 (by decide) ?_
  refine cx_iand (pc := 14) dJ6_bitCount_0f7a4_14 ?_
  refine aw_iload_n (pc := 15) dJ6_bitCount_0f7a4_15 rfl ?_
  refine cx_iconst (pc := 16) dJ6_bitCount_0f7a4_16 ?_
  refine cx_iushr (pc := 17) dJ6_bitCount_0f7a4_17 ?_
  refine cx_ldcw (pc := 18) 858993459 dJ6_bitCount_0f7a4_18 ct_J6_266 (by decide) ?_
  refine cx_iand (pc := 21) dJ6_bitCount_0f7a4_21 ?_
  refine cx_iadd (pc := 22) dJ6_bitCount_0f7a4_22 ?_
  refine cx_nm (inR_w32 _) H (fun z23 hz23 H => ?_)
  refine aw_istore_n (pc := 23) [(0, iv z23)] dJ6_bitCount_0f7a4_23 rfl (by decide) ?_
  refine aw_iload_n (pc := 24) dJ6_bitCount_0f7a4_24 rfl ?_
  refine aw_iload_n (pc := 25) dJ6_bitCount_0f7a4_25 rfl ?_
  refine cx_iconst (pc := 26) dJ6_bitCount_0f7a4_26 ?_
  refine cx_iushr (pc := 27) dJ6_bitCount_0f7a4_27 ?_
  refine cx_iadd (pc := 28) dJ6_bitCount_0f7a4_28 ?_
  refine cx_ldcw (pc := 29) 252645135 dJ6_bitCount_0f7a4_29 ct_J6_267 (by decide) ?_
  refine cx_iand (pc := 32) dJ6_bitCount_0f7a4_32 ?_
  refine cx_nm (inR_32 _) H (fun z33 hz33 H => ?_)
  refine aw_istore_n (pc := 33) [(0, iv z33)] dJ6_bitCount_0f7a4_33 rfl (by decide) ?_
  refine aw_iload_n (pc := 34) dJ6_bitCount_0f7a4_34 rfl ?_
  refine aw_iload_n (pc := 35) dJ6_bitCount_0f7a4_35 rfl ?_
  refine cx_bipush (pc := 36) dJ6_bitCount_0f7a4_36 (by decide) ?_
  refine cx_iushr (pc := 38) dJ6_bitCount_0f7a4_38 ?_
  refine cx_iadd (pc := 39) dJ6_bitCount_0f7a4_39 ?_
  refine cx_nm (inR_w32 _) H (fun z40 hz40 H => ?_)
  refine aw_istore_n (pc := 40) [(0, iv z40)] dJ6_bitCount_0f7a4_40 rfl (by decide) ?_
  refine aw_iload_n (pc := 41) dJ6_bitCount_0f7a4_41 rfl ?_
  refine aw_iload_n (pc := 42) dJ6_bitCount_0f7a4_42 rfl ?_
  refine cx_bipush (pc := 43) dJ6_bitCount_0f7a4_43 (by decide) ?_
  refine cx_iushr (pc := 45) dJ6_bitCount_0f7a4_45 ?_
  refine cx_iadd (pc := 46) dJ6_bitCount_0f7a4_46 ?_
  refine cx_nm (inR_w32 _) H (fun z47 hz47 H => ?_)
  refine aw_istore_n (pc := 47) [(0, iv z47)] dJ6_bitCount_0f7a4_47 rfl (by decide) ?_
  refine aw_iload_n (pc := 48) dJ6_bitCount_0f7a4_48 rfl ?_
  refine cx_bipush (pc := 49) dJ6_bitCount_0f7a4_49 (by decide) ?_
  refine cx_iand (pc := 51) dJ6_bitCount_0f7a4_51 ?_
  exact cx_iret (pc := 52) (inR_32 _) rfl (Nat.le_of_ble_eq_true rfl) (Nat.le_of_ble_eq_true rfl) dJ6_bitCount_0f7a4_52 H
/-- J7 fill ([JJ)V -/
def f_J7_fill_d0a16 (n : Nat) (p0 : Nat) (p1 : Nat) (mi : Mem) : Option Rz :=
  lenA mi p0 fun x3 =>
  lp (F := Int → Mem → Option Rz) (fun _ _ => none) (fun w6 v3_6 m6 =>
    if v3_6 < x3 then (
      stJ m6 p0 v3_6 p1 fun m15 =>
      w6 (w32 (v3_6 + 1)) m15
    ) else
    rt 0 m6
  ) n 0 mi
set_option maxRecDepth 100000 in
set_option maxHeartbeats 4000000 in
theorem s_J7_fill_d0a16 (l : Launch) (sc : g_S) (E : Mem → g_H) (R : Nat → Prop) (hE : LE E R)  (n : Nat)  (p0 : Nat) (p1 : Nat) (hp0 : R p0) (mi : Mem) (r : Rz) (H : f_J7_fill_d0a16 n p0 p1 mi = some r) : AMet l sc yJ7_fill_d0a16 cJ7_fill_d0a16 5 none 0 0 0 [.ref p0, jv p1] (E mi) (pV E r) := by
  unfold f_J7_fill_d0a16 at H
  refine AMet.of (own := RJ7) (by decide +kernel) rfl (Nat.le_of_ble_eq_true rfl) [(0, .ref p0), (1, jv p1)] rfl (fun D base ad => ?_)
  refine cx_iconst (pc := 0) dJ7_fill_d0a16_0 ?_
  refine aw_istore_n (pc := 1) [(3, iv 0), (0, .ref p0), (1, jv p1)] dJ7_fill_d0a16_1 rfl (by decide) ?_
  refine aw_aload_n (pc := 2) dJ7_fill_d0a16_2 rfl ?_
  refine cx_lenA (pc := 3) hE hp0 dJ7_fill_d0a16_3 H (fun x3 hx3 H => ?_)
  refine aw_istore (pc := 4) [(4, iv x3), (3, iv 0), (0, .ref p0), (1, jv p1)] dJ7_fill_d0a16_4 rfl (by decide) ?_
  refine AW.sel [2, 3, 1, 0] rfl (lp_ind (bot := fun _ _ => none) (fun (f9 : Int → Mem → Option Rz) => ∀ (v3_6 : Int) (m6 : Mem), inR v3_6 → f9 v3_6 m6 = some r → AW l D base sc RJ7 yJ7_fill_d0a16 cJ7_fill_d0a16 5 none 0 0 0 ad (E mi) (pV E r) 0 0 (E m6) 6 [(0, .ref p0), (1, jv p1), (3, iv v3_6), (4, iv x3)] []) (fun _ _ _ h9 => nomatch h9) (fun w6 ih6 v3_6 m6 hv3_6 H => ?_) n _ _ (inR_lit _ rfl) H)
  refine aw_iload_n (pc := 6) dJ7_fill_d0a16_6 rfl ?_
  refine aw_iload (pc := 7) dJ7_fill_d0a16_7 rfl ?_
  refine cx_icmp_ge (pc := 9) 22 hv3_6 hx3 dJ7_fill_d0a16_9 rfl H (fun H => ?_) (fun H => ?_)
  · -- 9: 12
    refine aw_aload_n (pc := 12) dJ7_fill_d0a16_12 rfl ?_
    refine aw_iload_n (pc := 13) dJ7_fill_d0a16_13 rfl ?_
    refine aw_lload_n (pc := 14) dJ7_fill_d0a16_14 rfl ?_
    refine cx_stJ (pc := 15) hE hp0 hv3_6 dJ7_fill_d0a16_15 H (fun m15 H => ?_)
    refine cx_iinc (pc := 16) [(3, iv (w32 (v3_6 + 1))), (0, .ref p0), (1, jv p1), (4, iv x3)] dJ7_fill_d0a16_16 rfl rfl (by decide) ?_
    refine aw_goto (pc := 19) 6 dJ7_fill_d0a16_19 rfl ?_
    exact AW.sel [1, 2, 0, 3] rfl (ih6 _ _ (inR_w32 _) H)
  · -- 9: 22
    exact cx_vret (pc := 22) rfl (Nat.le_of_ble_eq_true rfl) (Nat.le_of_ble_eq_true rfl) dJ7_fill_d0a16_22 H
/-- J7 checkLength (II)V -/
def f_J7_checkLength_df160 (n : Nat) (p0 : Int) (p1 : Int) (mi : Mem) : Option Rz :=
  if p1 < p0 then (
    none
  ) else
  rt 0 mi
set_option maxRecDepth 100000 in
set_option maxHeartbeats 4000000 in
theorem s_J7_checkLength_df160 (l : Launch) (sc : g_S) (E : Mem → g_H) (R : Nat → Prop) (hE : LE E R)  (n : Nat)  (p0 : Int) (p1 : Int) (hp0 : inR p0) (hp1 : inR p1) (mi : Mem) (r : Rz) (H : f_J7_checkLength_df160 n p0 p1 mi = some r) : AMet l sc yJ7_checkLength_df160 cJ7_checkLength_df160 2 none 0 0 0 [iv p0, iv p1] (E mi) (pV E r) := by
  unfold f_J7_checkLength_df160 at H
  refine AMet.of (own := RJ7) (by decide +kernel) rfl (Nat.le_of_ble_eq_true rfl) [(0, iv p0), (1, iv p1)] rfl (fun D base ad => ?_)
  refine aw_iload_n (pc := 0) dJ7_checkLength_df160_0 rfl ?_
  refine aw_iload_n (pc := 1) dJ7_checkLength_df160_1 rfl ?_
  refine cx_icmp_ge (pc := 2) 37 hp1 hp0 dJ7_checkLength_df160_2 rfl H (fun H => ?_) (fun H => ?_)
  · -- 2: 5
    exact nomatch H
  · -- 2: 37
    exact cx_vret (pc := 37) rfl (Nat.le_of_ble_eq_true rfl) (Nat.le_of_ble_eq_true rfl) dJ7_checkLength_df160_37 H
/-- J7 copyOfRangeByte ([BII)[B -/
def f_J7_copyOfRangeByte_39247 (n : Nat) (p0 : Nat) (p1 : Int) (p2 : Int) (mi : Mem) : Option Rz :=
  cal (f_J7_checkLength_df160 n p1 p2 mi) fun _ m2 =>
  nm (w32 (p2 - p1)) fun z8 =>
  nwB m2 z8 100 fun q10 m10 =>
  lenA m10 p0 fun x20 =>
  cpB m10 p0 p1 q10 0 (imin (w32 (x20 - p1)) z8) fun m27 =>
  rt (q10 : Nat) m27
set_option maxRecDepth 100000 in
set_option maxHeartbeats 4000000 in
theorem s_J7_copyOfRangeByte_39247 (l : Launch) (sc : g_S) (E : Mem → g_H) (R : Nat → Prop) (hE : LE E R) (hR : RD R) (hsc : sc.1 = 0) (n : Nat)  (p0 : Nat) (p1 : Int) (p2 : Int) (hp0 : R p0) (hp1 : inR p1) (hp2 : inR p2) (mi : Mem) (r : Rz) (H : f_J7_copyOfRangeByte_39247 n p0 p1 p2 mi = some r) : AMet l sc yJ7_copyOfRangeByte_39247 cJ7_copyOfRangeByte_39247 5 (some (FieldType.array FieldType.byte)) 1 1 100 [.ref p0, iv p1, iv p2] (E mi) (pG E r) := by
  unfold f_J7_copyOfRangeByte_39247 at H
  refine AMet.of (own := RJ7) (by decide +kernel) rfl (Nat.le_of_ble_eq_true rfl) [(0, .ref p0), (1, iv p1), (2, iv p2)] rfl (fun D base ad => ?_)
  refine aw_iload_n (pc := 0) dJ7_copyOfRangeByte_39247_0 rfl ?_
  refine aw_iload_n (pc := 1) dJ7_copyOfRangeByte_39247_1 rfl ?_
  refine cx_callS (pc := 2) (P := pV) (dC := 0) (mcC := 0) (msC := 0) [iv p1, iv p2] (fun r1 H1 => s_J7_checkLength_df160 l sc E R hE n p1 p2 hp1 hp2 mi r1 H1) ca_J7_343 rfl rfl (Nat.le_of_ble_eq_true rfl) (Nat.le_of_ble_eq_true rfl) (Nat.le_of_ble_eq_true rfl) (Nat.le_of_ble_eq_true rfl) dJ7_copyOfRangeByte_39247_2 H (fun x2 m2 v2 hh2 H hp => ?_)
  refine cx_backV hp ?_
  refine aw_iload_n (pc := 5) dJ7_copyOfRangeByte_39247_5 rfl ?_
  refine aw_iload_n (pc := 6) dJ7_copyOfRangeByte_39247_6 rfl ?_
  refine cx_isub (pc := 7) dJ7_copyOfRangeByte_39247_7 ?_
  refine cx_nm (inR_w32 _) H (fun z8 hz8 H => ?_)
  refine aw_istore_n (pc := 8) [(3, iv z8), (0, .ref p0), (1, iv p1), (2, iv p2)] dJ7_copyOfRangeByte_39247_8 rfl (by decide) ?_
  refine aw_iload_n (pc := 9) dJ7_copyOfRangeByte_39247_9 rfl ?_
  refine cx_nwB (pc := 10) (cap := 100) hE hR hsc hz8 ac_byte (Nat.le_of_ble_eq_true rfl) (Nat.le_of_ble_eq_true rfl) (Nat.le_of_ble_eq_true rfl) dJ7_copyOfRangeByte_39247_10 H (fun q10 m10 hq10 H => ?_)
  refine aw_astore (pc := 12) [(4, .ref q10), (3, iv z8), (0, .ref p0), (1, iv p1), (2, iv p2)] dJ7_copyOfRangeByte_39247_12 rfl (by decide) ?_
  refine aw_aload_n (pc := 14) dJ7_copyOfRangeByte_39247_14 rfl ?_
  refine aw_iload_n (pc := 15) dJ7_copyOfRangeByte_39247_15 rfl ?_
  refine aw_aload (pc := 16) dJ7_copyOfRangeByte_39247_16 rfl ?_
  refine cx_iconst (pc := 18) dJ7_copyOfRangeByte_39247_18 ?_
  refine aw_aload_n (pc := 19) dJ7_copyOfRangeByte_39247_19 rfl ?_
  refine cx_lenA (pc := 20) hE hp0 dJ7_copyOfRangeByte_39247_20 H (fun x20 hx20 H => ?_)
  refine aw_iload_n (pc := 21) dJ7_copyOfRangeByte_39247_21 rfl ?_
  refine cx_isub (pc := 22) dJ7_copyOfRangeByte_39247_22 ?_
  refine aw_iload_n (pc := 23) dJ7_copyOfRangeByte_39247_23 rfl ?_
  refine cx_mmin (pc := 24) (inR_w32 _) hz8 mimin_y mimin_c (g_mem 357 (by decide +kernel) rfl) ca_J7_304 (Nat.le_of_ble_eq_true rfl) (Nat.le_of_ble_eq_true rfl) (Nat.le_of_ble_eq_true rfl) (Nat.le_of_ble_eq_true rfl) dJ7_copyOfRangeByte_39247_24 ?_
  refine cx_cpB (pc := 27) hE hp0 (hR _ hq10) hp1 (inR_lit _ rfl) (inR_min (inR_w32 _) hz8) ay_J7 ay_1 ay_2 ay_3 (Nat.le_of_ble_eq_true rfl) (Nat.le_of_ble_eq_true rfl) dJ7_copyOfRangeByte_39247_27 H (fun m27 H => ?_)
  refine aw_aload (pc := 30) dJ7_copyOfRangeByte_39247_30 rfl ?_
  refine AW.eqs (st' := [rv q10]) (by simp only [rv_s (show q10 ≠ 0 by omega)]) ?_
  exact cx_aret (pc := 32) ⟨_, rfl, Or.inr ⟨_, rfl⟩⟩ (Nat.le_of_ble_eq_true rfl) (Nat.le_of_ble_eq_true rfl) dJ7_copyOfRangeByte_39247_32 H
/-- J7 copyOfRange ([BII)[B -/
def f_J7_copyOfRange_39247 (n : Nat) (p0 : Nat) (p1 : Int) (p2 : Int) (mi : Mem) : Option Rz :=
  jn (fun (m10 : Mem) =>
    cal (f_J7_copyOfRangeByte_39247 n p0 p1 p2 m10) fun x13 m13 =>
    rt (x13.toNat : Nat) m13
  ) fun (j10 : Mem → Option Rz) =>
  if p1 = 0 then (
    lenA mi p0 fun x6 =>
    if p2 = x6 then (
      none
    ) else
    j10 mi
  ) else
  j10 mi
set_option maxRecDepth 100000 in
set_option maxHeartbeats 4000000 in
theorem s_J7_copyOfRange_39247 (l : Launch) (sc : g_S) (E : Mem → g_H) (R : Nat → Prop) (hE : LE E R) (hR : RD R) (hsc : sc.1 = 0) (n : Nat)  (p0 : Nat) (p1 : Int) (p2 : Int) (hp0 : R p0) (hp1 : inR p1) (hp2 : inR p2) (mi : Mem) (r : Rz) (H : f_J7_copyOfRange_39247 n p0 p1 p2 mi = some r) : AMet l sc yJ7_copyOfRange_39247 cJ7_copyOfRange_39247 3 (some (FieldType.array FieldType.byte)) 2 1 100 [.ref p0, iv p1, iv p2] (E mi) (pG E r) := by
  unfold f_J7_copyOfRange_39247 at H
  refine AMet.of (own := RJ7) (by decide +kernel) rfl (Nat.le_of_ble_eq_true rfl) [(0, .ref p0), (1, iv p1), (2, iv p2)] rfl (fun D base ad => ?_)
  refine aw_iload_n (pc := 0) dJ7_copyOfRange_39247_0 rfl ?_
  refine jn_ind (fun (f9 : Mem → Option Rz) => ∀ (m10 : Mem), f9 m10 = some r → AW l D base sc RJ7 yJ7_copyOfRange_39247 cJ7_copyOfRange_39247 3 (some (FieldType.array FieldType.byte)) 2 1 100 ad (E mi) (pG E r) 0 0 (E m10) 10 [(0, .ref p0), (1, iv p1), (2, iv p2)] []) (fun m10 H => ?_) (fun j10 hj10 H => ?_) H
  · -- 10
    refine aw_aload_n (pc := 10) dJ7_copyOfRange_39247_10 rfl ?_
    refine aw_iload_n (pc := 11) dJ7_copyOfRange_39247_11 rfl ?_
    refine aw_iload_n (pc := 12) dJ7_copyOfRange_39247_12 rfl ?_
    refine cx_callS (pc := 13) (P := pG) (dC := 1) (mcC := 1) (msC := 100) [.ref p0, iv p1, iv p2] (fun r1 H1 => s_J7_copyOfRangeByte_39247 l sc E R hE hR hsc n p0 p1 p2 hp0 hp1 hp2 m10 r1 H1) ca_J7_339 rfl rfl (Nat.le_of_ble_eq_true rfl) (Nat.le_of_ble_eq_true rfl) (Nat.le_of_ble_eq_true rfl) (Nat.le_of_ble_eq_true rfl) dJ7_copyOfRange_39247_13 H (fun x13 m13 v13 hh13 H hp => ?_)
    refine cx_backG hp ?_
    exact cx_aret (pc := 16) ⟨_, rfl, Or.inr ⟨_, rfl⟩⟩ (Nat.le_of_ble_eq_true rfl) (Nat.le_of_ble_eq_true rfl) dJ7_copyOfRange_39247_16 H
  refine cx_if_ne (pc := 1) 10 hp1 dJ7_copyOfRange_39247_1 rfl H (fun H => ?_) (fun H => ?_)
  · -- 1: 4
    refine aw_iload_n (pc := 4) dJ7_copyOfRange_39247_4 rfl ?_
    refine aw_aload_n (pc := 5) dJ7_copyOfRange_39247_5 rfl ?_
    refine cx_lenA (pc := 6) hE hp0 dJ7_copyOfRange_39247_6 H (fun x6 hx6 H => ?_)
    refine cx_icmp_eq (pc := 7) 17 hp2 hx6 dJ7_copyOfRange_39247_7 rfl H (fun H => ?_) (fun H => ?_)
    · -- 7: 17
      exact nomatch H
    · -- 7: 10
      exact AW.sel [0, 1, 2] rfl (hj10 _ H)
  · -- 1: 10
    exact AW.sel [0, 1, 2] rfl (hj10 _ H)
/-- X1 options (II)I -/
def f_X1_options (n : Nat) (g : Nat) (p1 : Int) (p2 : Int) (mi : Mem) : Option Rz :=
  jn (fun (s0_15 : Nat) (m15 : Mem) =>
    jn (fun (s0_33 : Int) (m33 : Mem) =>
      rt s0_33 m33
    ) fun (j33 : Int → Mem → Option Rz) =>
    jn (fun (m32 : Mem) =>
      j33 0 m32
    ) fun (j32 : Mem → Option Rz) =>
    if p1 < 0 then (
      j32 m15
    ) else
    isD s0_15 <|
    lenA m15 s0_15 fun x22 =>
    if p1 < x22 then (
      isD s0_15 <|
      ldI m15 s0_15 p1 fun x28 =>
      j33 x28 m15
    ) else
    j32 m15
  ) fun (j15 : Nat → Mem → Option Rz) =>
  if p2 = 0 then (
    gmG mi g 0 fun x5 =>
    j15 x5 mi
  ) else
  gmG mi g 1 fun x12 =>
  j15 x12 mi
set_option maxRecDepth 100000 in
set_option maxHeartbeats 4000000 in
theorem s_X1_options (l : Launch) (sc : g_S) (E : Mem → g_H) (R : Nat → Prop) (hE : LE E R) (hR : RD R) (n : Nat)  (g : Nat) (p1 : Int) (p2 : Int) (hg : 1000 ≤ g) (hp1 : inR p1) (hp2 : inR p2) (mi : Mem) (r : Rz) (H : f_X1_options n g p1 p2 mi = some r) : AMet l sc yX1_options cX1_options 4 (some FieldType.int) 0 0 0 [.ref g, iv p1, iv p2] (E mi) (pI E r) := by
  unfold f_X1_options at H
  refine AMet.of (own := RX1) (by decide +kernel) rfl (Nat.le_of_ble_eq_true rfl) [(0, .ref g), (1, iv p1), (2, iv p2)] rfl (fun D base ad => ?_)
  refine aw_iload_n (pc := 0) dX1_options_0 rfl ?_
  refine jn_ind (fun (f9 : Nat → Mem → Option Rz) => ∀ (s0_15 : Nat) (m15 : Mem), f9 s0_15 m15 = some r → AW l D base sc RX1 yX1_options cX1_options 4 (some FieldType.int) 0 0 0 ad (E mi) (pI E r) 0 0 (E m15) 15 [(1, iv p1)] [rv s0_15]) (fun s0_15 m15 H => ?_) (fun j15 hj15 H => ?_) H
  · -- 15
    refine cx_astore_n (pc := 15) [(3, rv s0_15), (1, iv p1)] dX1_options_15 rfl (by decide) ?_
    refine aw_iload_n (pc := 16) dX1_options_16 rfl ?_
    refine jn_ind (fun (f9 : Int → Mem → Option Rz) => ∀ (s0_33 : Int) (m33 : Mem), inR s0_33 → f9 s0_33 m33 = some r → AW l D base sc RX1 yX1_options cX1_options 4 (some FieldType.int) 0 0 0 ad (E mi) (pI E r) 0 0 (E m33) 33 [] [iv s0_33]) (fun s0_33 m33 hs0_33 H => ?_) (fun j33 hj33 H => ?_) H
    · -- 33
      exact cx_iret (pc := 33) hs0_33 rfl (Nat.le_of_ble_eq_true rfl) (Nat.le_of_ble_eq_true rfl) dX1_options_33 H
    refine jn_ind (fun (f9 : Mem → Option Rz) => ∀ (m32 : Mem), f9 m32 = some r → AW l D base sc RX1 yX1_options cX1_options 4 (some FieldType.int) 0 0 0 ad (E mi) (pI E r) 0 0 (E m32) 32 [] []) (fun m32 H => ?_) (fun j32 hj32 H => ?_) H
    · -- 32
      refine cx_iconst (pc := 32) dX1_options_32 ?_
      exact AW.sel [] rfl (hj33 _ _ (inR_lit _ rfl) H)
    refine cx_if_lt (pc := 17) 32 hp1 dX1_options_17 rfl H (fun H => ?_) (fun H => ?_)
    · -- 17: 32
      exact AW.sel [] rfl (hj32 _ H)
    · -- 17: 20
      refine aw_iload_n (pc := 20) dX1_options_20 rfl ?_
      refine cx_aload_n (pc := 21) dX1_options_21 rfl ?_
      refine cx_nn0 H (fun hg22_1 H => ?_)
      refine cx_lenA (pc := 22) hE (hR _ hg22_1) dX1_options_22 H (fun x22 hx22 H => ?_)
      refine cx_icmp_ge (pc := 23) 32 hp1 hx22 dX1_options_23 rfl H (fun H => ?_) (fun H => ?_)
      · -- 23: 26
        refine cx_aload_n (pc := 26) dX1_options_26 rfl ?_
        refine aw_iload_n (pc := 27) dX1_options_27 rfl ?_
        refine cx_nn1 H (fun hg28_2 H => ?_)
        refine cx_ldI (pc := 28) hE (hR _ hg28_2) hp1 dX1_options_28 H (fun x28 hx28 H => ?_)
        refine aw_goto (pc := 29) 33 dX1_options_29 rfl ?_
        exact AW.sel [] rfl (hj33 _ _ hx28 H)
      · -- 23: 32
        exact AW.sel [] rfl (hj32 _ H)
  refine cx_if_ne (pc := 1) 11 hp2 dX1_options_1 rfl H (fun H => ?_) (fun H => ?_)
  · -- 1: 4
    refine aw_aload_n (pc := 4) dX1_options_4 rfl ?_
    refine cx_gmG (pc := 5) hE hR hg fl_X1_9 rfl (Nat.le_of_ble_eq_true rfl) dX1_options_5 H (fun x5 H => ?_)
    refine aw_goto (pc := 8) 15 dX1_options_8 rfl ?_
    exact AW.sel [1] rfl (hj15 _ _ H)
  · -- 1: 11
    refine aw_aload_n (pc := 11) dX1_options_11 rfl ?_
    refine cx_gmG (pc := 12) hE hR hg fl_X1_15 rfl (Nat.le_of_ble_eq_true rfl) dX1_options_12 H (fun x12 H => ?_)
    exact AW.sel [1] rfl (hj15 _ _ H)
/-- X1 width ()I -/
def f_X1_width (n : Nat) (g : Nat) (mi : Mem) : Option Rz :=
  gmG mi g 0 fun x1 =>
  isD x1 <|
  lenA mi x1 fun x4 =>
  rt x4 mi
set_option maxRecDepth 100000 in
set_option maxHeartbeats 4000000 in
theorem s_X1_width (l : Launch) (sc : g_S) (E : Mem → g_H) (R : Nat → Prop) (hE : LE E R) (hR : RD R) (n : Nat)  (g : Nat) (hg : 1000 ≤ g) (mi : Mem) (r : Rz) (H : f_X1_width n g mi = some r) : AMet l sc yX1_width cX1_width 1 (some FieldType.int) 0 0 0 [.ref g] (E mi) (pI E r) := by
  unfold f_X1_width at H
  refine AMet.of (own := RX1) (by decide +kernel) rfl (Nat.le_of_ble_eq_true rfl) [(0, .ref g)] rfl (fun D base ad => ?_)
  refine aw_aload_n (pc := 0) dX1_width_0 rfl ?_
  refine cx_gmG (pc := 1) hE hR hg fl_X1_9 rfl (Nat.le_of_ble_eq_true rfl) dX1_width_1 H (fun x1 H => ?_)
  refine cx_nn0 H (fun hg4_1 H => ?_)
  refine cx_lenA (pc := 4) hE (hR _ hg4_1) dX1_width_4 H (fun x4 hx4 H => ?_)
  exact cx_iret (pc := 5) hx4 rfl (Nat.le_of_ble_eq_true rfl) (Nat.le_of_ble_eq_true rfl) dX1_width_5 H
/-- X1 byWords (I)I -/
def f_X1_byWords (n : Nat) (g : Nat) (p1 : Int) (mi : Mem) : Option Rz :=
  isG mi g <| cal (f_X1_options n g 1 0 mi) fun x3 m3 =>
  jn (fun (s0_25 : Int) (m25 : Mem) =>
    jn (fun (s0_42 : Int) (m42 : Mem) =>
      rt s0_42 m42
    ) fun (j42 : Int → Mem → Option Rz) =>
    jn (fun (m41 : Mem) =>
      j42 p1 m41
    ) fun (j41 : Mem → Option Rz) =>
    if s0_25 = 0 then (
      j41 m25
    ) else
    if p1 < 2 then (
      j42 (w32 (1 - p1)) m25
    ) else
    j41 m25
  ) fun (j25 : Int → Mem → Option Rz) =>
  jn (fun (m24 : Mem) =>
    j25 0 m24
  ) fun (j24 : Mem → Option Rz) =>
  if x3 = 1 then (
    isG m3 g <| cal (f_X1_options n g 1 1 m3) fun x13 m13 =>
    if x13 = 1 then (
      j25 1 m13
    ) else
    j24 m13
  ) else
  j24 m3
set_option maxRecDepth 100000 in
set_option maxHeartbeats 4000000 in
theorem s_X1_byWords (l : Launch) (sc : g_S) (E : Mem → g_H) (R : Nat → Prop) (hE : LE E R) (hR : RD R) (n : Nat)  (g : Nat) (p1 : Int) (hg : 1000 ≤ g) (hp1 : inR p1) (mi : Mem) (r : Rz) (H : f_X1_byWords n g p1 mi = some r) : AMet l sc yX1_byWords cX1_byWords 3 (some FieldType.int) 1 0 0 [.ref g, iv p1] (E mi) (pI E r) := by
  unfold f_X1_byWords at H
  refine AMet.of (own := RX1) (by decide +kernel) rfl (Nat.le_of_ble_eq_true rfl) [(0, .ref g), (1, iv p1)] rfl (fun D base ad => ?_)
  refine aw_aload_n (pc := 0) dX1_byWords_0 rfl ?_
  refine cx_iconst (pc := 1) dX1_byWords_1 ?_
  refine cx_iconst (pc := 2) dX1_byWords_2 ?_
  refine cx_callG (pc := 3) (P := pI) (dC := 0) (mcC := 0) (msC := 0) [iv 1, iv 0] hE hR (fun r1 H1 => s_X1_options l sc E R hE hR n g 1 0 hg (inR_lit _ rfl) (inR_lit _ rfl) mi r1 H1) ca_X1_32 ⟨_, rfl, rfl⟩ rfl rfl (Nat.le_of_ble_eq_true rfl) (Nat.le_of_ble_eq_true rfl) (Nat.le_of_ble_eq_true rfl) (Nat.le_of_ble_eq_true rfl) dX1_byWords_3 H (fun x3 m3 v3 hh3 H hp => ?_)
  refine cx_backI hp (fun hx3 => ?_)
  refine cx_iconst (pc := 6) dX1_byWords_6 ?_
  refine jn_ind (fun (f9 : Int → Mem → Option Rz) => ∀ (s0_25 : Int) (m25 : Mem), inR s0_25 → f9 s0_25 m25 = some r → AW l D base sc RX1 yX1_byWords cX1_byWords 3 (some FieldType.int) 1 0 0 ad (E mi) (pI E r) 0 0 (E m25) 25 [(1, iv p1)] [iv s0_25]) (fun s0_25 m25 hs0_25 H => ?_) (fun j25 hj25 H => ?_) H
  · -- 25
    refine aw_istore_n (pc := 25) [(2, iv s0_25), (1, iv p1)] dX1_byWords_25 rfl (by decide) ?_
    refine aw_iload_n (pc := 26) dX1_byWords_26 rfl ?_
    refine jn_ind (fun (f9 : Int → Mem → Option Rz) => ∀ (s0_42 : Int) (m42 : Mem), inR s0_42 → f9 s0_42 m42 = some r → AW l D base sc RX1 yX1_byWords cX1_byWords 3 (some FieldType.int) 1 0 0 ad (E mi) (pI E r) 0 0 (E m42) 42 [] [iv s0_42]) (fun s0_42 m42 hs0_42 H => ?_) (fun j42 hj42 H => ?_) H
    · -- 42
      exact cx_iret (pc := 42) hs0_42 rfl (Nat.le_of_ble_eq_true rfl) (Nat.le_of_ble_eq_true rfl) dX1_byWords_42 H
    refine jn_ind (fun (f9 : Mem → Option Rz) => ∀ (m41 : Mem), f9 m41 = some r → AW l D base sc RX1 yX1_byWords cX1_byWords 3 (some FieldType.int) 1 0 0 ad (E mi) (pI E r) 0 0 (E m41) 41 [(1, iv p1)] []) (fun m41 H => ?_) (fun j41 hj41 H => ?_) H
    · -- 41
      refine aw_iload_n (pc := 41) dX1_byWords_41 rfl ?_
      exact AW.sel [] rfl (hj42 _ _ hp1 H)
    refine cx_if_eq (pc := 27) 41 hs0_25 dX1_byWords_27 rfl H (fun H => ?_) (fun H => ?_)
    · -- 27: 41
      exact AW.sel [1] rfl (hj41 _ H)
    · -- 27: 30
      refine aw_iload_n (pc := 30) dX1_byWords_30 rfl ?_
      refine cx_iconst (pc := 31) dX1_byWords_31 ?_
      refine cx_icmp_ge (pc := 32) 41 hp1 (inR_lit _ rfl) dX1_byWords_32 rfl H (fun H => ?_) (fun H => ?_)
      · -- 32: 35
        refine cx_iconst (pc := 35) dX1_byWords_35 ?_
        refine aw_iload_n (pc := 36) dX1_byWords_36 rfl ?_
        refine cx_isub (pc := 37) dX1_byWords_37 ?_
        refine aw_goto (pc := 38) 42 dX1_byWords_38 rfl ?_
        exact AW.sel [] rfl (hj42 _ _ (inR_w32 _) H)
      · -- 32: 41
        exact AW.sel [1] rfl (hj41 _ H)
  refine jn_ind (fun (f9 : Mem → Option Rz) => ∀ (m24 : Mem), f9 m24 = some r → AW l D base sc RX1 yX1_byWords cX1_byWords 3 (some FieldType.int) 1 0 0 ad (E mi) (pI E r) 0 0 (E m24) 24 [(1, iv p1)] []) (fun m24 H => ?_) (fun j24 hj24 H => ?_) H
  · -- 24
    refine cx_iconst (pc := 24) dX1_byWords_24 ?_
    exact AW.sel [0] rfl (hj25 _ _ (inR_lit _ rfl) H)
  refine cx_icmp_ne (pc := 7) 24 hx3 (inR_lit _ rfl) dX1_byWords_7 rfl H (fun H => ?_) (fun H => ?_)
  · -- 7: 10
    refine aw_aload_n (pc := 10) dX1_byWords_10 rfl ?_
    refine cx_iconst (pc := 11) dX1_byWords_11 ?_
    refine cx_iconst (pc := 12) dX1_byWords_12 ?_
    refine cx_callG (pc := 13) (P := pI) (dC := 0) (mcC := 0) (msC := 0) [iv 1, iv 1] hE hR (fun r1 H1 => s_X1_options l sc E R hE hR n g 1 1 hg (inR_lit _ rfl) (inR_lit _ rfl) m3 r1 H1) ca_X1_32 ⟨_, rfl, rfl⟩ rfl rfl (Nat.le_of_ble_eq_true rfl) (Nat.le_of_ble_eq_true rfl) (Nat.le_of_ble_eq_true rfl) (Nat.le_of_ble_eq_true rfl) dX1_byWords_13 H (fun x13 m13 v13 hh13 H hp => ?_)
    refine cx_backI hp (fun hx13 => ?_)
    refine cx_iconst (pc := 16) dX1_byWords_16 ?_
    refine cx_icmp_ne (pc := 17) 24 hx13 (inR_lit _ rfl) dX1_byWords_17 rfl H (fun H => ?_) (fun H => ?_)
    · -- 17: 20
      refine cx_iconst (pc := 20) dX1_byWords_20 ?_
      refine aw_goto (pc := 21) 25 dX1_byWords_21 rfl ?_
      exact AW.sel [1] rfl (hj25 _ _ (inR_lit _ rfl) H)
    · -- 17: 24
      exact AW.sel [1] rfl (hj24 _ H)
  · -- 7: 24
    exact AW.sel [1] rfl (hj24 _ H)
/-- X1 numbered (III)I -/
def f_X1_numbered (n : Nat) (g : Nat) (p1 : Int) (p2 : Int) (p3 : Int) (mi : Mem) : Option Rz :=
  isG mi g <| cal (f_X1_options n g p1 p2 mi) fun x3 m3 =>
  lp (F := Int → Int → Mem → Option Rz) (fun _ _ _ => none) (fun w14 v5_14 v6_14 m14 =>
    gmG m14 g 0 fun x17 =>
    isD x17 <|
    lenA m14 x17 fun x20 =>
    if v6_14 < x20 then (
      isG m14 g <| cal (f_X1_byWords n g v6_14 m14) fun x27 m27 =>
      jn (fun (v5_54 : Int) (m54 : Mem) =>
        w14 v5_54 (w32 (v6_14 + 1)) m54
      ) fun (j54 : Int → Mem → Option Rz) =>
      if iand (ishr x3 x27) 1 = 0 then (
        j54 v5_14 m27
      ) else
      if v5_14 = p3 then (
        rt x27 m27
      ) else
      j54 (w32 (v5_14 + 1)) m27
    ) else
    rt (-1) m14
  ) n 0 0 m3
set_option maxRecDepth 100000 in
set_option maxHeartbeats 4000000 in
theorem s_X1_numbered (l : Launch) (sc : g_S) (E : Mem → g_H) (R : Nat → Prop) (hE : LE E R) (hR : RD R) (n : Nat)  (g : Nat) (p1 : Int) (p2 : Int) (p3 : Int) (hg : 1000 ≤ g) (hp1 : inR p1) (hp2 : inR p2) (hp3 : inR p3) (mi : Mem) (r : Rz) (H : f_X1_numbered n g p1 p2 p3 mi = some r) : AMet l sc yX1_numbered cX1_numbered 8 (some FieldType.int) 2 0 0 [.ref g, iv p1, iv p2, iv p3] (E mi) (pI E r) := by
  unfold f_X1_numbered at H
  refine AMet.of (own := RX1) (by decide +kernel) rfl (Nat.le_of_ble_eq_true rfl) [(0, .ref g), (1, iv p1), (2, iv p2), (3, iv p3)] rfl (fun D base ad => ?_)
  refine aw_aload_n (pc := 0) dX1_numbered_0 rfl ?_
  refine aw_iload_n (pc := 1) dX1_numbered_1 rfl ?_
  refine aw_iload_n (pc := 2) dX1_numbered_2 rfl ?_
  refine cx_callG (pc := 3) (P := pI) (dC := 0) (mcC := 0) (msC := 0) [iv p1, iv p2] hE hR (fun r1 H1 => s_X1_options l sc E R hE hR n g p1 p2 hg hp1 hp2 mi r1 H1) ca_X1_32 ⟨_, rfl, rfl⟩ rfl rfl (Nat.le_of_ble_eq_true rfl) (Nat.le_of_ble_eq_true rfl) (Nat.le_of_ble_eq_true rfl) (Nat.le_of_ble_eq_true rfl) dX1_numbered_3 H (fun x3 m3 v3 hh3 H hp => ?_)
  refine cx_backI hp (fun hx3 => ?_)
  refine aw_istore (pc := 6) [(4, iv x3), (0, .ref g), (1, iv p1), (2, iv p2), (3, iv p3)] dX1_numbered_6 rfl (by decide) ?_
  refine cx_iconst (pc := 8) dX1_numbered_8 ?_
  refine aw_istore (pc := 9) [(5, iv 0), (4, iv x3), (0, .ref g), (1, iv p1), (2, iv p2), (3, iv p3)] dX1_numbered_9 rfl (by decide) ?_
  refine cx_iconst (pc := 11) dX1_numbered_11 ?_
  refine aw_istore (pc := 12) [(6, iv 0), (5, iv 0), (4, iv x3), (0, .ref g), (1, iv p1), (2, iv p2), (3, iv p3)] dX1_numbered_12 rfl (by decide) ?_
  refine AW.sel [3, 6, 2, 1, 0] rfl (lp_ind (bot := fun _ _ _ => none) (fun (f9 : Int → Int → Mem → Option Rz) => ∀ (v5_14 : Int) (v6_14 : Int) (m14 : Mem), inR v5_14 → inR v6_14 → f9 v5_14 v6_14 m14 = some r → AW l D base sc RX1 yX1_numbered cX1_numbered 8 (some FieldType.int) 2 0 0 ad (E mi) (pI E r) 0 0 (E m14) 14 [(0, .ref g), (3, iv p3), (4, iv x3), (5, iv v5_14), (6, iv v6_14)] []) (fun _ _ _ _ _ h9 => nomatch h9) (fun w14 ih14 v5_14 v6_14 m14 hv5_14 hv6_14 H => ?_) n _ _ _ (inR_lit _ rfl) (inR_lit _ rfl) H)
  refine aw_iload (pc := 14) dX1_numbered_14 rfl ?_
  refine aw_aload_n (pc := 16) dX1_numbered_16 rfl ?_
  refine cx_gmG (pc := 17) hE hR hg fl_X1_9 rfl (Nat.le_of_ble_eq_true rfl) dX1_numbered_17 H (fun x17 H => ?_)
  refine cx_nn0 H (fun hg20_1 H => ?_)
  refine cx_lenA (pc := 20) hE (hR _ hg20_1) dX1_numbered_20 H (fun x20 hx20 H => ?_)
  refine cx_icmp_ge (pc := 21) 60 hv6_14 hx20 dX1_numbered_21 rfl H (fun H => ?_) (fun H => ?_)
  · -- 21: 24
    refine aw_aload_n (pc := 24) dX1_numbered_24 rfl ?_
    refine aw_iload (pc := 25) dX1_numbered_25 rfl ?_
    refine cx_callG (pc := 27) (P := pI) (dC := 1) (mcC := 0) (msC := 0) [iv v6_14] hE hR (fun r1 H1 => s_X1_byWords l sc E R hE hR n g v6_14 hg hv6_14 m14 r1 H1) ca_X1_36 ⟨_, rfl, rfl⟩ rfl rfl (Nat.le_of_ble_eq_true rfl) (Nat.le_of_ble_eq_true rfl) (Nat.le_of_ble_eq_true rfl) (Nat.le_of_ble_eq_true rfl) dX1_numbered_27 H (fun x27 m27 v27 hh27 H hp => ?_)
    refine cx_backI hp (fun hx27 => ?_)
    refine aw_istore (pc := 30) [(7, iv x27), (0, .ref g), (3, iv p3), (4, iv x3), (5, iv v5_14), (6, iv v6_14)] dX1_numbered_30 rfl (by decide) ?_
    refine aw_iload (pc := 32) dX1_numbered_32 rfl ?_
    refine aw_iload (pc := 34) dX1_numbered_34 rfl ?_
    refine cx_ishr (pc := 36) dX1_numbered_36 ?_
    refine cx_iconst (pc := 37) dX1_numbered_37 ?_
    refine cx_iand (pc := 38) dX1_numbered_38 ?_
    refine jn_ind (fun (f9 : Int → Mem → Option Rz) => ∀ (v5_54 : Int) (m54 : Mem), inR v5_54 → f9 v5_54 m54 = some r → AW l D base sc RX1 yX1_numbered cX1_numbered 8 (some FieldType.int) 2 0 0 ad (E mi) (pI E r) 0 0 (E m54) 54 [(0, .ref g), (3, iv p3), (4, iv x3), (5, iv v5_54), (6, iv v6_14)] []) (fun v5_54 m54 hv5_54 H => ?_) (fun j54 hj54 H => ?_) H
    · -- 54
      refine cx_iinc (pc := 54) [(6, iv (w32 (v6_14 + 1))), (0, .ref g), (3, iv p3), (4, iv x3), (5, iv v5_54)] dX1_numbered_54 rfl rfl (by decide) ?_
      refine aw_goto (pc := 57) 14 dX1_numbered_57 rfl ?_
      exact AW.sel [1, 2, 3, 4, 0] rfl (ih14 _ _ _ hv5_54 (inR_w32 _) H)
    refine cx_if_eq (pc := 39) 54 (inR_32 _) dX1_numbered_39 rfl H (fun H => ?_) (fun H => ?_)
    · -- 39: 54
      exact AW.sel [1, 2, 3, 4, 5] rfl (hj54 _ _ hv5_14 H)
    · -- 39: 42
      refine aw_iload (pc := 42) dX1_numbered_42 rfl ?_
      refine aw_iload_n (pc := 44) dX1_numbered_44 rfl ?_
      refine cx_icmp_ne (pc := 45) 51 hv5_14 hp3 dX1_numbered_45 rfl H (fun H => ?_) (fun H => ?_)
      · -- 45: 48
        refine aw_iload (pc := 48) dX1_numbered_48 rfl ?_
        exact cx_iret (pc := 50) hx27 rfl (Nat.le_of_ble_eq_true rfl) (Nat.le_of_ble_eq_true rfl) dX1_numbered_50 H
      · -- 45: 51
        refine cx_iinc (pc := 51) [(5, iv (w32 (v5_14 + 1))), (7, iv x27), (0, .ref g), (3, iv p3), (4, iv x3), (6, iv v6_14)] dX1_numbered_51 rfl rfl (by decide) ?_
        exact AW.sel [2, 3, 4, 0, 5] rfl (hj54 _ _ (inR_w32 _) H)
  · -- 21: 60
    refine cx_iconst (pc := 60) dX1_numbered_60 ?_
    exact cx_iret (pc := 61) (inR_lit _ rfl) rfl (Nat.le_of_ble_eq_true rfl) (Nat.le_of_ble_eq_true rfl) dX1_numbered_61 H
/-- X1 top ()I -/
def f_X1_top (n : Nat) (g : Nat) (mi : Mem) : Option Rz :=
  gmG mi g 0 fun x1 =>
  isD x1 <|
  lenA mi x1 fun x4 =>
  rt (w32 (x4 - 1)) mi
set_option maxRecDepth 100000 in
set_option maxHeartbeats 4000000 in
theorem s_X1_top (l : Launch) (sc : g_S) (E : Mem → g_H) (R : Nat → Prop) (hE : LE E R) (hR : RD R) (n : Nat)  (g : Nat) (hg : 1000 ≤ g) (mi : Mem) (r : Rz) (H : f_X1_top n g mi = some r) : AMet l sc yX1_top cX1_top 1 (some FieldType.int) 0 0 0 [.ref g] (E mi) (pI E r) := by
  unfold f_X1_top at H
  refine AMet.of (own := RX1) (by decide +kernel) rfl (Nat.le_of_ble_eq_true rfl) [(0, .ref g)] rfl (fun D base ad => ?_)
  refine aw_aload_n (pc := 0) dX1_top_0 rfl ?_
  refine cx_gmG (pc := 1) hE hR hg fl_X1_9 rfl (Nat.le_of_ble_eq_true rfl) dX1_top_1 H (fun x1 H => ?_)
  refine cx_nn0 H (fun hg4_1 H => ?_)
  refine cx_lenA (pc := 4) hE (hR _ hg4_1) dX1_top_4 H (fun x4 hx4 H => ?_)
  refine cx_iconst (pc := 5) dX1_top_5 ?_
  refine cx_isub (pc := 6) dX1_top_6 ?_
  exact cx_iret (pc := 7) (inR_w32 _) rfl (Nat.le_of_ble_eq_true rfl) (Nat.le_of_ble_eq_true rfl) dX1_top_7 H
/-- X1 <init> ([I[I[BII)V -/
def f_X1_init (n : Nat) (g : Nat) (p1 : Nat) (p2 : Nat) (p3 : Nat) (p4 : Int) (p5 : Int) (mi : Mem) : Option Rz :=
  isG mi g <| ptG mi g 0 p1 fun m6 =>
  isG m6 g <| ptG m6 g 1 p2 fun m11 =>
  isG m11 g <| ptG m11 g 2 p3 fun m16 =>
  isG m16 g <| ptF m16 g 3 p4 fun m22 =>
  isG m22 g <| ptF m22 g 4 p5 fun m28 =>
  rt 0 m28
set_option maxRecDepth 100000 in
set_option maxHeartbeats 4000000 in
theorem s_X1_init (l : Launch) (sc : g_S) (E : Mem → g_H) (R : Nat → Prop) (hE : LE E R) (hR : RD R) (n : Nat)  (g : Nat) (p1 : Nat) (p2 : Nat) (p3 : Nat) (p4 : Int) (p5 : Int) (hg : 1000 ≤ g) (hp4 : inR p4) (hp5 : inR p5) (mi : Mem) (r : Rz) (H : f_X1_init n g p1 p2 p3 p4 p5 mi = some r) : AMet l sc yX1_init cX1_init 6 none 1 0 0 [.ref g, rv p1, rv p2, rv p3, iv p4, iv p5] (E mi) (pV E r) := by
  unfold f_X1_init at H
  refine AMet.of (own := RX1) (by decide +kernel) rfl (by rcases rv_or p1 with ep1 | ⟨_, ep1⟩ <;> rcases rv_or p2 with ep2 | ⟨_, ep2⟩ <;> rcases rv_or p3 with ep3 | ⟨_, ep3⟩ <;> simp only [ep1, ep2, ep3] <;> exact Nat.le_of_ble_eq_true rfl) [(0, .ref g), (1, rv p1), (2, rv p2), (3, rv p3), (4, iv p4), (5, iv p5)] (by rcases rv_or p1 with ep1 | ⟨_, ep1⟩ <;> rcases rv_or p2 with ep2 | ⟨_, ep2⟩ <;> rcases rv_or p3 with ep3 | ⟨_, ep3⟩ <;> simp only [ep1, ep2, ep3] <;> rfl) (fun D base ad => ?_)
  refine aw_aload_n (pc := 0) dX1_init_0 rfl ?_
  refine cx_objInit (pc := 1) oi_X1_3 (Nat.le_of_ble_eq_true rfl) (Nat.le_of_ble_eq_true rfl) dX1_init_1 ?_
  refine aw_aload_n (pc := 4) dX1_init_4 rfl ?_
  refine cx_aload_n (pc := 5) dX1_init_5 rfl ?_
  refine cx_ptGf (pc := 6) tyX1 hE (hR _ hg) flo_X1_9 (fun r h => ⟨gty_X1 r h, by cases h; rfl⟩) rfl (fun r h => by cases h; rfl) (fun u => by rcases rv_or u with h | ⟨a, h⟩ <;> rw [h] <;> rfl) rfl (Nat.le_of_ble_eq_true rfl) dX1_init_6 H (fun m6 H => ?_)
  refine aw_aload_n (pc := 9) dX1_init_9 rfl ?_
  refine cx_aload_n (pc := 10) dX1_init_10 rfl ?_
  refine cx_ptGf (pc := 11) tyX1 hE (hR _ hg) flo_X1_15 (fun r h => ⟨gty_X1 r h, by cases h; rfl⟩) rfl (fun r h => by cases h; rfl) (fun u => by rcases rv_or u with h | ⟨a, h⟩ <;> rw [h] <;> rfl) rfl (Nat.le_of_ble_eq_true rfl) dX1_init_11 H (fun m11 H => ?_)
  refine aw_aload_n (pc := 14) dX1_init_14 rfl ?_
  refine cx_aload_n (pc := 15) dX1_init_15 rfl ?_
  refine cx_ptGf (pc := 16) tyX1 hE (hR _ hg) flo_X1_18 (fun r h => ⟨gty_X1 r h, by cases h; rfl⟩) rfl (fun r h => by cases h; rfl) (fun u => by rcases rv_or u with h | ⟨a, h⟩ <;> rw [h] <;> rfl) rfl (Nat.le_of_ble_eq_true rfl) dX1_init_16 H (fun m16 H => ?_)
  refine aw_aload_n (pc := 19) dX1_init_19 rfl ?_
  refine aw_iload (pc := 20) dX1_init_20 rfl ?_
  refine cx_ptFf (pc := 22) tyX1 hE (hR _ hg) flo_X1_22 (fun r h => ⟨gty_X1 r h, by cases h; rfl⟩) rfl (fun r h => by cases h; rfl) rfl rfl (Nat.le_of_ble_eq_true rfl) dX1_init_22 H (fun m22 H => ?_)
  refine aw_aload_n (pc := 25) dX1_init_25 rfl ?_
  refine aw_iload (pc := 26) dX1_init_26 rfl ?_
  refine cx_ptFf (pc := 28) tyX1 hE (hR _ hg) flo_X1_26 (fun r h => ⟨gty_X1 r h, by cases h; rfl⟩) rfl (fun r h => by cases h; rfl) rfl rfl (Nat.le_of_ble_eq_true rfl) dX1_init_28 H (fun m28 H => ?_)
  exact cx_vret (pc := 31) rfl (Nat.le_of_ble_eq_true rfl) (Nat.le_of_ble_eq_true rfl) dX1_init_31 H
/-- X1 zero ()LUppityGames$Game; -/
def f_X1_zero (n : Nat)  (mi : Mem) : Option Rz :=
  nwG mi fun q0 m0 =>
  nwI m0 1 10 fun q5 m5 =>
  nwI m5 1 10 fun q8 m8 =>
  nwB m8 1 10 fun q11 m11 =>
  stB m11 q11 0 48 fun m17 =>
  cal (f_X1_init n q0 q5 q8 q11 0 0 m17) fun _ m20 =>
  rt (q0 : Nat) m20
set_option maxRecDepth 100000 in
set_option maxHeartbeats 4000000 in
theorem s_X1_zero (l : Launch) (sc : g_S) (E : Mem → g_H) (R : Nat → Prop) (hE : LE E R) (hR : RD R) (hsc : sc.1 = 0) (n : Nat)    (mi : Mem) (r : Rz) (H : f_X1_zero n  mi = some r) : AMet l sc yX1_zero cX1_zero 0 (some (FieldType.object "UppityGames$Game")) 2 4 35 [] (E mi) (pG E r) := by
  unfold f_X1_zero at H
  refine AMet.of (own := RX1) (by decide +kernel) rfl (Nat.le_of_ble_eq_true rfl) [] rfl (fun D base ad => ?_)
  refine cx_nwG (pc := 0) hE hR hsc kl_X1_10 (Nat.le_of_ble_eq_true rfl) (Nat.le_of_ble_eq_true rfl) dX1_zero_0 H (fun q0 m0 hq0 H => ?_)
  refine aw_dup (pc := 3) dX1_zero_3 rfl ?_
  refine cx_iconst (pc := 4) dX1_zero_4 ?_
  refine cx_nwI (pc := 5) (cap := 10) hE hR hsc (inR_lit _ rfl) ac_int (Nat.le_of_ble_eq_true rfl) (Nat.le_of_ble_eq_true rfl) (Nat.le_of_ble_eq_true rfl) dX1_zero_5 H (fun q5 m5 hq5 H => ?_)
  refine cx_iconst (pc := 7) dX1_zero_7 ?_
  refine cx_nwI (pc := 8) (cap := 10) hE hR hsc (inR_lit _ rfl) ac_int (Nat.le_of_ble_eq_true rfl) (Nat.le_of_ble_eq_true rfl) (Nat.le_of_ble_eq_true rfl) dX1_zero_8 H (fun q8 m8 hq8 H => ?_)
  refine cx_iconst (pc := 10) dX1_zero_10 ?_
  refine cx_nwB (pc := 11) (cap := 10) hE hR hsc (inR_lit _ rfl) ac_byte (Nat.le_of_ble_eq_true rfl) (Nat.le_of_ble_eq_true rfl) (Nat.le_of_ble_eq_true rfl) dX1_zero_11 H (fun q11 m11 hq11 H => ?_)
  refine aw_dup (pc := 13) dX1_zero_13 rfl ?_
  refine cx_iconst (pc := 14) dX1_zero_14 ?_
  refine cx_bipush (pc := 15) dX1_zero_15 (by decide) ?_
  refine cx_stB (pc := 17) hE (hR _ hq11) (inR_lit _ rfl) dX1_zero_17 H (fun m17 H => ?_)
  refine cx_iconst (pc := 18) dX1_zero_18 ?_
  refine cx_iconst (pc := 19) dX1_zero_19 ?_
  refine AW.eqs (st' := [iv 0, iv 0, rv q11, rv q8, rv q5, .ref q0, .ref q0]) (by simp only [rv_s (show q5 ≠ 0 by omega), rv_s (show q8 ≠ 0 by omega), rv_s (show q11 ≠ 0 by omega)]) ?_
  refine cx_callI (pc := 20) (dC := 1) (mcC := 0) (msC := 0) [rv q5, rv q8, rv q11, iv 0, iv 0] (fun r1 H1 => s_X1_init l sc E R hE hR n q0 q5 q8 q11 0 0 hq0 (inR_lit _ rfl) (inR_lit _ rfl) m17 r1 H1) ca_X1_29 rfl rfl (Nat.le_of_ble_eq_true rfl) (Nat.le_of_ble_eq_true rfl) (Nat.le_of_ble_eq_true rfl) (Nat.le_of_ble_eq_true rfl) dX1_zero_20 H (fun _ m20 H => ?_)
  refine AW.eqs (st' := [rv q0]) (by simp only [rv_s (show q0 ≠ 0 by omega)]) ?_
  exact cx_aret (pc := 23) ⟨_, rfl, Or.inl ⟨_, rfl⟩⟩ (Nat.le_of_ble_eq_true rfl) (Nat.le_of_ble_eq_true rfl) dX1_zero_23 H
/-- X1 farHeap ()LUppityGames$Game; -/
def f_X1_farHeap (n : Nat)  (mi : Mem) : Option Rz :=
  nwI mi 11 11 fun q2 m2 =>
  lp (F := Int → Mem → Option Rz) (fun _ _ => none) (fun w7 v1_7 m7 =>
    lenA m7 q2 fun x9 =>
    if v1_7 < x9 then (
      stI m7 q2 v1_7 (w32 ((ishl 1 v1_7) - 1)) fun m20 =>
      w7 (w32 (v1_7 + 1)) m20
    ) else
    nwG m7 fun q27 m27 =>
    nwB m27 3 11 fun q34 m34 =>
    stB m34 q34 0 42 fun m40 =>
    stB m40 q34 1 49 fun m45 =>
    stB m45 q34 2 48 fun m50 =>
    cal (f_X1_init n q27 q2 q2 q34 10 10 m50) fun _ m55 =>
    rt (q27 : Nat) m55
  ) n 0 m2
set_option maxRecDepth 100000 in
set_option maxHeartbeats 4000000 in
theorem s_X1_farHeap (l : Launch) (sc : g_S) (E : Mem → g_H) (R : Nat → Prop) (hE : LE E R) (hR : RD R) (hsc : sc.1 = 0) (n : Nat)    (mi : Mem) (r : Rz) (H : f_X1_farHeap n  mi = some r) : AMet l sc yX1_farHeap cX1_farHeap 2 (some (FieldType.object "UppityGames$Game")) 2 3 27 [] (E mi) (pG E r) := by
  unfold f_X1_farHeap at H
  refine AMet.of (own := RX1) (by decide +kernel) rfl (Nat.le_of_ble_eq_true rfl) [] rfl (fun D base ad => ?_)
  refine cx_bipush (pc := 0) dX1_farHeap_0 (by decide) ?_
  refine cx_nwI (pc := 2) (cap := 11) hE hR hsc (inR_lit _ rfl) ac_int (Nat.le_of_ble_eq_true rfl) (Nat.le_of_ble_eq_true rfl) (Nat.le_of_ble_eq_true rfl) dX1_farHeap_2 H (fun q2 m2 hq2 H => ?_)
  refine aw_astore_n (pc := 4) [(0, .ref q2)] dX1_farHeap_4 rfl (by decide) ?_
  refine cx_iconst (pc := 5) dX1_farHeap_5 ?_
  refine aw_istore_n (pc := 6) [(1, iv 0), (0, .ref q2)] dX1_farHeap_6 rfl (by decide) ?_
  refine AW.sel [1, 0] rfl (lp_ind (bot := fun _ _ => none) (fun (f9 : Int → Mem → Option Rz) => ∀ (v1_7 : Int) (m7 : Mem), inR v1_7 → f9 v1_7 m7 = some r → AW l D base sc RX1 yX1_farHeap cX1_farHeap 2 (some (FieldType.object "UppityGames$Game")) 2 3 27 ad (E mi) (pG E r) 1 11 (E m7) 7 [(0, .ref q2), (1, iv v1_7)] []) (fun _ _ _ h9 => nomatch h9) (fun w7 ih7 v1_7 m7 hv1_7 H => ?_) n _ _ (inR_lit _ rfl) H)
  refine aw_iload_n (pc := 7) dX1_farHeap_7 rfl ?_
  refine aw_aload_n (pc := 8) dX1_farHeap_8 rfl ?_
  refine cx_lenA (pc := 9) hE (hR _ hq2) dX1_farHeap_9 H (fun x9 hx9 H => ?_)
  refine cx_icmp_ge (pc := 10) 27 hv1_7 hx9 dX1_farHeap_10 rfl H (fun H => ?_) (fun H => ?_)
  · -- 10: 13
    refine aw_aload_n (pc := 13) dX1_farHeap_13 rfl ?_
    refine aw_iload_n (pc := 14) dX1_farHeap_14 rfl ?_
    refine cx_iconst (pc := 15) dX1_farHeap_15 ?_
    refine aw_iload_n (pc := 16) dX1_farHeap_16 rfl ?_
    refine cx_ishl (pc := 17) dX1_farHeap_17 ?_
    refine cx_iconst (pc := 18) dX1_farHeap_18 ?_
    refine cx_isub (pc := 19) dX1_farHeap_19 ?_
    refine cx_stI (pc := 20) hE (hR _ hq2) hv1_7 dX1_farHeap_20 H (fun m20 H => ?_)
    refine cx_iinc (pc := 21) [(1, iv (w32 (v1_7 + 1))), (0, .ref q2)] dX1_farHeap_21 rfl rfl (by decide) ?_
    refine aw_goto (pc := 24) 7 dX1_farHeap_24 rfl ?_
    exact AW.sel [1, 0] rfl (ih7 _ _ (inR_w32 _) H)
  · -- 10: 27
    refine cx_nwG (pc := 27) hE hR hsc kl_X1_10 (Nat.le_of_ble_eq_true rfl) (Nat.le_of_ble_eq_true rfl) dX1_farHeap_27 H (fun q27 m27 hq27 H => ?_)
    refine aw_dup (pc := 30) dX1_farHeap_30 rfl ?_
    refine aw_aload_n (pc := 31) dX1_farHeap_31 rfl ?_
    refine aw_aload_n (pc := 32) dX1_farHeap_32 rfl ?_
    refine cx_iconst (pc := 33) dX1_farHeap_33 ?_
    refine cx_nwB (pc := 34) (cap := 11) hE hR hsc (inR_lit _ rfl) ac_byte (Nat.le_of_ble_eq_true rfl) (Nat.le_of_ble_eq_true rfl) (Nat.le_of_ble_eq_true rfl) dX1_farHeap_34 H (fun q34 m34 hq34 H => ?_)
    refine aw_dup (pc := 36) dX1_farHeap_36 rfl ?_
    refine cx_iconst (pc := 37) dX1_farHeap_37 ?_
    refine cx_bipush (pc := 38) dX1_farHeap_38 (by decide) ?_
    refine cx_stB (pc := 40) hE (hR _ hq34) (inR_lit _ rfl) dX1_farHeap_40 H (fun m40 H => ?_)
    refine aw_dup (pc := 41) dX1_farHeap_41 rfl ?_
    refine cx_iconst (pc := 42) dX1_farHeap_42 ?_
    refine cx_bipush (pc := 43) dX1_farHeap_43 (by decide) ?_
    refine cx_stB (pc := 45) hE (hR _ hq34) (inR_lit _ rfl) dX1_farHeap_45 H (fun m45 H => ?_)
    refine aw_dup (pc := 46) dX1_farHeap_46 rfl ?_
    refine cx_iconst (pc := 47) dX1_farHeap_47 ?_
    refine cx_bipush (pc := 48) dX1_farHeap_48 (by decide) ?_
    refine cx_stB (pc := 50) hE (hR _ hq34) (inR_lit _ rfl) dX1_farHeap_50 H (fun m50 H => ?_)
    refine cx_bipush (pc := 51) dX1_farHeap_51 (by decide) ?_
    refine cx_bipush (pc := 53) dX1_farHeap_53 (by decide) ?_
    refine AW.eqs (st' := [iv 10, iv 10, rv q34, rv q2, rv q2, .ref q27, .ref q27]) (by simp only [rv_s (show q2 ≠ 0 by omega), rv_s (show q2 ≠ 0 by omega), rv_s (show q34 ≠ 0 by omega)]) ?_
    refine cx_callI (pc := 55) (dC := 1) (mcC := 0) (msC := 0) [rv q2, rv q2, rv q34, iv 10, iv 10] (fun r1 H1 => s_X1_init l sc E R hE hR n q27 q2 q2 q34 10 10 hq27 (inR_lit _ rfl) (inR_lit _ rfl) m50 r1 H1) ca_X1_29 rfl rfl (Nat.le_of_ble_eq_true rfl) (Nat.le_of_ble_eq_true rfl) (Nat.le_of_ble_eq_true rfl) (Nat.le_of_ble_eq_true rfl) dX1_farHeap_55 H (fun _ m55 H => ?_)
    refine AW.eqs (st' := [rv q27]) (by simp only [rv_s (show q27 ≠ 0 by omega)]) ?_
    exact cx_aret (pc := 58) ⟨_, rfl, Or.inl ⟨_, rfl⟩⟩ (Nat.le_of_ble_eq_true rfl) (Nat.le_of_ble_eq_true rfl) dX1_farHeap_58 H
/-- X1 isInteger ()Z -/
def f_X1_isInteger (n : Nat) (g : Nat) (mi : Mem) : Option Rz :=
  isG mi g <| cal (f_X1_top n g mi) fun x2 m2 =>
  isG m2 g <| cal (f_X1_options n g x2 0 m2) fun x6 m6 =>
  jn (fun (s0_29 : Int) (m29 : Mem) =>
    rtZ s0_29 m29
  ) fun (j29 : Int → Mem → Option Rz) =>
  jn (fun (m24 : Mem) =>
    j29 1 m24
  ) fun (j24 : Mem → Option Rz) =>
  if x6 = 0 then (
    j24 m6
  ) else
  isG m6 g <| cal (f_X1_top n g m6) fun x14 m14 =>
  isG m14 g <| cal (f_X1_options n g x14 1 m14) fun x18 m18 =>
  if x18 = 0 then (
    j24 m18
  ) else
  j29 0 m18
set_option maxRecDepth 100000 in
set_option maxHeartbeats 4000000 in
theorem s_X1_isInteger (l : Launch) (sc : g_S) (E : Mem → g_H) (R : Nat → Prop) (hE : LE E R) (hR : RD R) (n : Nat)  (g : Nat) (hg : 1000 ≤ g) (mi : Mem) (r : Rz) (H : f_X1_isInteger n g mi = some r) : AMet l sc yX1_isInteger cX1_isInteger 1 (some FieldType.boolean) 1 0 0 [.ref g] (E mi) (pI E r) := by
  unfold f_X1_isInteger at H
  refine AMet.of (own := RX1) (by decide +kernel) rfl (Nat.le_of_ble_eq_true rfl) [(0, .ref g)] rfl (fun D base ad => ?_)
  refine aw_aload_n (pc := 0) dX1_isInteger_0 rfl ?_
  refine aw_aload_n (pc := 1) dX1_isInteger_1 rfl ?_
  refine cx_callG (pc := 2) (P := pI) (dC := 0) (mcC := 0) (msC := 0) [] hE hR (fun r1 H1 => s_X1_top l sc E R hE hR n g hg mi r1 H1) ca_X1_40 ⟨_, rfl, rfl⟩ rfl rfl (Nat.le_of_ble_eq_true rfl) (Nat.le_of_ble_eq_true rfl) (Nat.le_of_ble_eq_true rfl) (Nat.le_of_ble_eq_true rfl) dX1_isInteger_2 H (fun x2 m2 v2 hh2 H hp => ?_)
  refine cx_backI hp (fun hx2 => ?_)
  refine cx_iconst (pc := 5) dX1_isInteger_5 ?_
  refine cx_callG (pc := 6) (P := pI) (dC := 0) (mcC := 0) (msC := 0) [iv x2, iv 0] hE hR (fun r1 H1 => s_X1_options l sc E R hE hR n g x2 0 hg hx2 (inR_lit _ rfl) m2 r1 H1) ca_X1_32 ⟨_, rfl, rfl⟩ rfl rfl (Nat.le_of_ble_eq_true rfl) (Nat.le_of_ble_eq_true rfl) (Nat.le_of_ble_eq_true rfl) (Nat.le_of_ble_eq_true rfl) dX1_isInteger_6 H (fun x6 m6 v6 hh6 H hp => ?_)
  refine cx_backI hp (fun hx6 => ?_)
  refine jn_ind (fun (f9 : Int → Mem → Option Rz) => ∀ (s0_29 : Int) (m29 : Mem), inR s0_29 → f9 s0_29 m29 = some r → AW l D base sc RX1 yX1_isInteger cX1_isInteger 1 (some FieldType.boolean) 1 0 0 ad (E mi) (pI E r) 0 0 (E m29) 29 [] [iv s0_29]) (fun s0_29 m29 hs0_29 H => ?_) (fun j29 hj29 H => ?_) H
  · -- 29
    exact cx_zret (pc := 29) rfl (Nat.le_of_ble_eq_true rfl) (Nat.le_of_ble_eq_true rfl) dX1_isInteger_29 H
  refine jn_ind (fun (f9 : Mem → Option Rz) => ∀ (m24 : Mem), f9 m24 = some r → AW l D base sc RX1 yX1_isInteger cX1_isInteger 1 (some FieldType.boolean) 1 0 0 ad (E mi) (pI E r) 0 0 (E m24) 24 [] []) (fun m24 H => ?_) (fun j24 hj24 H => ?_) H
  · -- 24
    refine cx_iconst (pc := 24) dX1_isInteger_24 ?_
    refine aw_goto (pc := 25) 29 dX1_isInteger_25 rfl ?_
    exact AW.sel [] rfl (hj29 _ _ (inR_lit _ rfl) H)
  refine cx_if_eq (pc := 9) 24 hx6 dX1_isInteger_9 rfl H (fun H => ?_) (fun H => ?_)
  · -- 9: 24
    exact AW.sel [] rfl (hj24 _ H)
  · -- 9: 12
    refine aw_aload_n (pc := 12) dX1_isInteger_12 rfl ?_
    refine aw_aload_n (pc := 13) dX1_isInteger_13 rfl ?_
    refine cx_callG (pc := 14) (P := pI) (dC := 0) (mcC := 0) (msC := 0) [] hE hR (fun r1 H1 => s_X1_top l sc E R hE hR n g hg m6 r1 H1) ca_X1_40 ⟨_, rfl, rfl⟩ rfl rfl (Nat.le_of_ble_eq_true rfl) (Nat.le_of_ble_eq_true rfl) (Nat.le_of_ble_eq_true rfl) (Nat.le_of_ble_eq_true rfl) dX1_isInteger_14 H (fun x14 m14 v14 hh14 H hp => ?_)
    refine cx_backI hp (fun hx14 => ?_)
    refine cx_iconst (pc := 17) dX1_isInteger_17 ?_
    refine cx_callG (pc := 18) (P := pI) (dC := 0) (mcC := 0) (msC := 0) [iv x14, iv 1] hE hR (fun r1 H1 => s_X1_options l sc E R hE hR n g x14 1 hg hx14 (inR_lit _ rfl) m14 r1 H1) ca_X1_32 ⟨_, rfl, rfl⟩ rfl rfl (Nat.le_of_ble_eq_true rfl) (Nat.le_of_ble_eq_true rfl) (Nat.le_of_ble_eq_true rfl) (Nat.le_of_ble_eq_true rfl) dX1_isInteger_18 H (fun x18 m18 v18 hh18 H hp => ?_)
    refine cx_backI hp (fun hx18 => ?_)
    refine cx_if_ne (pc := 21) 28 hx18 dX1_isInteger_21 rfl H (fun H => ?_) (fun H => ?_)
    · -- 21: 24
      exact AW.sel [] rfl (hj24 _ H)
    · -- 21: 28
      refine cx_iconst (pc := 28) dX1_isInteger_28 ?_
      exact AW.sel [] rfl (hj29 _ _ (inR_lit _ rfl) H)
/-- X1 isSmall ()Z -/
def f_X1_isSmall (n : Nat) (g : Nat) (mi : Mem) : Option Rz :=
  lp (F := Int → Mem → Option Rz) (fun _ _ => none) (fun w2 v1_2 m2 =>
    gmG m2 g 0 fun x4 =>
    isD x4 <|
    lenA m2 x4 fun x7 =>
    if v1_2 < x7 then (
      isG m2 g <| cal (f_X1_options n g v1_2 0 m2) fun x14 m14 =>
      jn (fun (s0_25 : Int) (m25 : Mem) =>
        isG m25 g <| cal (f_X1_options n g v1_2 1 m25) fun x28 m28 =>
        jn (fun (s0_39 : Int) (m39 : Mem) =>
          if s0_25 = s0_39 then (
            w2 (w32 (v1_2 + 1)) m39
          ) else
          rtZ 0 m39
        ) fun (j39 : Int → Mem → Option Rz) =>
        if x28 = 0 then (
          j39 1 m28
        ) else
        j39 0 m28
      ) fun (j25 : Int → Mem → Option Rz) =>
      if x14 = 0 then (
        j25 1 m14
      ) else
      j25 0 m14
    ) else
    rtZ 1 m2
  ) n 0 mi
set_option maxRecDepth 100000 in
set_option maxHeartbeats 4000000 in
theorem s_X1_isSmall (l : Launch) (sc : g_S) (E : Mem → g_H) (R : Nat → Prop) (hE : LE E R) (hR : RD R) (n : Nat)  (g : Nat) (hg : 1000 ≤ g) (mi : Mem) (r : Rz) (H : f_X1_isSmall n g mi = some r) : AMet l sc yX1_isSmall cX1_isSmall 2 (some FieldType.boolean) 1 0 0 [.ref g] (E mi) (pI E r) := by
  unfold f_X1_isSmall at H
  refine AMet.of (own := RX1) (by decide +kernel) rfl (Nat.le_of_ble_eq_true rfl) [(0, .ref g)] rfl (fun D base ad => ?_)
  refine cx_iconst (pc := 0) dX1_isSmall_0 ?_
  refine aw_istore_n (pc := 1) [(1, iv 0), (0, .ref g)] dX1_isSmall_1 rfl (by decide) ?_
  refine AW.sel [1, 0] rfl (lp_ind (bot := fun _ _ => none) (fun (f9 : Int → Mem → Option Rz) => ∀ (v1_2 : Int) (m2 : Mem), inR v1_2 → f9 v1_2 m2 = some r → AW l D base sc RX1 yX1_isSmall cX1_isSmall 2 (some FieldType.boolean) 1 0 0 ad (E mi) (pI E r) 0 0 (E m2) 2 [(0, .ref g), (1, iv v1_2)] []) (fun _ _ _ h9 => nomatch h9) (fun w2 ih2 v1_2 m2 hv1_2 H => ?_) n _ _ (inR_lit _ rfl) H)
  refine aw_iload_n (pc := 2) dX1_isSmall_2 rfl ?_
  refine aw_aload_n (pc := 3) dX1_isSmall_3 rfl ?_
  refine cx_gmG (pc := 4) hE hR hg fl_X1_9 rfl (Nat.le_of_ble_eq_true rfl) dX1_isSmall_4 H (fun x4 H => ?_)
  refine cx_nn0 H (fun hg7_1 H => ?_)
  refine cx_lenA (pc := 7) hE (hR _ hg7_1) dX1_isSmall_7 H (fun x7 hx7 H => ?_)
  refine cx_icmp_ge (pc := 8) 50 hv1_2 hx7 dX1_isSmall_8 rfl H (fun H => ?_) (fun H => ?_)
  · -- 8: 11
    refine aw_aload_n (pc := 11) dX1_isSmall_11 rfl ?_
    refine aw_iload_n (pc := 12) dX1_isSmall_12 rfl ?_
    refine cx_iconst (pc := 13) dX1_isSmall_13 ?_
    refine cx_callG (pc := 14) (P := pI) (dC := 0) (mcC := 0) (msC := 0) [iv v1_2, iv 0] hE hR (fun r1 H1 => s_X1_options l sc E R hE hR n g v1_2 0 hg hv1_2 (inR_lit _ rfl) m2 r1 H1) ca_X1_32 ⟨_, rfl, rfl⟩ rfl rfl (Nat.le_of_ble_eq_true rfl) (Nat.le_of_ble_eq_true rfl) (Nat.le_of_ble_eq_true rfl) (Nat.le_of_ble_eq_true rfl) dX1_isSmall_14 H (fun x14 m14 v14 hh14 H hp => ?_)
    refine cx_backI hp (fun hx14 => ?_)
    refine jn_ind (fun (f9 : Int → Mem → Option Rz) => ∀ (s0_25 : Int) (m25 : Mem), inR s0_25 → f9 s0_25 m25 = some r → AW l D base sc RX1 yX1_isSmall cX1_isSmall 2 (some FieldType.boolean) 1 0 0 ad (E mi) (pI E r) 0 0 (E m25) 25 [(0, .ref g), (1, iv v1_2)] [iv s0_25]) (fun s0_25 m25 hs0_25 H => ?_) (fun j25 hj25 H => ?_) H
    · -- 25
      refine aw_aload_n (pc := 25) dX1_isSmall_25 rfl ?_
      refine aw_iload_n (pc := 26) dX1_isSmall_26 rfl ?_
      refine cx_iconst (pc := 27) dX1_isSmall_27 ?_
      refine cx_callG (pc := 28) (P := pI) (dC := 0) (mcC := 0) (msC := 0) [iv v1_2, iv 1] hE hR (fun r1 H1 => s_X1_options l sc E R hE hR n g v1_2 1 hg hv1_2 (inR_lit _ rfl) m25 r1 H1) ca_X1_32 ⟨_, rfl, rfl⟩ rfl rfl (Nat.le_of_ble_eq_true rfl) (Nat.le_of_ble_eq_true rfl) (Nat.le_of_ble_eq_true rfl) (Nat.le_of_ble_eq_true rfl) dX1_isSmall_28 H (fun x28 m28 v28 hh28 H hp => ?_)
      refine cx_backI hp (fun hx28 => ?_)
      refine jn_ind (fun (f9 : Int → Mem → Option Rz) => ∀ (s0_39 : Int) (m39 : Mem), inR s0_39 → f9 s0_39 m39 = some r → AW l D base sc RX1 yX1_isSmall cX1_isSmall 2 (some FieldType.boolean) 1 0 0 ad (E mi) (pI E r) 0 0 (E m39) 39 [(0, .ref g), (1, iv v1_2)] [iv s0_39, iv s0_25]) (fun s0_39 m39 hs0_39 H => ?_) (fun j39 hj39 H => ?_) H
      · -- 39
        refine cx_icmp_eq (pc := 39) 44 hs0_25 hs0_39 dX1_isSmall_39 rfl H (fun H => ?_) (fun H => ?_)
        · -- 39: 44
          refine cx_iinc (pc := 44) [(1, iv (w32 (v1_2 + 1))), (0, .ref g)] dX1_isSmall_44 rfl rfl (by decide) ?_
          refine aw_goto (pc := 47) 2 dX1_isSmall_47 rfl ?_
          exact AW.sel [1, 0] rfl (ih2 _ _ (inR_w32 _) H)
        · -- 39: 42
          refine cx_iconst (pc := 42) dX1_isSmall_42 ?_
          exact cx_zret (pc := 43) rfl (Nat.le_of_ble_eq_true rfl) (Nat.le_of_ble_eq_true rfl) dX1_isSmall_43 H
      refine cx_if_ne (pc := 31) 38 hx28 dX1_isSmall_31 rfl H (fun H => ?_) (fun H => ?_)
      · -- 31: 34
        refine cx_iconst (pc := 34) dX1_isSmall_34 ?_
        refine aw_goto (pc := 35) 39 dX1_isSmall_35 rfl ?_
        exact AW.sel [0, 1] rfl (hj39 _ _ (inR_lit _ rfl) H)
      · -- 31: 38
        refine cx_iconst (pc := 38) dX1_isSmall_38 ?_
        exact AW.sel [0, 1] rfl (hj39 _ _ (inR_lit _ rfl) H)
    refine cx_if_ne (pc := 17) 24 hx14 dX1_isSmall_17 rfl H (fun H => ?_) (fun H => ?_)
    · -- 17: 20
      refine cx_iconst (pc := 20) dX1_isSmall_20 ?_
      refine aw_goto (pc := 21) 25 dX1_isSmall_21 rfl ?_
      exact AW.sel [0, 1] rfl (hj25 _ _ (inR_lit _ rfl) H)
    · -- 17: 24
      refine cx_iconst (pc := 24) dX1_isSmall_24 ?_
      exact AW.sel [0, 1] rfl (hj25 _ _ (inR_lit _ rfl) H)
  · -- 8: 50
    refine cx_iconst (pc := 50) dX1_isSmall_50 ?_
    exact cx_zret (pc := 51) rfl (Nat.le_of_ble_eq_true rfl) (Nat.le_of_ble_eq_true rfl) dX1_isSmall_51 H
/-- X1 compareWords (LUppityGames$Game;)I -/
def f_X1_compareWords (n : Nat) (g : Nat) (p1 : Nat) (mi : Mem) : Option Rz :=
  gmG mi g 2 fun x1 =>
  isD x1 <|
  lenA mi x1 fun x4 =>
  isD p1 <|
  gmG mi p1 2 fun x6 =>
  isD x6 <|
  lenA mi x6 fun x9 =>
  if x4 = x9 then (
    lp (F := Int → Mem → Option Rz) (fun _ _ => none) (fun w29 v2_29 m29 =>
      gmG m29 g 2 fun x31 =>
      isD x31 <|
      lenA m29 x31 fun x34 =>
      jn (fun (m84 : Mem) =>
        rt 0 m84
      ) fun (j84 : Mem → Option Rz) =>
      if v2_29 < x34 then (
        isD p1 <|
        gmG m29 p1 2 fun x40 =>
        isD x40 <|
        lenA m29 x40 fun x43 =>
        if v2_29 < x43 then (
          gmG m29 g 2 fun x48 =>
          isD x48 <|
          ldB m29 x48 v2_29 fun x52 =>
          isD p1 <|
          gmG m29 p1 2 fun x54 =>
          isD x54 <|
          ldB m29 x54 v2_29 fun x58 =>
          if x52 = x58 then (
            w29 (w32 (v2_29 + 1)) m29
          ) else
          gmG m29 g 2 fun x63 =>
          isD x63 <|
          ldB m29 x63 v2_29 fun x67 =>
          isD p1 <|
          gmG m29 p1 2 fun x69 =>
          isD x69 <|
          ldB m29 x69 v2_29 fun x73 =>
          cal (f_J6_compare_7cf53 n x67 x73 m29) fun x74 m74 =>
          rt x74 m74
        ) else
        j84 m29
      ) else
      j84 m29
    ) n 0 mi
  ) else
  gmG mi g 2 fun x14 =>
  isD x14 <|
  lenA mi x14 fun x17 =>
  isD p1 <|
  gmG mi p1 2 fun x19 =>
  isD x19 <|
  lenA mi x19 fun x22 =>
  cal (f_J6_compare_7cf53 n x17 x22 mi) fun x23 m23 =>
  rt x23 m23
set_option maxRecDepth 100000 in
set_option maxHeartbeats 4000000 in
theorem s_X1_compareWords (l : Launch) (sc : g_S) (E : Mem → g_H) (R : Nat → Prop) (hE : LE E R) (hR : RD R) (n : Nat)  (g : Nat) (p1 : Nat) (hg : 1000 ≤ g) (mi : Mem) (r : Rz) (H : f_X1_compareWords n g p1 mi = some r) : AMet l sc yX1_compareWords cX1_compareWords 3 (some FieldType.int) 1 0 0 [.ref g, rv p1] (E mi) (pI E r) := by
  unfold f_X1_compareWords at H
  refine AMet.of (own := RX1) (by decide +kernel) rfl (by rcases rv_or p1 with ep1 | ⟨_, ep1⟩ <;> simp only [ep1] <;> exact Nat.le_of_ble_eq_true rfl) [(0, .ref g), (1, rv p1)] (by rcases rv_or p1 with ep1 | ⟨_, ep1⟩ <;> simp only [ep1] <;> rfl) (fun D base ad => ?_)
  refine aw_aload_n (pc := 0) dX1_compareWords_0 rfl ?_
  refine cx_gmG (pc := 1) hE hR hg fl_X1_18 rfl (Nat.le_of_ble_eq_true rfl) dX1_compareWords_1 H (fun x1 H => ?_)
  refine cx_nn0 H (fun hg4_1 H => ?_)
  refine cx_lenA (pc := 4) hE (hR _ hg4_1) dX1_compareWords_4 H (fun x4 hx4 H => ?_)
  refine cx_aload_n (pc := 5) dX1_compareWords_5 rfl ?_
  refine cx_nn0 H (fun hg6_2 H => ?_)
  refine cx_gmG (pc := 6) hE hR hg6_2 fl_X1_18 rfl (Nat.le_of_ble_eq_true rfl) dX1_compareWords_6 H (fun x6 H => ?_)
  refine cx_nn0 H (fun hg9_3 H => ?_)
  refine cx_lenA (pc := 9) hE (hR _ hg9_3) dX1_compareWords_9 H (fun x9 hx9 H => ?_)
  refine cx_icmp_eq (pc := 10) 27 hx4 hx9 dX1_compareWords_10 rfl H (fun H => ?_) (fun H => ?_)
  · -- 10: 27
    refine cx_iconst (pc := 27) dX1_compareWords_27 ?_
    refine aw_istore_n (pc := 28) [(2, iv 0), (0, .ref g), (1, rv p1)] dX1_compareWords_28 (by unfold g_st1; simp only [List.filter, rv_cat]; rfl) (by decide) ?_
    refine AW.sel [1, 2, 0] rfl (lp_ind (bot := fun _ _ => none) (fun (f9 : Int → Mem → Option Rz) => ∀ (v2_29 : Int) (m29 : Mem), inR v2_29 → f9 v2_29 m29 = some r → AW l D base sc RX1 yX1_compareWords cX1_compareWords 3 (some FieldType.int) 1 0 0 ad (E mi) (pI E r) 0 0 (E m29) 29 [(0, .ref g), (1, rv p1), (2, iv v2_29)] []) (fun _ _ _ h9 => nomatch h9) (fun w29 ih29 v2_29 m29 hv2_29 H => ?_) n _ _ (inR_lit _ rfl) H)
    refine aw_iload_n (pc := 29) dX1_compareWords_29 rfl ?_
    refine aw_aload_n (pc := 30) dX1_compareWords_30 rfl ?_
    refine cx_gmG (pc := 31) hE hR hg fl_X1_18 rfl (Nat.le_of_ble_eq_true rfl) dX1_compareWords_31 H (fun x31 H => ?_)
    refine cx_nn0 H (fun hg34_4 H => ?_)
    refine cx_lenA (pc := 34) hE (hR _ hg34_4) dX1_compareWords_34 H (fun x34 hx34 H => ?_)
    refine jn_ind (fun (f9 : Mem → Option Rz) => ∀ (m84 : Mem), f9 m84 = some r → AW l D base sc RX1 yX1_compareWords cX1_compareWords 3 (some FieldType.int) 1 0 0 ad (E mi) (pI E r) 0 0 (E m84) 84 [] []) (fun m84 H => ?_) (fun j84 hj84 H => ?_) H
    · -- 84
      refine cx_iconst (pc := 84) dX1_compareWords_84 ?_
      exact cx_iret (pc := 85) (inR_lit _ rfl) rfl (Nat.le_of_ble_eq_true rfl) (Nat.le_of_ble_eq_true rfl) dX1_compareWords_85 H
    refine cx_icmp_ge (pc := 35) 84 hv2_29 hx34 dX1_compareWords_35 rfl H (fun H => ?_) (fun H => ?_)
    · -- 35: 38
      refine aw_iload_n (pc := 38) dX1_compareWords_38 rfl ?_
      refine cx_aload_n (pc := 39) dX1_compareWords_39 rfl ?_
      refine cx_nn0 H (fun hg40_5 H => ?_)
      refine cx_gmG (pc := 40) hE hR hg40_5 fl_X1_18 rfl (Nat.le_of_ble_eq_true rfl) dX1_compareWords_40 H (fun x40 H => ?_)
      refine cx_nn0 H (fun hg43_6 H => ?_)
      refine cx_lenA (pc := 43) hE (hR _ hg43_6) dX1_compareWords_43 H (fun x43 hx43 H => ?_)
      refine cx_icmp_ge (pc := 44) 84 hv2_29 hx43 dX1_compareWords_44 rfl H (fun H => ?_) (fun H => ?_)
      · -- 44: 47
        refine aw_aload_n (pc := 47) dX1_compareWords_47 rfl ?_
        refine cx_gmG (pc := 48) hE hR hg fl_X1_18 rfl (Nat.le_of_ble_eq_true rfl) dX1_compareWords_48 H (fun x48 H => ?_)
        refine aw_iload_n (pc := 51) dX1_compareWords_51 rfl ?_
        refine cx_nn1 H (fun hg52_7 H => ?_)
        refine cx_ldB (pc := 52) hE (hR _ hg52_7) hv2_29 dX1_compareWords_52 H (fun x52 hx52 H => ?_)
        refine cx_aload_n (pc := 53) dX1_compareWords_53 rfl ?_
        refine cx_nn0 H (fun hg54_8 H => ?_)
        refine cx_gmG (pc := 54) hE hR hg54_8 fl_X1_18 rfl (Nat.le_of_ble_eq_true rfl) dX1_compareWords_54 H (fun x54 H => ?_)
        refine aw_iload_n (pc := 57) dX1_compareWords_57 rfl ?_
        refine cx_nn1 H (fun hg58_9 H => ?_)
        refine cx_ldB (pc := 58) hE (hR _ hg58_9) hv2_29 dX1_compareWords_58 H (fun x58 hx58 H => ?_)
        refine cx_icmp_eq (pc := 59) 78 hx52 hx58 dX1_compareWords_59 rfl H (fun H => ?_) (fun H => ?_)
        · -- 59: 78
          refine cx_iinc (pc := 78) [(2, iv (w32 (v2_29 + 1))), (0, .ref g), (1, rv p1)] dX1_compareWords_78 rfl (by unfold g_st1; simp only [List.filter, rv_cat]; rfl) (by decide) ?_
          refine aw_goto (pc := 81) 29 dX1_compareWords_81 rfl ?_
          exact AW.sel [1, 2, 0] rfl (ih29 _ _ (inR_w32 _) H)
        · -- 59: 62
          refine aw_aload_n (pc := 62) dX1_compareWords_62 rfl ?_
          refine cx_gmG (pc := 63) hE hR hg fl_X1_18 rfl (Nat.le_of_ble_eq_true rfl) dX1_compareWords_63 H (fun x63 H => ?_)
          refine aw_iload_n (pc := 66) dX1_compareWords_66 rfl ?_
          refine cx_nn1 H (fun hg67_10 H => ?_)
          refine cx_ldB (pc := 67) hE (hR _ hg67_10) hv2_29 dX1_compareWords_67 H (fun x67 hx67 H => ?_)
          refine cx_aload_n (pc := 68) dX1_compareWords_68 rfl ?_
          refine cx_nn0 H (fun hg69_11 H => ?_)
          refine cx_gmG (pc := 69) hE hR hg69_11 fl_X1_18 rfl (Nat.le_of_ble_eq_true rfl) dX1_compareWords_69 H (fun x69 H => ?_)
          refine aw_iload_n (pc := 72) dX1_compareWords_72 rfl ?_
          refine cx_nn1 H (fun hg73_12 H => ?_)
          refine cx_ldB (pc := 73) hE (hR _ hg73_12) hv2_29 dX1_compareWords_73 H (fun x73 hx73 H => ?_)
          refine cx_callS (pc := 74) (P := pI) (dC := 0) (mcC := 0) (msC := 0) [iv x67, iv x73] (fun r1 H1 => s_J6_compare_7cf53 l sc E R hE n x67 x73 hx67 hx73 m29 r1 H1) ca_X1_44 rfl rfl (Nat.le_of_ble_eq_true rfl) (Nat.le_of_ble_eq_true rfl) (Nat.le_of_ble_eq_true rfl) (Nat.le_of_ble_eq_true rfl) dX1_compareWords_74 H (fun x74 m74 v74 hh74 H hp => ?_)
          refine cx_backI hp (fun hx74 => ?_)
          exact cx_iret (pc := 77) hx74 rfl (Nat.le_of_ble_eq_true rfl) (Nat.le_of_ble_eq_true rfl) dX1_compareWords_77 H
      · -- 44: 84
        exact AW.sel [] rfl (hj84 _ H)
    · -- 35: 84
      exact AW.sel [] rfl (hj84 _ H)
  · -- 10: 13
    refine aw_aload_n (pc := 13) dX1_compareWords_13 rfl ?_
    refine cx_gmG (pc := 14) hE hR hg fl_X1_18 rfl (Nat.le_of_ble_eq_true rfl) dX1_compareWords_14 H (fun x14 H => ?_)
    refine cx_nn0 H (fun hg17_13 H => ?_)
    refine cx_lenA (pc := 17) hE (hR _ hg17_13) dX1_compareWords_17 H (fun x17 hx17 H => ?_)
    refine cx_aload_n (pc := 18) dX1_compareWords_18 rfl ?_
    refine cx_nn0 H (fun hg19_14 H => ?_)
    refine cx_gmG (pc := 19) hE hR hg19_14 fl_X1_18 rfl (Nat.le_of_ble_eq_true rfl) dX1_compareWords_19 H (fun x19 H => ?_)
    refine cx_nn0 H (fun hg22_15 H => ?_)
    refine cx_lenA (pc := 22) hE (hR _ hg22_15) dX1_compareWords_22 H (fun x22 hx22 H => ?_)
    refine cx_callS (pc := 23) (P := pI) (dC := 0) (mcC := 0) (msC := 0) [iv x17, iv x22] (fun r1 H1 => s_J6_compare_7cf53 l sc E R hE n x17 x22 hx17 hx22 mi r1 H1) ca_X1_44 rfl rfl (Nat.le_of_ble_eq_true rfl) (Nat.le_of_ble_eq_true rfl) (Nat.le_of_ble_eq_true rfl) (Nat.le_of_ble_eq_true rfl) dX1_compareWords_23 H (fun x23 m23 v23 hh23 H hp => ?_)
    refine cx_backI hp (fun hx23 => ?_)
    exact cx_iret (pc := 26) hx23 rfl (Nat.le_of_ble_eq_true rfl) (Nat.le_of_ble_eq_true rfl) dX1_compareWords_26 H
