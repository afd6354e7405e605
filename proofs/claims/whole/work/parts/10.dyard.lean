theorem dJ6_compare_7cf53_0 : decode cJ6_compare_7cf53 0 = .ok (.iload_n 0, 1) := by decide +kernel
theorem dJ6_compare_7cf53_1 : decode cJ6_compare_7cf53 1 = .ok (.iload_n 1, 1) := by decide +kernel
theorem dJ6_compare_7cf53_2 : decode cJ6_compare_7cf53 2 = .ok (.if_icmp .ge 7, 3) := by decide +kernel
theorem dJ6_compare_7cf53_5 : decode cJ6_compare_7cf53 5 = .ok (.iconst (-1), 1) := by decide +kernel
theorem dJ6_compare_7cf53_6 : decode cJ6_compare_7cf53 6 = .ok (.goto 13, 3) := by decide +kernel
theorem dJ6_compare_7cf53_9 : decode cJ6_compare_7cf53 9 = .ok (.iload_n 0, 1) := by decide +kernel
theorem dJ6_compare_7cf53_10 : decode cJ6_compare_7cf53 10 = .ok (.iload_n 1, 1) := by decide +kernel
theorem dJ6_compare_7cf53_11 : decode cJ6_compare_7cf53 11 = .ok (.if_icmp .ne 7, 3) := by decide +kernel
theorem dJ6_compare_7cf53_14 : decode cJ6_compare_7cf53 14 = .ok (.iconst 0, 1) := by decide +kernel
theorem dJ6_compare_7cf53_15 : decode cJ6_compare_7cf53 15 = .ok (.goto 4, 3) := by decide +kernel
theorem dJ6_compare_7cf53_18 : decode cJ6_compare_7cf53 18 = .ok (.iconst 1, 1) := by decide +kernel
theorem dJ6_compare_7cf53_19 : decode cJ6_compare_7cf53 19 = .ok (.ireturn, 1) := by decide +kernel
theorem dJ6_bitCount_0f7a4_0 : decode cJ6_bitCount_0f7a4 0 = .ok (.iload_n 0, 1) := by decide +kernel
theorem dJ6_bitCount_0f7a4_1 : decode cJ6_bitCount_0f7a4 1 = .ok (.iload_n 0, 1) := by decide +kernel
theorem dJ6_bitCount_0f7a4_2 : decode cJ6_bitCount_0f7a4 2 = .ok (.iconst 1, 1) := by decide +kernel
theorem dJ6_bitCount_0f7a4_3 : decode cJ6_bitCount_0f7a4 3 = .ok (.iushr, 1) := by decide +kernel
theorem dJ6_bitCount_0f7a4_4 : decode cJ6_bitCount_0f7a4 4 = .ok (.ldc_w 265, 3) := by decide +kernel
theorem dJ6_bitCount_0f7a4_7 : decode cJ6_bitCount_0f7a4 7 = .ok (.iand, 1) := by decide +kernel
theorem dJ6_bitCount_0f7a4_8 : decode cJ6_bitCount_0f7a4 8 = .ok (.isub, 1) := by decide +kernel
theorem dJ6_bitCount_0f7a4_9 : decode cJ6_bitCount_0f7a4 9 = .ok (.istore_n 0, 1) := by decide +kernel
theorem dJ6_bitCount_0f7a4_10 : decode cJ6_bitCount_0f7a4 10 = .ok (.iload_n 0, 1) := by decide +kernel
theorem dJ6_bitCount_0f7a4_11 : decode cJ6_bitCount_0f7a4 11 = .ok (.ldc_w 266, 3) := by decide +kernel
theorem dJ6_bitCount_0f7a4_14 : decode cJ6_bitCount_0f7a4 14 = .ok (.iand, 1) := by decide +kernel
theorem dJ6_bitCount_0f7a4_15 : decode cJ6_bitCount_0f7a4 15 = .ok (.iload_n 0, 1) := by decide +kernel
theorem dJ6_bitCount_0f7a4_16 : decode cJ6_bitCount_0f7a4 16 = .ok (.iconst 2, 1) := by decide +kernel
theorem dJ6_bitCount_0f7a4_17 : decode cJ6_bitCount_0f7a4 17 = .ok (.iushr, 1) := by decide +kernel
theorem dJ6_bitCount_0f7a4_18 : decode cJ6_bitCount_0f7a4 18 = .ok (.ldc_w 266, 3) := by decide +kernel
theorem dJ6_bitCount_0f7a4_21 : decode cJ6_bitCount_0f7a4 21 = .ok (.iand, 1) := by decide +kernel
theorem dJ6_bitCount_0f7a4_22 : decode cJ6_bitCount_0f7a4 22 = .ok (.iadd, 1) := by decide +kernel
theorem dJ6_bitCount_0f7a4_23 : decode cJ6_bitCount_0f7a4 23 = .ok (.istore_n 0, 1) := by decide +kernel
theorem dJ6_bitCount_0f7a4_24 : decode cJ6_bitCount_0f7a4 24 = .ok (.iload_n 0, 1) := by decide +kernel
theorem dJ6_bitCount_0f7a4_25 : decode cJ6_bitCount_0f7a4 25 = .ok (.iload_n 0, 1) := by decide +kernel
theorem dJ6_bitCount_0f7a4_26 : decode cJ6_bitCount_0f7a4 26 = .ok (.iconst 4, 1) := by decide +kernel
theorem dJ6_bitCount_0f7a4_27 : decode cJ6_bitCount_0f7a4 27 = .ok (.iushr, 1) := by decide +kernel
theorem dJ6_bitCount_0f7a4_28 : decode cJ6_bitCount_0f7a4 28 = .ok (.iadd, 1) := by decide +kernel
theorem dJ6_bitCount_0f7a4_29 : decode cJ6_bitCount_0f7a4 29 = .ok (.ldc_w 267, 3) := by decide +kernel
theorem dJ6_bitCount_0f7a4_32 : decode cJ6_bitCount_0f7a4 32 = .ok (.iand, 1) := by decide +kernel
theorem dJ6_bitCount_0f7a4_33 : decode cJ6_bitCount_0f7a4 33 = .ok (.istore_n 0, 1) := by decide +kernel
theorem dJ6_bitCount_0f7a4_34 : decode cJ6_bitCount_0f7a4 34 = .ok (.iload_n 0, 1) := by decide +kernel
theorem dJ6_bitCount_0f7a4_35 : decode cJ6_bitCount_0f7a4 35 = .ok (.iload_n 0, 1) := by decide +kernel
theorem dJ6_bitCount_0f7a4_36 : decode cJ6_bitCount_0f7a4 36 = .ok (.bipush 8, 2) := by decide +kernel
theorem dJ6_bitCount_0f7a4_38 : decode cJ6_bitCount_0f7a4 38 = .ok (.iushr, 1) := by decide +kernel
theorem dJ6_bitCount_0f7a4_39 : decode cJ6_bitCount_0f7a4 39 = .ok (.iadd, 1) := by decide +kernel
theorem dJ6_bitCount_0f7a4_40 : decode cJ6_bitCount_0f7a4 40 = .ok (.istore_n 0, 1) := by decide +kernel
theorem dJ6_bitCount_0f7a4_41 : decode cJ6_bitCount_0f7a4 41 = .ok (.iload_n 0, 1) := by decide +kernel
theorem dJ6_bitCount_0f7a4_42 : decode cJ6_bitCount_0f7a4 42 = .ok (.iload_n 0, 1) := by decide +kernel
theorem dJ6_bitCount_0f7a4_43 : decode cJ6_bitCount_0f7a4 43 = .ok (.bipush 16, 2) := by decide +kernel
theorem dJ6_bitCount_0f7a4_45 : decode cJ6_bitCount_0f7a4 45 = .ok (.iushr, 1) := by decide +kernel
theorem dJ6_bitCount_0f7a4_46 : decode cJ6_bitCount_0f7a4 46 = .ok (.iadd, 1) := by decide +kernel
theorem dJ6_bitCount_0f7a4_47 : decode cJ6_bitCount_0f7a4 47 = .ok (.istore_n 0, 1) := by decide +kernel
theorem dJ6_bitCount_0f7a4_48 : decode cJ6_bitCount_0f7a4 48 = .ok (.iload_n 0, 1) := by decide +kernel
theorem dJ6_bitCount_0f7a4_49 : decode cJ6_bitCount_0f7a4 49 = .ok (.bipush 63, 2) := by decide +kernel
theorem dJ6_bitCount_0f7a4_51 : decode cJ6_bitCount_0f7a4 51 = .ok (.iand, 1) := by decide +kernel
theorem dJ6_bitCount_0f7a4_52 : decode cJ6_bitCount_0f7a4 52 = .ok (.ireturn, 1) := by decide +kernel
theorem dJ7_fill_d0a16_0 : decode cJ7_fill_d0a16 0 = .ok (.iconst 0, 1) := by decide +kernel
theorem dJ7_fill_d0a16_1 : decode cJ7_fill_d0a16 1 = .ok (.istore_n 3, 1) := by decide +kernel
theorem dJ7_fill_d0a16_2 : decode cJ7_fill_d0a16 2 = .ok (.aload_n 0, 1) := by decide +kernel
theorem dJ7_fill_d0a16_3 : decode cJ7_fill_d0a16 3 = .ok (.arraylength, 1) := by decide +kernel
theorem dJ7_fill_d0a16_4 : decode cJ7_fill_d0a16 4 = .ok (.istore 4, 2) := by decide +kernel
theorem dJ7_fill_d0a16_6 : decode cJ7_fill_d0a16 6 = .ok (.iload_n 3, 1) := by decide +kernel
theorem dJ7_fill_d0a16_7 : decode cJ7_fill_d0a16 7 = .ok (.iload 4, 2) := by decide +kernel
theorem dJ7_fill_d0a16_9 : decode cJ7_fill_d0a16 9 = .ok (.if_icmp .ge 13, 3) := by decide +kernel
theorem dJ7_fill_d0a16_12 : decode cJ7_fill_d0a16 12 = .ok (.aload_n 0, 1) := by decide +kernel
theorem dJ7_fill_d0a16_13 : decode cJ7_fill_d0a16 13 = .ok (.iload_n 3, 1) := by decide +kernel
theorem dJ7_fill_d0a16_14 : decode cJ7_fill_d0a16 14 = .ok (.lload_n 1, 1) := by decide +kernel
theorem dJ7_fill_d0a16_15 : decode cJ7_fill_d0a16 15 = .ok (.lastore, 1) := by decide +kernel
theorem dJ7_fill_d0a16_16 : decode cJ7_fill_d0a16 16 = .ok (.iinc 3 1, 3) := by decide +kernel
theorem dJ7_fill_d0a16_19 : decode cJ7_fill_d0a16 19 = .ok (.goto (-13), 3) := by decide +kernel
theorem dJ7_fill_d0a16_22 : decode cJ7_fill_d0a16 22 = .ok (.return_, 1) := by decide +kernel
theorem dJ7_fill_53178_0 : decode cJ7_fill_53178 0 = .ok (.iconst 0, 1) := by decide +kernel
theorem dJ7_fill_53178_1 : decode cJ7_fill_53178 1 = .ok (.istore_n 2, 1) := by decide +kernel
theorem dJ7_fill_53178_2 : decode cJ7_fill_53178 2 = .ok (.aload_n 0, 1) := by decide +kernel
theorem dJ7_fill_53178_3 : decode cJ7_fill_53178 3 = .ok (.arraylength, 1) := by decide +kernel
theorem dJ7_fill_53178_4 : decode cJ7_fill_53178 4 = .ok (.istore_n 3, 1) := by decide +kernel
theorem dJ7_fill_53178_5 : decode cJ7_fill_53178 5 = .ok (.iload_n 2, 1) := by decide +kernel
theorem dJ7_fill_53178_6 : decode cJ7_fill_53178 6 = .ok (.iload_n 3, 1) := by decide +kernel
theorem dJ7_fill_53178_7 : decode cJ7_fill_53178 7 = .ok (.if_icmp .ge 13, 3) := by decide +kernel
theorem dJ7_fill_53178_10 : decode cJ7_fill_53178 10 = .ok (.aload_n 0, 1) := by decide +kernel
theorem dJ7_fill_53178_11 : decode cJ7_fill_53178 11 = .ok (.iload_n 2, 1) := by decide +kernel
theorem dJ7_fill_53178_12 : decode cJ7_fill_53178 12 = .ok (.iload_n 1, 1) := by decide +kernel
theorem dJ7_fill_53178_13 : decode cJ7_fill_53178 13 = .ok (.iastore, 1) := by decide +kernel
theorem dJ7_fill_53178_14 : decode cJ7_fill_53178 14 = .ok (.iinc 2 1, 3) := by decide +kernel
theorem dJ7_fill_53178_17 : decode cJ7_fill_53178 17 = .ok (.goto (-12), 3) := by decide +kernel
theorem dJ7_fill_53178_20 : decode cJ7_fill_53178 20 = .ok (.return_, 1) := by decide +kernel
theorem dJ7_checkLength_df160_0 : decode cJ7_checkLength_df160 0 = .ok (.iload_n 1, 1) := by decide +kernel
theorem dJ7_checkLength_df160_1 : decode cJ7_checkLength_df160 1 = .ok (.iload_n 0, 1) := by decide +kernel
theorem dJ7_checkLength_df160_2 : decode cJ7_checkLength_df160 2 = .ok (.if_icmp .ge 35, 3) := by decide +kernel
theorem dJ7_checkLength_df160_5 : decode cJ7_checkLength_df160 5 = .ok (.new 43, 3) := by decide +kernel
theorem dJ7_checkLength_df160_8 : decode cJ7_checkLength_df160 8 = .ok (.dup, 1) := by decide +kernel
theorem dJ7_checkLength_df160_9 : decode cJ7_checkLength_df160 9 = .ok (.new 45, 3) := by decide +kernel
theorem dJ7_checkLength_df160_12 : decode cJ7_checkLength_df160 12 = .ok (.dup, 1) := by decide +kernel
theorem dJ7_checkLength_df160_13 : decode cJ7_checkLength_df160 13 = .ok (.invokespecial 47, 3) := by decide +kernel
theorem dJ7_checkLength_df160_16 : decode cJ7_checkLength_df160 16 = .ok (.iload_n 0, 1) := by decide +kernel
theorem dJ7_checkLength_df160_17 : decode cJ7_checkLength_df160 17 = .ok (.invokevirtual 54, 3) := by decide +kernel
theorem dJ7_checkLength_df160_20 : decode cJ7_checkLength_df160 20 = .ok (.ldc_w 337, 3) := by decide +kernel
theorem dJ7_checkLength_df160_23 : decode cJ7_checkLength_df160 23 = .ok (.invokevirtual 50, 3) := by decide +kernel
theorem dJ7_checkLength_df160_26 : decode cJ7_checkLength_df160 26 = .ok (.iload_n 1, 1) := by decide +kernel
theorem dJ7_checkLength_df160_27 : decode cJ7_checkLength_df160 27 = .ok (.invokevirtual 54, 3) := by decide +kernel
theorem dJ7_checkLength_df160_30 : decode cJ7_checkLength_df160 30 = .ok (.invokevirtual 61, 3) := by decide +kernel
theorem dJ7_checkLength_df160_33 : decode cJ7_checkLength_df160 33 = .ok (.invokespecial 65, 3) := by decide +kernel
theorem dJ7_checkLength_df160_36 : decode cJ7_checkLength_df160 36 = .ok (.athrow, 1) := by decide +kernel
theorem dJ7_checkLength_df160_37 : decode cJ7_checkLength_df160 37 = .ok (.return_, 1) := by decide +kernel
theorem dJ7_copyOfRange_39247_0 : decode cJ7_copyOfRange_39247 0 = .ok (.iload_n 1, 1) := by decide +kernel
theorem dJ7_copyOfRange_39247_1 : decode cJ7_copyOfRange_39247 1 = .ok (.ifCond .ne 9, 3) := by decide +kernel
theorem dJ7_copyOfRange_39247_4 : decode cJ7_copyOfRange_39247 4 = .ok (.iload_n 2, 1) := by decide +kernel
theorem dJ7_copyOfRange_39247_5 : decode cJ7_copyOfRange_39247 5 = .ok (.aload_n 0, 1) := by decide +kernel
theorem dJ7_copyOfRange_39247_6 : decode cJ7_copyOfRange_39247 6 = .ok (.arraylength, 1) := by decide +kernel
theorem dJ7_copyOfRange_39247_7 : decode cJ7_copyOfRange_39247 7 = .ok (.if_icmp .eq 10, 3) := by decide +kernel
theorem dJ7_copyOfRange_39247_10 : decode cJ7_copyOfRange_39247 10 = .ok (.aload_n 0, 1) := by decide +kernel
theorem dJ7_copyOfRange_39247_11 : decode cJ7_copyOfRange_39247 11 = .ok (.iload_n 1, 1) := by decide +kernel
theorem dJ7_copyOfRange_39247_12 : decode cJ7_copyOfRange_39247 12 = .ok (.iload_n 2, 1) := by decide +kernel
theorem dJ7_copyOfRange_39247_13 : decode cJ7_copyOfRange_39247 13 = .ok (.invokestatic 339, 3) := by decide +kernel
theorem dJ7_copyOfRange_39247_16 : decode cJ7_copyOfRange_39247 16 = .ok (.areturn, 1) := by decide +kernel
theorem dJ7_copyOfRange_39247_17 : decode cJ7_copyOfRange_39247 17 = .ok (.aload_n 0, 1) := by decide +kernel
theorem dJ7_copyOfRange_39247_18 : decode cJ7_copyOfRange_39247 18 = .ok (.invokevirtual 310, 3) := by decide +kernel
theorem dJ7_copyOfRange_39247_21 : decode cJ7_copyOfRange_39247 21 = .ok (.checkcast 311, 3) := by decide +kernel
theorem dJ7_copyOfRange_39247_24 : decode cJ7_copyOfRange_39247 24 = .ok (.areturn, 1) := by decide +kernel
theorem dJ7_copyOfRangeByte_39247_0 : decode cJ7_copyOfRangeByte_39247 0 = .ok (.iload_n 1, 1) := by decide +kernel
theorem dJ7_copyOfRangeByte_39247_1 : decode cJ7_copyOfRangeByte_39247 1 = .ok (.iload_n 2, 1) := by decide +kernel
theorem dJ7_copyOfRangeByte_39247_2 : decode cJ7_copyOfRangeByte_39247 2 = .ok (.invokestatic 343, 3) := by decide +kernel
theorem dJ7_copyOfRangeByte_39247_5 : decode cJ7_copyOfRangeByte_39247 5 = .ok (.iload_n 2, 1) := by decide +kernel
theorem dJ7_copyOfRangeByte_39247_6 : decode cJ7_copyOfRangeByte_39247 6 = .ok (.iload_n 1, 1) := by decide +kernel
theorem dJ7_copyOfRangeByte_39247_7 : decode cJ7_copyOfRangeByte_39247 7 = .ok (.isub, 1) := by decide +kernel
theorem dJ7_copyOfRangeByte_39247_8 : decode cJ7_copyOfRangeByte_39247 8 = .ok (.istore_n 3, 1) := by decide +kernel
theorem dJ7_copyOfRangeByte_39247_9 : decode cJ7_copyOfRangeByte_39247 9 = .ok (.iload_n 3, 1) := by decide +kernel
theorem dJ7_copyOfRangeByte_39247_10 : decode cJ7_copyOfRangeByte_39247 10 = .ok (.newarray .byte, 2) := by decide +kernel
theorem dJ7_copyOfRangeByte_39247_12 : decode cJ7_copyOfRangeByte_39247 12 = .ok (.astore 4, 2) := by decide +kernel
theorem dJ7_copyOfRangeByte_39247_14 : decode cJ7_copyOfRangeByte_39247 14 = .ok (.aload_n 0, 1) := by decide +kernel
theorem dJ7_copyOfRangeByte_39247_15 : decode cJ7_copyOfRangeByte_39247 15 = .ok (.iload_n 1, 1) := by decide +kernel
theorem dJ7_copyOfRangeByte_39247_16 : decode cJ7_copyOfRangeByte_39247 16 = .ok (.aload 4, 2) := by decide +kernel
theorem dJ7_copyOfRangeByte_39247_18 : decode cJ7_copyOfRangeByte_39247 18 = .ok (.iconst 0, 1) := by decide +kernel
theorem dJ7_copyOfRangeByte_39247_19 : decode cJ7_copyOfRangeByte_39247 19 = .ok (.aload_n 0, 1) := by decide +kernel
theorem dJ7_copyOfRangeByte_39247_20 : decode cJ7_copyOfRangeByte_39247 20 = .ok (.arraylength, 1) := by decide +kernel
theorem dJ7_copyOfRangeByte_39247_21 : decode cJ7_copyOfRangeByte_39247 21 = .ok (.iload_n 1, 1) := by decide +kernel
theorem dJ7_copyOfRangeByte_39247_22 : decode cJ7_copyOfRangeByte_39247 22 = .ok (.isub, 1) := by decide +kernel
theorem dJ7_copyOfRangeByte_39247_23 : decode cJ7_copyOfRangeByte_39247 23 = .ok (.iload_n 3, 1) := by decide +kernel
theorem dJ7_copyOfRangeByte_39247_24 : decode cJ7_copyOfRangeByte_39247 24 = .ok (.invokestatic 304, 3) := by decide +kernel
theorem dJ7_copyOfRangeByte_39247_27 : decode cJ7_copyOfRangeByte_39247 27 = .ok (.invokestatic 150, 3) := by decide +kernel
theorem dJ7_copyOfRangeByte_39247_30 : decode cJ7_copyOfRangeByte_39247 30 = .ok (.aload 4, 2) := by decide +kernel
theorem dJ7_copyOfRangeByte_39247_32 : decode cJ7_copyOfRangeByte_39247 32 = .ok (.areturn, 1) := by decide +kernel
theorem dJ9_abs_0f7a4_0 : decode cJ9_abs_0f7a4 0 = .ok (.iload_n 0, 1) := by decide +kernel
theorem dJ9_abs_0f7a4_1 : decode cJ9_abs_0f7a4 1 = .ok (.ifCond .ge 8, 3) := by decide +kernel
theorem dJ9_abs_0f7a4_4 : decode cJ9_abs_0f7a4 4 = .ok (.iload_n 0, 1) := by decide +kernel
theorem dJ9_abs_0f7a4_5 : decode cJ9_abs_0f7a4 5 = .ok (.ineg, 1) := by decide +kernel
theorem dJ9_abs_0f7a4_6 : decode cJ9_abs_0f7a4 6 = .ok (.goto 4, 3) := by decide +kernel
theorem dJ9_abs_0f7a4_9 : decode cJ9_abs_0f7a4 9 = .ok (.iload_n 0, 1) := by decide +kernel
theorem dJ9_abs_0f7a4_10 : decode cJ9_abs_0f7a4 10 = .ok (.ireturn, 1) := by decide +kernel
theorem dJ9_max_7cf53_0 : decode cJ9_max_7cf53 0 = .ok (.iload_n 0, 1) := by decide +kernel
theorem dJ9_max_7cf53_1 : decode cJ9_max_7cf53 1 = .ok (.iload_n 1, 1) := by decide +kernel
theorem dJ9_max_7cf53_2 : decode cJ9_max_7cf53 2 = .ok (.if_icmp .lt 7, 3) := by decide +kernel
theorem dJ9_max_7cf53_5 : decode cJ9_max_7cf53 5 = .ok (.iload_n 0, 1) := by decide +kernel
theorem dJ9_max_7cf53_6 : decode cJ9_max_7cf53 6 = .ok (.goto 4, 3) := by decide +kernel
theorem dJ9_max_7cf53_9 : decode cJ9_max_7cf53 9 = .ok (.iload_n 1, 1) := by decide +kernel
theorem dJ9_max_7cf53_10 : decode cJ9_max_7cf53 10 = .ok (.ireturn, 1) := by decide +kernel
theorem dJ9_min_7cf53_0 : decode cJ9_min_7cf53 0 = .ok (.iload_n 0, 1) := by decide +kernel
theorem dJ9_min_7cf53_1 : decode cJ9_min_7cf53 1 = .ok (.iload_n 1, 1) := by decide +kernel
theorem dJ9_min_7cf53_2 : decode cJ9_min_7cf53 2 = .ok (.if_icmp .gt 7, 3) := by decide +kernel
theorem dJ9_min_7cf53_5 : decode cJ9_min_7cf53 5 = .ok (.iload_n 0, 1) := by decide +kernel
theorem dJ9_min_7cf53_6 : decode cJ9_min_7cf53 6 = .ok (.goto 4, 3) := by decide +kernel
theorem dJ9_min_7cf53_9 : decode cJ9_min_7cf53 9 = .ok (.iload_n 1, 1) := by decide +kernel
theorem dJ9_min_7cf53_10 : decode cJ9_min_7cf53 10 = .ok (.ireturn, 1) := by decide +kernel
theorem dX9_init_0 : decode cX9_init 0 = .ok (.aload_n 0, 1) := by decide +kernel
theorem dX9_init_1 : decode cX9_init 1 = .ok (.invokespecial 3, 3) := by decide +kernel
theorem dX9_init_4 : decode cX9_init 4 = .ok (.aload_n 0, 1) := by decide +kernel
theorem dX9_init_5 : decode cX9_init 5 = .ok (.sipush 1024, 3) := by decide +kernel
theorem dX9_init_8 : decode cX9_init 8 = .ok (.newarray .long, 2) := by decide +kernel
theorem dX9_init_10 : decode cX9_init 10 = .ok (.putfield 9, 3) := by decide +kernel
theorem dX9_init_13 : decode cX9_init 13 = .ok (.aload_n 0, 1) := by decide +kernel
theorem dX9_init_14 : decode cX9_init 14 = .ok (.sipush 1024, 3) := by decide +kernel
theorem dX9_init_17 : decode cX9_init 17 = .ok (.newarray .long, 2) := by decide +kernel
theorem dX9_init_19 : decode cX9_init 19 = .ok (.putfield 13, 3) := by decide +kernel
theorem dX9_init_22 : decode cX9_init 22 = .ok (.aload_n 0, 1) := by decide +kernel
theorem dX9_init_23 : decode cX9_init 23 = .ok (.sipush 1024, 3) := by decide +kernel
theorem dX9_init_26 : decode cX9_init 26 = .ok (.newarray .long, 2) := by decide +kernel
theorem dX9_init_28 : decode cX9_init 28 = .ok (.putfield 16, 3) := by decide +kernel
theorem dX9_init_31 : decode cX9_init 31 = .ok (.aload_n 0, 1) := by decide +kernel
theorem dX9_init_32 : decode cX9_init 32 = .ok (.sipush 1024, 3) := by decide +kernel
theorem dX9_init_35 : decode cX9_init 35 = .ok (.newarray .long, 2) := by decide +kernel
theorem dX9_init_37 : decode cX9_init 37 = .ok (.putfield 19, 3) := by decide +kernel
theorem dX9_init_40 : decode cX9_init 40 = .ok (.aload_n 0, 1) := by decide +kernel
theorem dX9_init_41 : decode cX9_init 41 = .ok (.sipush 256, 3) := by decide +kernel
theorem dX9_init_44 : decode cX9_init 44 = .ok (.newarray .int, 2) := by decide +kernel
theorem dX9_init_46 : decode cX9_init 46 = .ok (.putfield 22, 3) := by decide +kernel
theorem dX9_init_49 : decode cX9_init 49 = .ok (.aload_n 0, 1) := by decide +kernel
theorem dX9_init_50 : decode cX9_init 50 = .ok (.sipush 256, 3) := by decide +kernel
theorem dX9_init_53 : decode cX9_init 53 = .ok (.newarray .int, 2) := by decide +kernel
theorem dX9_init_55 : decode cX9_init 55 = .ok (.putfield 26, 3) := by decide +kernel
theorem dX9_init_58 : decode cX9_init 58 = .ok (.aload_n 0, 1) := by decide +kernel
theorem dX9_init_59 : decode cX9_init 59 = .ok (.iconst 4, 1) := by decide +kernel
theorem dX9_init_60 : decode cX9_init 60 = .ok (.newarray .long, 2) := by decide +kernel
theorem dX9_init_62 : decode cX9_init 62 = .ok (.putfield 29, 3) := by decide +kernel
theorem dX9_init_65 : decode cX9_init 65 = .ok (.aload_n 0, 1) := by decide +kernel
theorem dX9_init_66 : decode cX9_init 66 = .ok (.iconst 4, 1) := by decide +kernel
theorem dX9_init_67 : decode cX9_init 67 = .ok (.newarray .long, 2) := by decide +kernel
theorem dX9_init_69 : decode cX9_init 69 = .ok (.putfield 32, 3) := by decide +kernel
theorem dX9_init_72 : decode cX9_init 72 = .ok (.aload_n 0, 1) := by decide +kernel
theorem dX9_init_73 : decode cX9_init 73 = .ok (.iconst 4, 1) := by decide +kernel
theorem dX9_init_74 : decode cX9_init 74 = .ok (.newarray .long, 2) := by decide +kernel
theorem dX9_init_76 : decode cX9_init 76 = .ok (.putfield 35, 3) := by decide +kernel
theorem dX9_init_79 : decode cX9_init 79 = .ok (.aload_n 0, 1) := by decide +kernel
theorem dX9_init_80 : decode cX9_init 80 = .ok (.iconst 4, 1) := by decide +kernel
theorem dX9_init_81 : decode cX9_init 81 = .ok (.newarray .long, 2) := by decide +kernel
theorem dX9_init_83 : decode cX9_init 83 = .ok (.putfield 38, 3) := by decide +kernel
theorem dX9_init_86 : decode cX9_init 86 = .ok (.aload_n 0, 1) := by decide +kernel
theorem dX9_init_87 : decode cX9_init 87 = .ok (.iconst 4, 1) := by decide +kernel
theorem dX9_init_88 : decode cX9_init 88 = .ok (.newarray .long, 2) := by decide +kernel
theorem dX9_init_90 : decode cX9_init 90 = .ok (.putfield 41, 3) := by decide +kernel
theorem dX9_init_93 : decode cX9_init 93 = .ok (.aload_n 0, 1) := by decide +kernel
theorem dX9_init_94 : decode cX9_init 94 = .ok (.iconst 4, 1) := by decide +kernel
theorem dX9_init_95 : decode cX9_init 95 = .ok (.newarray .long, 2) := by decide +kernel
theorem dX9_init_97 : decode cX9_init 97 = .ok (.putfield 44, 3) := by decide +kernel
theorem dX9_init_100 : decode cX9_init 100 = .ok (.aload_n 0, 1) := by decide +kernel
theorem dX9_init_101 : decode cX9_init 101 = .ok (.iconst 4, 1) := by decide +kernel
theorem dX9_init_102 : decode cX9_init 102 = .ok (.newarray .long, 2) := by decide +kernel
theorem dX9_init_104 : decode cX9_init 104 = .ok (.putfield 47, 3) := by decide +kernel
theorem dX9_init_107 : decode cX9_init 107 = .ok (.return_, 1) := by decide +kernel
theorem dX9_clear_0 : decode cX9_clear 0 = .ok (.aload_n 0, 1) := by decide +kernel
theorem dX9_clear_1 : decode cX9_clear 1 = .ok (.iconst 0, 1) := by decide +kernel
theorem dX9_clear_2 : decode cX9_clear 2 = .ok (.putfield 50, 3) := by decide +kernel
theorem dX9_clear_5 : decode cX9_clear 5 = .ok (.aload_n 0, 1) := by decide +kernel
theorem dX9_clear_6 : decode cX9_clear 6 = .ok (.invokevirtual 54, 3) := by decide +kernel
theorem dX9_clear_9 : decode cX9_clear 9 = .ok (.aload_n 0, 1) := by decide +kernel
theorem dX9_clear_10 : decode cX9_clear 10 = .ok (.invokevirtual 57, 3) := by decide +kernel
theorem dX9_clear_13 : decode cX9_clear 13 = .ok (.pop, 1) := by decide +kernel
theorem dX9_clear_14 : decode cX9_clear 14 = .ok (.return_, 1) := by decide +kernel
theorem dX9_begin_0 : decode cX9_begin 0 = .ok (.aload_n 0, 1) := by decide +kernel
theorem dX9_begin_1 : decode cX9_begin 1 = .ok (.iconst 0, 1) := by decide +kernel
theorem dX9_begin_2 : decode cX9_begin 2 = .ok (.putfield 61, 3) := by decide +kernel
theorem dX9_begin_5 : decode cX9_begin 5 = .ok (.aload_n 0, 1) := by decide +kernel
theorem dX9_begin_6 : decode cX9_begin 6 = .ok (.getfield 29, 3) := by decide +kernel
theorem dX9_begin_9 : decode cX9_begin 9 = .ok (.lconst 0, 1) := by decide +kernel
theorem dX9_begin_10 : decode cX9_begin 10 = .ok (.invokestatic 65, 3) := by decide +kernel
theorem dX9_begin_13 : decode cX9_begin 13 = .ok (.aload_n 0, 1) := by decide +kernel
theorem dX9_begin_14 : decode cX9_begin 14 = .ok (.getfield 32, 3) := by decide +kernel
theorem dX9_begin_17 : decode cX9_begin 17 = .ok (.lconst 0, 1) := by decide +kernel
theorem dX9_begin_18 : decode cX9_begin 18 = .ok (.invokestatic 65, 3) := by decide +kernel
theorem dX9_begin_21 : decode cX9_begin 21 = .ok (.return_, 1) := by decide +kernel
theorem dX9_beginWith_0 : decode cX9_beginWith 0 = .ok (.aload_n 0, 1) := by decide +kernel
theorem dX9_beginWith_1 : decode cX9_beginWith 1 = .ok (.invokevirtual 54, 3) := by decide +kernel
theorem dX9_beginWith_4 : decode cX9_beginWith 4 = .ok (.aload_n 0, 1) := by decide +kernel
theorem dX9_beginWith_5 : decode cX9_beginWith 5 = .ok (.getfield 29, 3) := by decide +kernel
theorem dX9_beginWith_8 : decode cX9_beginWith 8 = .ok (.iconst 0, 1) := by decide +kernel
theorem dX9_beginWith_9 : decode cX9_beginWith 9 = .ok (.lload_n 1, 1) := by decide +kernel
theorem dX9_beginWith_10 : decode cX9_beginWith 10 = .ok (.lastore, 1) := by decide +kernel
theorem dX9_beginWith_11 : decode cX9_beginWith 11 = .ok (.aload_n 0, 1) := by decide +kernel
theorem dX9_beginWith_12 : decode cX9_beginWith 12 = .ok (.getfield 32, 3) := by decide +kernel
theorem dX9_beginWith_15 : decode cX9_beginWith 15 = .ok (.iconst 0, 1) := by decide +kernel
theorem dX9_beginWith_16 : decode cX9_beginWith 16 = .ok (.lload_n 3, 1) := by decide +kernel
theorem dX9_beginWith_17 : decode cX9_beginWith 17 = .ok (.lastore, 1) := by decide +kernel
theorem dX9_beginWith_18 : decode cX9_beginWith 18 = .ok (.return_, 1) := by decide +kernel
theorem dX9_addLeft_0 : decode cX9_addLeft 0 = .ok (.aload_n 0, 1) := by decide +kernel
theorem dX9_addLeft_1 : decode cX9_addLeft 1 = .ok (.dup, 1) := by decide +kernel
theorem dX9_addLeft_2 : decode cX9_addLeft 2 = .ok (.getfield 61, 3) := by decide +kernel
theorem dX9_addLeft_5 : decode cX9_addLeft 5 = .ok (.aload_n 0, 1) := by decide +kernel
theorem dX9_addLeft_6 : decode cX9_addLeft 6 = .ok (.iload_n 1, 1) := by decide +kernel
theorem dX9_addLeft_7 : decode cX9_addLeft 7 = .ok (.invokevirtual 71, 3) := by decide +kernel
theorem dX9_addLeft_10 : decode cX9_addLeft 10 = .ok (.ifCond .ne 7, 3) := by decide +kernel
theorem dX9_addLeft_13 : decode cX9_addLeft 13 = .ok (.iconst 1, 1) := by decide +kernel
theorem dX9_addLeft_14 : decode cX9_addLeft 14 = .ok (.goto 4, 3) := by decide +kernel
theorem dX9_addLeft_17 : decode cX9_addLeft 17 = .ok (.iconst 0, 1) := by decide +kernel
theorem dX9_addLeft_18 : decode cX9_addLeft 18 = .ok (.ior, 1) := by decide +kernel
theorem dX9_addLeft_19 : decode cX9_addLeft 19 = .ok (.putfield 61, 3) := by decide +kernel
theorem dX9_addLeft_22 : decode cX9_addLeft 22 = .ok (.aload_n 0, 1) := by decide +kernel
theorem dX9_addLeft_23 : decode cX9_addLeft 23 = .ok (.getfield 29, 3) := by decide +kernel
theorem dX9_addLeft_26 : decode cX9_addLeft 26 = .ok (.iconst 0, 1) := by decide +kernel
theorem dX9_addLeft_27 : decode cX9_addLeft 27 = .ok (.iload_n 1, 1) := by decide +kernel
theorem dX9_addLeft_28 : decode cX9_addLeft 28 = .ok (.invokestatic 75, 3) := by decide +kernel
theorem dX9_addLeft_31 : decode cX9_addLeft 31 = .ok (.return_, 1) := by decide +kernel
theorem dX9_addRight_0 : decode cX9_addRight 0 = .ok (.aload_n 0, 1) := by decide +kernel
theorem dX9_addRight_1 : decode cX9_addRight 1 = .ok (.dup, 1) := by decide +kernel
theorem dX9_addRight_2 : decode cX9_addRight 2 = .ok (.getfield 61, 3) := by decide +kernel
theorem dX9_addRight_5 : decode cX9_addRight 5 = .ok (.aload_n 0, 1) := by decide +kernel
theorem dX9_addRight_6 : decode cX9_addRight 6 = .ok (.iload_n 1, 1) := by decide +kernel
theorem dX9_addRight_7 : decode cX9_addRight 7 = .ok (.invokevirtual 71, 3) := by decide +kernel
theorem dX9_addRight_10 : decode cX9_addRight 10 = .ok (.ifCond .ne 7, 3) := by decide +kernel
theorem dX9_addRight_13 : decode cX9_addRight 13 = .ok (.iconst 1, 1) := by decide +kernel
theorem dX9_addRight_14 : decode cX9_addRight 14 = .ok (.goto 4, 3) := by decide +kernel
theorem dX9_addRight_17 : decode cX9_addRight 17 = .ok (.iconst 0, 1) := by decide +kernel
theorem dX9_addRight_18 : decode cX9_addRight 18 = .ok (.ior, 1) := by decide +kernel
theorem dX9_addRight_19 : decode cX9_addRight 19 = .ok (.putfield 61, 3) := by decide +kernel
theorem dX9_addRight_22 : decode cX9_addRight 22 = .ok (.aload_n 0, 1) := by decide +kernel
theorem dX9_addRight_23 : decode cX9_addRight 23 = .ok (.getfield 32, 3) := by decide +kernel
theorem dX9_addRight_26 : decode cX9_addRight 26 = .ok (.iconst 0, 1) := by decide +kernel
theorem dX9_addRight_27 : decode cX9_addRight 27 = .ok (.iload_n 1, 1) := by decide +kernel
theorem dX9_addRight_28 : decode cX9_addRight 28 = .ok (.invokestatic 75, 3) := by decide +kernel
theorem dX9_addRight_31 : decode cX9_addRight 31 = .ok (.return_, 1) := by decide +kernel
theorem dX9_end_0 : decode cX9_end 0 = .ok (.aload_n 0, 1) := by decide +kernel
theorem dX9_end_1 : decode cX9_end 1 = .ok (.getfield 61, 3) := by decide +kernel
theorem dX9_end_4 : decode cX9_end 4 = .ok (.ifCond .eq 5, 3) := by decide +kernel
theorem dX9_end_7 : decode cX9_end 7 = .ok (.iconst (-1), 1) := by decide +kernel
theorem dX9_end_8 : decode cX9_end 8 = .ok (.ireturn, 1) := by decide +kernel
theorem dX9_end_9 : decode cX9_end 9 = .ok (.aload_n 0, 1) := by decide +kernel
theorem dX9_end_10 : decode cX9_end 10 = .ok (.invokevirtual 79, 3) := by decide +kernel
theorem dX9_end_13 : decode cX9_end 13 = .ok (.istore_n 1, 1) := by decide +kernel
theorem dX9_end_14 : decode cX9_end 14 = .ok (.iload_n 1, 1) := by decide +kernel
theorem dX9_end_15 : decode cX9_end 15 = .ok (.ifCond .lt 5, 3) := by decide +kernel
theorem dX9_end_18 : decode cX9_end 18 = .ok (.iload_n 1, 1) := by decide +kernel
theorem dX9_end_19 : decode cX9_end 19 = .ok (.ireturn, 1) := by decide +kernel
theorem dX9_end_20 : decode cX9_end 20 = .ok (.aload_n 0, 1) := by decide +kernel
theorem dX9_end_21 : decode cX9_end 21 = .ok (.getfield 50, 3) := by decide +kernel
theorem dX9_end_24 : decode cX9_end 24 = .ok (.iconst 1, 1) := by decide +kernel
theorem dX9_end_25 : decode cX9_end 25 = .ok (.isub, 1) := by decide +kernel
theorem dX9_end_26 : decode cX9_end 26 = .ok (.istore_n 2, 1) := by decide +kernel
theorem dX9_end_27 : decode cX9_end 27 = .ok (.iload_n 2, 1) := by decide +kernel
theorem dX9_end_28 : decode cX9_end 28 = .ok (.ifCond .lt 51, 3) := by decide +kernel
theorem dX9_end_31 : decode cX9_end 31 = .ok (.aload_n 0, 1) := by decide +kernel
theorem dX9_end_32 : decode cX9_end 32 = .ok (.aload_n 0, 1) := by decide +kernel
theorem dX9_end_33 : decode cX9_end 33 = .ok (.getfield 29, 3) := by decide +kernel
theorem dX9_end_36 : decode cX9_end 36 = .ok (.iload_n 2, 1) := by decide +kernel
theorem dX9_end_37 : decode cX9_end 37 = .ok (.aload_n 0, 1) := by decide +kernel
theorem dX9_end_38 : decode cX9_end 38 = .ok (.getfield 13, 3) := by decide +kernel
theorem dX9_end_41 : decode cX9_end 41 = .ok (.aload_n 0, 1) := by decide +kernel
theorem dX9_end_42 : decode cX9_end 42 = .ok (.getfield 38, 3) := by decide +kernel
theorem dX9_end_45 : decode cX9_end 45 = .ok (.aload_n 0, 1) := by decide +kernel
theorem dX9_end_46 : decode cX9_end 46 = .ok (.getfield 9, 3) := by decide +kernel
theorem dX9_end_49 : decode cX9_end 49 = .ok (.invokevirtual 82, 3) := by decide +kernel
theorem dX9_end_52 : decode cX9_end 52 = .ok (.aload_n 0, 1) := by decide +kernel
theorem dX9_end_53 : decode cX9_end 53 = .ok (.aload_n 0, 1) := by decide +kernel
theorem dX9_end_54 : decode cX9_end 54 = .ok (.getfield 32, 3) := by decide +kernel
theorem dX9_end_57 : decode cX9_end 57 = .ok (.iload_n 2, 1) := by decide +kernel
theorem dX9_end_58 : decode cX9_end 58 = .ok (.aload_n 0, 1) := by decide +kernel
theorem dX9_end_59 : decode cX9_end 59 = .ok (.getfield 9, 3) := by decide +kernel
theorem dX9_end_62 : decode cX9_end 62 = .ok (.aload_n 0, 1) := by decide +kernel
theorem dX9_end_63 : decode cX9_end 63 = .ok (.getfield 35, 3) := by decide +kernel
theorem dX9_end_66 : decode cX9_end 66 = .ok (.aload_n 0, 1) := by decide +kernel
theorem dX9_end_67 : decode cX9_end 67 = .ok (.getfield 13, 3) := by decide +kernel
theorem dX9_end_70 : decode cX9_end 70 = .ok (.invokevirtual 82, 3) := by decide +kernel
theorem dX9_end_73 : decode cX9_end 73 = .ok (.iinc 2 (-1), 3) := by decide +kernel
theorem dX9_end_76 : decode cX9_end 76 = .ok (.goto (-49), 3) := by decide +kernel
theorem dX9_end_79 : decode cX9_end 79 = .ok (.iconst 0, 1) := by decide +kernel
theorem dX9_end_80 : decode cX9_end 80 = .ok (.istore_n 2, 1) := by decide +kernel
theorem dX9_end_81 : decode cX9_end 81 = .ok (.iload_n 2, 1) := by decide +kernel
theorem dX9_end_82 : decode cX9_end 82 = .ok (.aload_n 0, 1) := by decide +kernel
theorem dX9_end_83 : decode cX9_end 83 = .ok (.getfield 50, 3) := by decide +kernel
theorem dX9_end_86 : decode cX9_end 86 = .ok (.if_icmp .ge 35, 3) := by decide +kernel
theorem dX9_end_89 : decode cX9_end 89 = .ok (.aload_n 0, 1) := by decide +kernel
theorem dX9_end_90 : decode cX9_end 90 = .ok (.aload_n 0, 1) := by decide +kernel
theorem dX9_end_91 : decode cX9_end 91 = .ok (.getfield 29, 3) := by decide +kernel
theorem dX9_end_94 : decode cX9_end 94 = .ok (.iload_n 2, 1) := by decide +kernel
theorem dX9_end_95 : decode cX9_end 95 = .ok (.aload_n 0, 1) := by decide +kernel
theorem dX9_end_96 : decode cX9_end 96 = .ok (.getfield 16, 3) := by decide +kernel
theorem dX9_end_99 : decode cX9_end 99 = .ok (.invokevirtual 86, 3) := by decide +kernel
theorem dX9_end_102 : decode cX9_end 102 = .ok (.aload_n 0, 1) := by decide +kernel
theorem dX9_end_103 : decode cX9_end 103 = .ok (.aload_n 0, 1) := by decide +kernel
theorem dX9_end_104 : decode cX9_end 104 = .ok (.getfield 32, 3) := by decide +kernel
theorem dX9_end_107 : decode cX9_end 107 = .ok (.iload_n 2, 1) := by decide +kernel
theorem dX9_end_108 : decode cX9_end 108 = .ok (.aload_n 0, 1) := by decide +kernel
theorem dX9_end_109 : decode cX9_end 109 = .ok (.getfield 19, 3) := by decide +kernel
theorem dX9_end_112 : decode cX9_end 112 = .ok (.invokevirtual 86, 3) := by decide +kernel
theorem dX9_end_115 : decode cX9_end 115 = .ok (.iinc 2 1, 3) := by decide +kernel
theorem dX9_end_118 : decode cX9_end 118 = .ok (.goto (-37), 3) := by decide +kernel
theorem dX9_end_121 : decode cX9_end 121 = .ok (.aload_n 0, 1) := by decide +kernel
theorem dX9_end_122 : decode cX9_end 122 = .ok (.invokevirtual 90, 3) := by decide +kernel
theorem dX9_end_125 : decode cX9_end 125 = .ok (.ireturn, 1) := by decide +kernel
theorem dX9_compareAll_0 : decode cX9_compareAll 0 = .ok (.aload_n 0, 1) := by decide +kernel
theorem dX9_compareAll_1 : decode cX9_compareAll 1 = .ok (.getfield 35, 3) := by decide +kernel
theorem dX9_compareAll_4 : decode cX9_compareAll 4 = .ok (.lconst 0, 1) := by decide +kernel
theorem dX9_compareAll_5 : decode cX9_compareAll 5 = .ok (.invokestatic 65, 3) := by decide +kernel
theorem dX9_compareAll_8 : decode cX9_compareAll 8 = .ok (.aload_n 0, 1) := by decide +kernel
theorem dX9_compareAll_9 : decode cX9_compareAll 9 = .ok (.getfield 38, 3) := by decide +kernel
theorem dX9_compareAll_12 : decode cX9_compareAll 12 = .ok (.lconst 0, 1) := by decide +kernel
theorem dX9_compareAll_13 : decode cX9_compareAll 13 = .ok (.invokestatic 65, 3) := by decide +kernel
theorem dX9_compareAll_16 : decode cX9_compareAll 16 = .ok (.aload_n 0, 1) := by decide +kernel
theorem dX9_compareAll_17 : decode cX9_compareAll 17 = .ok (.getfield 41, 3) := by decide +kernel
theorem dX9_compareAll_20 : decode cX9_compareAll 20 = .ok (.lconst 0, 1) := by decide +kernel
theorem dX9_compareAll_21 : decode cX9_compareAll 21 = .ok (.invokestatic 65, 3) := by decide +kernel
theorem dX9_compareAll_24 : decode cX9_compareAll 24 = .ok (.aload_n 0, 1) := by decide +kernel
theorem dX9_compareAll_25 : decode cX9_compareAll 25 = .ok (.getfield 44, 3) := by decide +kernel
theorem dX9_compareAll_28 : decode cX9_compareAll 28 = .ok (.lconst 0, 1) := by decide +kernel
theorem dX9_compareAll_29 : decode cX9_compareAll 29 = .ok (.invokestatic 65, 3) := by decide +kernel
theorem dX9_compareAll_32 : decode cX9_compareAll 32 = .ok (.iconst 0, 1) := by decide +kernel
theorem dX9_compareAll_33 : decode cX9_compareAll 33 = .ok (.istore_n 1, 1) := by decide +kernel
theorem dX9_compareAll_34 : decode cX9_compareAll 34 = .ok (.iload_n 1, 1) := by decide +kernel
theorem dX9_compareAll_35 : decode cX9_compareAll 35 = .ok (.aload_n 0, 1) := by decide +kernel
theorem dX9_compareAll_36 : decode cX9_compareAll 36 = .ok (.getfield 50, 3) := by decide +kernel
theorem dX9_compareAll_39 : decode cX9_compareAll 39 = .ok (.if_icmp .ge 57, 3) := by decide +kernel
theorem dX9_compareAll_42 : decode cX9_compareAll 42 = .ok (.aload_n 0, 1) := by decide +kernel
theorem dX9_compareAll_43 : decode cX9_compareAll 43 = .ok (.getfield 29, 3) := by decide +kernel
theorem dX9_compareAll_46 : decode cX9_compareAll 46 = .ok (.iconst 0, 1) := by decide +kernel
theorem dX9_compareAll_47 : decode cX9_compareAll 47 = .ok (.iload_n 1, 1) := by decide +kernel
theorem dX9_compareAll_48 : decode cX9_compareAll 48 = .ok (.invokestatic 93, 3) := by decide +kernel
theorem dX9_compareAll_51 : decode cX9_compareAll 51 = .ok (.ifCond .eq 15, 3) := by decide +kernel
theorem dX9_compareAll_54 : decode cX9_compareAll 54 = .ok (.aload_n 0, 1) := by decide +kernel
theorem dX9_compareAll_55 : decode cX9_compareAll 55 = .ok (.getfield 41, 3) := by decide +kernel
theorem dX9_compareAll_58 : decode cX9_compareAll 58 = .ok (.aload_n 0, 1) := by decide +kernel
theorem dX9_compareAll_59 : decode cX9_compareAll 59 = .ok (.getfield 19, 3) := by decide +kernel
theorem dX9_compareAll_62 : decode cX9_compareAll 62 = .ok (.iload_n 1, 1) := by decide +kernel
theorem dX9_compareAll_63 : decode cX9_compareAll 63 = .ok (.invokestatic 97, 3) := by decide +kernel
theorem dX9_compareAll_66 : decode cX9_compareAll 66 = .ok (.aload_n 0, 1) := by decide +kernel
theorem dX9_compareAll_67 : decode cX9_compareAll 67 = .ok (.getfield 32, 3) := by decide +kernel
theorem dX9_compareAll_70 : decode cX9_compareAll 70 = .ok (.iconst 0, 1) := by decide +kernel
theorem dX9_compareAll_71 : decode cX9_compareAll 71 = .ok (.iload_n 1, 1) := by decide +kernel
theorem dX9_compareAll_72 : decode cX9_compareAll 72 = .ok (.invokestatic 93, 3) := by decide +kernel
theorem dX9_compareAll_75 : decode cX9_compareAll 75 = .ok (.ifCond .eq 15, 3) := by decide +kernel
theorem dX9_compareAll_78 : decode cX9_compareAll 78 = .ok (.aload_n 0, 1) := by decide +kernel
theorem dX9_compareAll_79 : decode cX9_compareAll 79 = .ok (.getfield 44, 3) := by decide +kernel
theorem dX9_compareAll_82 : decode cX9_compareAll 82 = .ok (.aload_n 0, 1) := by decide +kernel
theorem dX9_compareAll_83 : decode cX9_compareAll 83 = .ok (.getfield 16, 3) := by decide +kernel
theorem dX9_compareAll_86 : decode cX9_compareAll 86 = .ok (.iload_n 1, 1) := by decide +kernel
theorem dX9_compareAll_87 : decode cX9_compareAll 87 = .ok (.invokestatic 97, 3) := by decide +kernel
theorem dX9_compareAll_90 : decode cX9_compareAll 90 = .ok (.iinc 1 1, 3) := by decide +kernel
theorem dX9_compareAll_93 : decode cX9_compareAll 93 = .ok (.goto (-59), 3) := by decide +kernel
theorem dX9_compareAll_96 : decode cX9_compareAll 96 = .ok (.iconst 0, 1) := by decide +kernel
theorem dX9_compareAll_97 : decode cX9_compareAll 97 = .ok (.istore_n 1, 1) := by decide +kernel
theorem dX9_compareAll_98 : decode cX9_compareAll 98 = .ok (.iload_n 1, 1) := by decide +kernel
theorem dX9_compareAll_99 : decode cX9_compareAll 99 = .ok (.aload_n 0, 1) := by decide +kernel
theorem dX9_compareAll_100 : decode cX9_compareAll 100 = .ok (.getfield 50, 3) := by decide +kernel
theorem dX9_compareAll_103 : decode cX9_compareAll 103 = .ok (.if_icmp .ge 111, 3) := by decide +kernel
theorem dX9_compareAll_106 : decode cX9_compareAll 106 = .ok (.aload_n 0, 1) := by decide +kernel
theorem dX9_compareAll_107 : decode cX9_compareAll 107 = .ok (.getfield 41, 3) := by decide +kernel
theorem dX9_compareAll_110 : decode cX9_compareAll 110 = .ok (.iconst 0, 1) := by decide +kernel
theorem dX9_compareAll_111 : decode cX9_compareAll 111 = .ok (.iload_n 1, 1) := by decide +kernel
theorem dX9_compareAll_112 : decode cX9_compareAll 112 = .ok (.invokestatic 93, 3) := by decide +kernel
theorem dX9_compareAll_115 : decode cX9_compareAll 115 = .ok (.ifCond .ne 22, 3) := by decide +kernel
theorem dX9_compareAll_118 : decode cX9_compareAll 118 = .ok (.aload_n 0, 1) := by decide +kernel
theorem dX9_compareAll_119 : decode cX9_compareAll 119 = .ok (.getfield 13, 3) := by decide +kernel
theorem dX9_compareAll_122 : decode cX9_compareAll 122 = .ok (.iload_n 1, 1) := by decide +kernel
theorem dX9_compareAll_123 : decode cX9_compareAll 123 = .ok (.aload_n 0, 1) := by decide +kernel
theorem dX9_compareAll_124 : decode cX9_compareAll 124 = .ok (.getfield 38, 3) := by decide +kernel
theorem dX9_compareAll_127 : decode cX9_compareAll 127 = .ok (.invokestatic 101, 3) := by decide +kernel
theorem dX9_compareAll_130 : decode cX9_compareAll 130 = .ok (.ifCond .ne 7, 3) := by decide +kernel
theorem dX9_compareAll_133 : decode cX9_compareAll 133 = .ok (.iconst 1, 1) := by decide +kernel
theorem dX9_compareAll_134 : decode cX9_compareAll 134 = .ok (.goto 4, 3) := by decide +kernel
theorem dX9_compareAll_137 : decode cX9_compareAll 137 = .ok (.iconst 0, 1) := by decide +kernel
theorem dX9_compareAll_138 : decode cX9_compareAll 138 = .ok (.istore_n 2, 1) := by decide +kernel
theorem dX9_compareAll_139 : decode cX9_compareAll 139 = .ok (.aload_n 0, 1) := by decide +kernel
theorem dX9_compareAll_140 : decode cX9_compareAll 140 = .ok (.getfield 44, 3) := by decide +kernel
theorem dX9_compareAll_143 : decode cX9_compareAll 143 = .ok (.iconst 0, 1) := by decide +kernel
theorem dX9_compareAll_144 : decode cX9_compareAll 144 = .ok (.iload_n 1, 1) := by decide +kernel
theorem dX9_compareAll_145 : decode cX9_compareAll 145 = .ok (.invokestatic 93, 3) := by decide +kernel
theorem dX9_compareAll_148 : decode cX9_compareAll 148 = .ok (.ifCond .ne 22, 3) := by decide +kernel
theorem dX9_compareAll_151 : decode cX9_compareAll 151 = .ok (.aload_n 0, 1) := by decide +kernel
theorem dX9_compareAll_152 : decode cX9_compareAll 152 = .ok (.getfield 9, 3) := by decide +kernel
theorem dX9_compareAll_155 : decode cX9_compareAll 155 = .ok (.iload_n 1, 1) := by decide +kernel
theorem dX9_compareAll_156 : decode cX9_compareAll 156 = .ok (.aload_n 0, 1) := by decide +kernel
theorem dX9_compareAll_157 : decode cX9_compareAll 157 = .ok (.getfield 35, 3) := by decide +kernel
theorem dX9_compareAll_160 : decode cX9_compareAll 160 = .ok (.invokestatic 101, 3) := by decide +kernel
theorem dX9_compareAll_163 : decode cX9_compareAll 163 = .ok (.ifCond .ne 7, 3) := by decide +kernel
theorem dX9_compareAll_166 : decode cX9_compareAll 166 = .ok (.iconst 1, 1) := by decide +kernel
theorem dX9_compareAll_167 : decode cX9_compareAll 167 = .ok (.goto 4, 3) := by decide +kernel
theorem dX9_compareAll_170 : decode cX9_compareAll 170 = .ok (.iconst 0, 1) := by decide +kernel
theorem dX9_compareAll_171 : decode cX9_compareAll 171 = .ok (.istore_n 3, 1) := by decide +kernel
theorem dX9_compareAll_172 : decode cX9_compareAll 172 = .ok (.iload_n 2, 1) := by decide +kernel
theorem dX9_compareAll_173 : decode cX9_compareAll 173 = .ok (.ifCond .eq 9, 3) := by decide +kernel
theorem dX9_compareAll_176 : decode cX9_compareAll 176 = .ok (.iload_n 3, 1) := by decide +kernel
theorem dX9_compareAll_177 : decode cX9_compareAll 177 = .ok (.ifCond .eq 5, 3) := by decide +kernel
theorem dX9_compareAll_180 : decode cX9_compareAll 180 = .ok (.iload_n 1, 1) := by decide +kernel
theorem dX9_compareAll_181 : decode cX9_compareAll 181 = .ok (.ireturn, 1) := by decide +kernel
theorem dX9_compareAll_182 : decode cX9_compareAll 182 = .ok (.iload_n 2, 1) := by decide +kernel
theorem dX9_compareAll_183 : decode cX9_compareAll 183 = .ok (.ifCond .eq 12, 3) := by decide +kernel
theorem dX9_compareAll_186 : decode cX9_compareAll 186 = .ok (.aload_n 0, 1) := by decide +kernel
theorem dX9_compareAll_187 : decode cX9_compareAll 187 = .ok (.getfield 35, 3) := by decide +kernel
theorem dX9_compareAll_190 : decode cX9_compareAll 190 = .ok (.iconst 0, 1) := by decide +kernel
theorem dX9_compareAll_191 : decode cX9_compareAll 191 = .ok (.iload_n 1, 1) := by decide +kernel
theorem dX9_compareAll_192 : decode cX9_compareAll 192 = .ok (.invokestatic 75, 3) := by decide +kernel
theorem dX9_compareAll_195 : decode cX9_compareAll 195 = .ok (.iload_n 3, 1) := by decide +kernel
theorem dX9_compareAll_196 : decode cX9_compareAll 196 = .ok (.ifCond .eq 12, 3) := by decide +kernel
theorem dX9_compareAll_199 : decode cX9_compareAll 199 = .ok (.aload_n 0, 1) := by decide +kernel
theorem dX9_compareAll_200 : decode cX9_compareAll 200 = .ok (.getfield 38, 3) := by decide +kernel
theorem dX9_compareAll_203 : decode cX9_compareAll 203 = .ok (.iconst 0, 1) := by decide +kernel
theorem dX9_compareAll_204 : decode cX9_compareAll 204 = .ok (.iload_n 1, 1) := by decide +kernel
theorem dX9_compareAll_205 : decode cX9_compareAll 205 = .ok (.invokestatic 75, 3) := by decide +kernel
theorem dX9_compareAll_208 : decode cX9_compareAll 208 = .ok (.iinc 1 1, 3) := by decide +kernel
theorem dX9_compareAll_211 : decode cX9_compareAll 211 = .ok (.goto (-113), 3) := by decide +kernel
theorem dX9_compareAll_214 : decode cX9_compareAll 214 = .ok (.iconst (-1), 1) := by decide +kernel
theorem dX9_compareAll_215 : decode cX9_compareAll 215 = .ok (.ireturn, 1) := by decide +kernel
theorem dX9_bypass_0 : decode cX9_bypass 0 = .ok (.aload_n 1, 1) := by decide +kernel
theorem dX9_bypass_1 : decode cX9_bypass 1 = .ok (.iconst 0, 1) := by decide +kernel
theorem dX9_bypass_2 : decode cX9_bypass 2 = .ok (.iload_n 2, 1) := by decide +kernel
theorem dX9_bypass_3 : decode cX9_bypass 3 = .ok (.invokestatic 93, 3) := by decide +kernel
theorem dX9_bypass_6 : decode cX9_bypass 6 = .ok (.ifCond .ne 4, 3) := by decide +kernel
theorem dX9_bypass_9 : decode cX9_bypass 9 = .ok (.return_, 1) := by decide +kernel
theorem dX9_bypass_10 : decode cX9_bypass 10 = .ok (.iconst 0, 1) := by decide +kernel
theorem dX9_bypass_11 : decode cX9_bypass 11 = .ok (.istore 6, 2) := by decide +kernel
theorem dX9_bypass_13 : decode cX9_bypass 13 = .ok (.iload 6, 2) := by decide +kernel
theorem dX9_bypass_15 : decode cX9_bypass 15 = .ok (.iload_n 2, 1) := by decide +kernel
theorem dX9_bypass_16 : decode cX9_bypass 16 = .ok (.if_icmp .ge 45, 3) := by decide +kernel
theorem dX9_bypass_19 : decode cX9_bypass 19 = .ok (.aload_n 3, 1) := by decide +kernel
theorem dX9_bypass_20 : decode cX9_bypass 20 = .ok (.iload_n 2, 1) := by decide +kernel
theorem dX9_bypass_21 : decode cX9_bypass 21 = .ok (.iload 6, 2) := by decide +kernel
theorem dX9_bypass_23 : decode cX9_bypass 23 = .ok (.invokestatic 93, 3) := by decide +kernel
theorem dX9_bypass_26 : decode cX9_bypass 26 = .ok (.ifCond .eq 29, 3) := by decide +kernel
theorem dX9_bypass_29 : decode cX9_bypass 29 = .ok (.aload 4, 2) := by decide +kernel
theorem dX9_bypass_31 : decode cX9_bypass 31 = .ok (.iconst 0, 1) := by decide +kernel
theorem dX9_bypass_32 : decode cX9_bypass 32 = .ok (.iload 6, 2) := by decide +kernel
theorem dX9_bypass_34 : decode cX9_bypass 34 = .ok (.invokestatic 93, 3) := by decide +kernel
theorem dX9_bypass_37 : decode cX9_bypass 37 = .ok (.ifCond .eq 18, 3) := by decide +kernel
theorem dX9_bypass_40 : decode cX9_bypass 40 = .ok (.aload_n 1, 1) := by decide +kernel
theorem dX9_bypass_41 : decode cX9_bypass 41 = .ok (.iconst 0, 1) := by decide +kernel
theorem dX9_bypass_42 : decode cX9_bypass 42 = .ok (.iload_n 2, 1) := by decide +kernel
theorem dX9_bypass_43 : decode cX9_bypass 43 = .ok (.invokestatic 105, 3) := by decide +kernel
theorem dX9_bypass_46 : decode cX9_bypass 46 = .ok (.aload_n 1, 1) := by decide +kernel
theorem dX9_bypass_47 : decode cX9_bypass 47 = .ok (.aload 5, 2) := by decide +kernel
theorem dX9_bypass_49 : decode cX9_bypass 49 = .ok (.iload 6, 2) := by decide +kernel
theorem dX9_bypass_51 : decode cX9_bypass 51 = .ok (.invokestatic 97, 3) := by decide +kernel
theorem dX9_bypass_54 : decode cX9_bypass 54 = .ok (.return_, 1) := by decide +kernel
theorem dX9_bypass_55 : decode cX9_bypass 55 = .ok (.iinc 6 1, 3) := by decide +kernel
theorem dX9_bypass_58 : decode cX9_bypass 58 = .ok (.goto (-45), 3) := by decide +kernel
theorem dX9_bypass_61 : decode cX9_bypass 61 = .ok (.return_, 1) := by decide +kernel
theorem dX9_dropIfOutdone_0 : decode cX9_dropIfOutdone 0 = .ok (.aload_n 1, 1) := by decide +kernel
theorem dX9_dropIfOutdone_1 : decode cX9_dropIfOutdone 1 = .ok (.iconst 0, 1) := by decide +kernel
theorem dX9_dropIfOutdone_2 : decode cX9_dropIfOutdone 2 = .ok (.iload_n 2, 1) := by decide +kernel
theorem dX9_dropIfOutdone_3 : decode cX9_dropIfOutdone 3 = .ok (.invokestatic 93, 3) := by decide +kernel
theorem dX9_dropIfOutdone_6 : decode cX9_dropIfOutdone 6 = .ok (.ifCond .eq 24, 3) := by decide +kernel
theorem dX9_dropIfOutdone_9 : decode cX9_dropIfOutdone 9 = .ok (.aload_n 1, 1) := by decide +kernel
theorem dX9_dropIfOutdone_10 : decode cX9_dropIfOutdone 10 = .ok (.iconst 0, 1) := by decide +kernel
theorem dX9_dropIfOutdone_11 : decode cX9_dropIfOutdone 11 = .ok (.iload_n 2, 1) := by decide +kernel
theorem dX9_dropIfOutdone_12 : decode cX9_dropIfOutdone 12 = .ok (.invokestatic 105, 3) := by decide +kernel
theorem dX9_dropIfOutdone_15 : decode cX9_dropIfOutdone 15 = .ok (.aload_n 3, 1) := by decide +kernel
theorem dX9_dropIfOutdone_16 : decode cX9_dropIfOutdone 16 = .ok (.iload_n 2, 1) := by decide +kernel
theorem dX9_dropIfOutdone_17 : decode cX9_dropIfOutdone 17 = .ok (.aload_n 1, 1) := by decide +kernel
theorem dX9_dropIfOutdone_18 : decode cX9_dropIfOutdone 18 = .ok (.invokestatic 101, 3) := by decide +kernel
theorem dX9_dropIfOutdone_21 : decode cX9_dropIfOutdone 21 = .ok (.ifCond .ne 9, 3) := by decide +kernel
theorem dX9_dropIfOutdone_24 : decode cX9_dropIfOutdone 24 = .ok (.aload_n 1, 1) := by decide +kernel
theorem dX9_dropIfOutdone_25 : decode cX9_dropIfOutdone 25 = .ok (.iconst 0, 1) := by decide +kernel
theorem dX9_dropIfOutdone_26 : decode cX9_dropIfOutdone 26 = .ok (.iload_n 2, 1) := by decide +kernel
theorem dX9_dropIfOutdone_27 : decode cX9_dropIfOutdone 27 = .ok (.invokestatic 75, 3) := by decide +kernel
theorem dX9_dropIfOutdone_30 : decode cX9_dropIfOutdone 30 = .ok (.return_, 1) := by decide +kernel
theorem dX9_add_0 : decode cX9_add 0 = .ok (.aload_n 0, 1) := by decide +kernel
theorem dX9_add_1 : decode cX9_add 1 = .ok (.getfield 50, 3) := by decide +kernel
theorem dX9_add_4 : decode cX9_add 4 = .ok (.sipush 256, 3) := by decide +kernel
theorem dX9_add_7 : decode cX9_add 7 = .ok (.if_icmp .lt 5, 3) := by decide +kernel
theorem dX9_add_10 : decode cX9_add 10 = .ok (.iconst (-1), 1) := by decide +kernel
theorem dX9_add_11 : decode cX9_add 11 = .ok (.ireturn, 1) := by decide +kernel
theorem dX9_add_12 : decode cX9_add 12 = .ok (.aload_n 0, 1) := by decide +kernel
theorem dX9_add_13 : decode cX9_add 13 = .ok (.getfield 50, 3) := by decide +kernel
theorem dX9_add_16 : decode cX9_add 16 = .ok (.istore_n 1, 1) := by decide +kernel
theorem dX9_add_17 : decode cX9_add 17 = .ok (.aload_n 0, 1) := by decide +kernel
theorem dX9_add_18 : decode cX9_add 18 = .ok (.dup, 1) := by decide +kernel
theorem dX9_add_19 : decode cX9_add 19 = .ok (.getfield 50, 3) := by decide +kernel
theorem dX9_add_22 : decode cX9_add 22 = .ok (.iconst 1, 1) := by decide +kernel
theorem dX9_add_23 : decode cX9_add 23 = .ok (.iadd, 1) := by decide +kernel
theorem dX9_add_24 : decode cX9_add 24 = .ok (.putfield 50, 3) := by decide +kernel
theorem dX9_add_27 : decode cX9_add 27 = .ok (.aload_n 0, 1) := by decide +kernel
theorem dX9_add_28 : decode cX9_add 28 = .ok (.getfield 9, 3) := by decide +kernel
theorem dX9_add_31 : decode cX9_add 31 = .ok (.iload_n 1, 1) := by decide +kernel
theorem dX9_add_32 : decode cX9_add 32 = .ok (.aload_n 0, 1) := by decide +kernel
theorem dX9_add_33 : decode cX9_add 33 = .ok (.getfield 29, 3) := by decide +kernel
theorem dX9_add_36 : decode cX9_add 36 = .ok (.invokestatic 108, 3) := by decide +kernel
theorem dX9_add_39 : decode cX9_add 39 = .ok (.aload_n 0, 1) := by decide +kernel
theorem dX9_add_40 : decode cX9_add 40 = .ok (.getfield 13, 3) := by decide +kernel
theorem dX9_add_43 : decode cX9_add 43 = .ok (.iload_n 1, 1) := by decide +kernel
theorem dX9_add_44 : decode cX9_add 44 = .ok (.aload_n 0, 1) := by decide +kernel
theorem dX9_add_45 : decode cX9_add 45 = .ok (.getfield 32, 3) := by decide +kernel
theorem dX9_add_48 : decode cX9_add 48 = .ok (.invokestatic 108, 3) := by decide +kernel
theorem dX9_add_51 : decode cX9_add 51 = .ok (.aload_n 0, 1) := by decide +kernel
theorem dX9_add_52 : decode cX9_add 52 = .ok (.getfield 16, 3) := by decide +kernel
theorem dX9_add_55 : decode cX9_add 55 = .ok (.iload_n 1, 1) := by decide +kernel
theorem dX9_add_56 : decode cX9_add 56 = .ok (.aload_n 0, 1) := by decide +kernel
theorem dX9_add_57 : decode cX9_add 57 = .ok (.getfield 35, 3) := by decide +kernel
theorem dX9_add_60 : decode cX9_add 60 = .ok (.invokestatic 108, 3) := by decide +kernel
theorem dX9_add_63 : decode cX9_add 63 = .ok (.aload_n 0, 1) := by decide +kernel
theorem dX9_add_64 : decode cX9_add 64 = .ok (.getfield 19, 3) := by decide +kernel
theorem dX9_add_67 : decode cX9_add 67 = .ok (.iload_n 1, 1) := by decide +kernel
theorem dX9_add_68 : decode cX9_add 68 = .ok (.aload_n 0, 1) := by decide +kernel
theorem dX9_add_69 : decode cX9_add 69 = .ok (.getfield 38, 3) := by decide +kernel
theorem dX9_add_72 : decode cX9_add 72 = .ok (.invokestatic 108, 3) := by decide +kernel
theorem dX9_add_75 : decode cX9_add 75 = .ok (.iconst 0, 1) := by decide +kernel
theorem dX9_add_76 : decode cX9_add 76 = .ok (.istore_n 2, 1) := by decide +kernel
theorem dX9_add_77 : decode cX9_add 77 = .ok (.iload_n 2, 1) := by decide +kernel
theorem dX9_add_78 : decode cX9_add 78 = .ok (.iload_n 1, 1) := by decide +kernel
theorem dX9_add_79 : decode cX9_add 79 = .ok (.if_icmp .ge 51, 3) := by decide +kernel
theorem dX9_add_82 : decode cX9_add 82 = .ok (.aload_n 0, 1) := by decide +kernel
theorem dX9_add_83 : decode cX9_add 83 = .ok (.getfield 35, 3) := by decide +kernel
theorem dX9_add_86 : decode cX9_add 86 = .ok (.iconst 0, 1) := by decide +kernel
theorem dX9_add_87 : decode cX9_add 87 = .ok (.iload_n 2, 1) := by decide +kernel
theorem dX9_add_88 : decode cX9_add 88 = .ok (.invokestatic 93, 3) := by decide +kernel
theorem dX9_add_91 : decode cX9_add 91 = .ok (.ifCond .eq 12, 3) := by decide +kernel
theorem dX9_add_94 : decode cX9_add 94 = .ok (.aload_n 0, 1) := by decide +kernel
theorem dX9_add_95 : decode cX9_add 95 = .ok (.getfield 19, 3) := by decide +kernel
theorem dX9_add_98 : decode cX9_add 98 = .ok (.iload_n 2, 1) := by decide +kernel
theorem dX9_add_99 : decode cX9_add 99 = .ok (.iload_n 1, 1) := by decide +kernel
theorem dX9_add_100 : decode cX9_add 100 = .ok (.invokestatic 75, 3) := by decide +kernel
theorem dX9_add_103 : decode cX9_add 103 = .ok (.aload_n 0, 1) := by decide +kernel
theorem dX9_add_104 : decode cX9_add 104 = .ok (.getfield 38, 3) := by decide +kernel
theorem dX9_add_107 : decode cX9_add 107 = .ok (.iconst 0, 1) := by decide +kernel
theorem dX9_add_108 : decode cX9_add 108 = .ok (.iload_n 2, 1) := by decide +kernel
theorem dX9_add_109 : decode cX9_add 109 = .ok (.invokestatic 93, 3) := by decide +kernel
theorem dX9_add_112 : decode cX9_add 112 = .ok (.ifCond .eq 12, 3) := by decide +kernel
theorem dX9_add_115 : decode cX9_add 115 = .ok (.aload_n 0, 1) := by decide +kernel
theorem dX9_add_116 : decode cX9_add 116 = .ok (.getfield 16, 3) := by decide +kernel
theorem dX9_add_119 : decode cX9_add 119 = .ok (.iload_n 2, 1) := by decide +kernel
theorem dX9_add_120 : decode cX9_add 120 = .ok (.iload_n 1, 1) := by decide +kernel
theorem dX9_add_121 : decode cX9_add 121 = .ok (.invokestatic 75, 3) := by decide +kernel
theorem dX9_add_124 : decode cX9_add 124 = .ok (.iinc 2 1, 3) := by decide +kernel
theorem dX9_add_127 : decode cX9_add 127 = .ok (.goto (-50), 3) := by decide +kernel
theorem dX9_add_130 : decode cX9_add 130 = .ok (.aload_n 0, 1) := by decide +kernel
theorem dX9_add_131 : decode cX9_add 131 = .ok (.getfield 16, 3) := by decide +kernel
theorem dX9_add_134 : decode cX9_add 134 = .ok (.iload_n 1, 1) := by decide +kernel
theorem dX9_add_135 : decode cX9_add 135 = .ok (.iload_n 1, 1) := by decide +kernel
theorem dX9_add_136 : decode cX9_add 136 = .ok (.invokestatic 75, 3) := by decide +kernel
theorem dX9_add_139 : decode cX9_add 139 = .ok (.aload_n 0, 1) := by decide +kernel
theorem dX9_add_140 : decode cX9_add 140 = .ok (.getfield 19, 3) := by decide +kernel
theorem dX9_add_143 : decode cX9_add 143 = .ok (.iload_n 1, 1) := by decide +kernel
theorem dX9_add_144 : decode cX9_add 144 = .ok (.iload_n 1, 1) := by decide +kernel
theorem dX9_add_145 : decode cX9_add 145 = .ok (.invokestatic 75, 3) := by decide +kernel
theorem dX9_add_148 : decode cX9_add 148 = .ok (.aload_n 0, 1) := by decide +kernel
theorem dX9_add_149 : decode cX9_add 149 = .ok (.getfield 22, 3) := by decide +kernel
theorem dX9_add_152 : decode cX9_add 152 = .ok (.iload_n 1, 1) := by decide +kernel
theorem dX9_add_153 : decode cX9_add 153 = .ok (.iconst (-1), 1) := by decide +kernel
theorem dX9_add_154 : decode cX9_add 154 = .ok (.iastore, 1) := by decide +kernel
theorem dX9_add_155 : decode cX9_add 155 = .ok (.aload_n 0, 1) := by decide +kernel
theorem dX9_add_156 : decode cX9_add 156 = .ok (.getfield 26, 3) := by decide +kernel
theorem dX9_add_159 : decode cX9_add 159 = .ok (.iload_n 1, 1) := by decide +kernel
theorem dX9_add_160 : decode cX9_add 160 = .ok (.iconst (-1), 1) := by decide +kernel
theorem dX9_add_161 : decode cX9_add 161 = .ok (.iastore, 1) := by decide +kernel
theorem dX9_add_162 : decode cX9_add 162 = .ok (.iload_n 1, 1) := by decide +kernel
theorem dX9_add_163 : decode cX9_add 163 = .ok (.ireturn, 1) := by decide +kernel
theorem dX9_isNode_0 : decode cX9_isNode 0 = .ok (.iload_n 1, 1) := by decide +kernel
theorem dX9_isNode_1 : decode cX9_isNode 1 = .ok (.ifCond .lt 25, 3) := by decide +kernel
theorem dX9_isNode_4 : decode cX9_isNode 4 = .ok (.iload_n 1, 1) := by decide +kernel
theorem dX9_isNode_5 : decode cX9_isNode 5 = .ok (.aload_n 0, 1) := by decide +kernel
theorem dX9_isNode_6 : decode cX9_isNode 6 = .ok (.getfield 50, 3) := by decide +kernel
theorem dX9_isNode_9 : decode cX9_isNode 9 = .ok (.if_icmp .ge 17, 3) := by decide +kernel
theorem dX9_isNode_12 : decode cX9_isNode 12 = .ok (.aload_n 0, 1) := by decide +kernel
theorem dX9_isNode_13 : decode cX9_isNode 13 = .ok (.getfield 50, 3) := by decide +kernel
theorem dX9_isNode_16 : decode cX9_isNode 16 = .ok (.sipush 256, 3) := by decide +kernel
theorem dX9_isNode_19 : decode cX9_isNode 19 = .ok (.if_icmp .gt 7, 3) := by decide +kernel
theorem dX9_isNode_22 : decode cX9_isNode 22 = .ok (.iconst 1, 1) := by decide +kernel
theorem dX9_isNode_23 : decode cX9_isNode 23 = .ok (.goto 4, 3) := by decide +kernel
theorem dX9_isNode_26 : decode cX9_isNode 26 = .ok (.iconst 0, 1) := by decide +kernel
theorem dX9_isNode_27 : decode cX9_isNode 27 = .ok (.ireturn, 1) := by decide +kernel
theorem dX9_isOption_0 : decode cX9_isOption 0 = .ok (.aload_n 0, 1) := by decide +kernel
theorem dX9_isOption_1 : decode cX9_isOption 1 = .ok (.iload_n 1, 1) := by decide +kernel
theorem dX9_isOption_2 : decode cX9_isOption 2 = .ok (.invokevirtual 71, 3) := by decide +kernel
theorem dX9_isOption_5 : decode cX9_isOption 5 = .ok (.ifCond .eq 38, 3) := by decide +kernel
theorem dX9_isOption_8 : decode cX9_isOption 8 = .ok (.aload_n 0, 1) := by decide +kernel
theorem dX9_isOption_9 : decode cX9_isOption 9 = .ok (.iload_n 3, 1) := by decide +kernel
theorem dX9_isOption_10 : decode cX9_isOption 10 = .ok (.invokevirtual 71, 3) := by decide +kernel
theorem dX9_isOption_13 : decode cX9_isOption 13 = .ok (.ifCond .eq 30, 3) := by decide +kernel
theorem dX9_isOption_16 : decode cX9_isOption 16 = .ok (.iload_n 2, 1) := by decide +kernel
theorem dX9_isOption_17 : decode cX9_isOption 17 = .ok (.ifCond .ne 10, 3) := by decide +kernel
theorem dX9_isOption_20 : decode cX9_isOption 20 = .ok (.aload_n 0, 1) := by decide +kernel
theorem dX9_isOption_21 : decode cX9_isOption 21 = .ok (.getfield 9, 3) := by decide +kernel
theorem dX9_isOption_24 : decode cX9_isOption 24 = .ok (.goto 7, 3) := by decide +kernel
theorem dX9_isOption_27 : decode cX9_isOption 27 = .ok (.aload_n 0, 1) := by decide +kernel
theorem dX9_isOption_28 : decode cX9_isOption 28 = .ok (.getfield 13, 3) := by decide +kernel
theorem dX9_isOption_31 : decode cX9_isOption 31 = .ok (.iload_n 1, 1) := by decide +kernel
theorem dX9_isOption_32 : decode cX9_isOption 32 = .ok (.iload_n 3, 1) := by decide +kernel
theorem dX9_isOption_33 : decode cX9_isOption 33 = .ok (.invokestatic 93, 3) := by decide +kernel
theorem dX9_isOption_36 : decode cX9_isOption 36 = .ok (.ifCond .eq 7, 3) := by decide +kernel
theorem dX9_isOption_39 : decode cX9_isOption 39 = .ok (.iconst 1, 1) := by decide +kernel
theorem dX9_isOption_40 : decode cX9_isOption 40 = .ok (.goto 4, 3) := by decide +kernel
theorem dX9_isOption_43 : decode cX9_isOption 43 = .ok (.iconst 0, 1) := by decide +kernel
theorem dX9_isOption_44 : decode cX9_isOption 44 = .ok (.ireturn, 1) := by decide +kernel
theorem dX9_isAtMost_0 : decode cX9_isAtMost 0 = .ok (.aload_n 0, 1) := by decide +kernel
theorem dX9_isAtMost_1 : decode cX9_isAtMost 1 = .ok (.iload_n 1, 1) := by decide +kernel
theorem dX9_isAtMost_2 : decode cX9_isAtMost 2 = .ok (.invokevirtual 71, 3) := by decide +kernel
theorem dX9_isAtMost_5 : decode cX9_isAtMost 5 = .ok (.ifCond .eq 27, 3) := by decide +kernel
theorem dX9_isAtMost_8 : decode cX9_isAtMost 8 = .ok (.aload_n 0, 1) := by decide +kernel
theorem dX9_isAtMost_9 : decode cX9_isAtMost 9 = .ok (.iload_n 2, 1) := by decide +kernel
theorem dX9_isAtMost_10 : decode cX9_isAtMost 10 = .ok (.invokevirtual 71, 3) := by decide +kernel
theorem dX9_isAtMost_13 : decode cX9_isAtMost 13 = .ok (.ifCond .eq 19, 3) := by decide +kernel
theorem dX9_isAtMost_16 : decode cX9_isAtMost 16 = .ok (.aload_n 0, 1) := by decide +kernel
theorem dX9_isAtMost_17 : decode cX9_isAtMost 17 = .ok (.getfield 16, 3) := by decide +kernel
theorem dX9_isAtMost_20 : decode cX9_isAtMost 20 = .ok (.iload_n 1, 1) := by decide +kernel
theorem dX9_isAtMost_21 : decode cX9_isAtMost 21 = .ok (.iload_n 2, 1) := by decide +kernel
theorem dX9_isAtMost_22 : decode cX9_isAtMost 22 = .ok (.invokestatic 93, 3) := by decide +kernel
theorem dX9_isAtMost_25 : decode cX9_isAtMost 25 = .ok (.ifCond .eq 7, 3) := by decide +kernel
theorem dX9_isAtMost_28 : decode cX9_isAtMost 28 = .ok (.iconst 1, 1) := by decide +kernel
theorem dX9_isAtMost_29 : decode cX9_isAtMost 29 = .ok (.goto 4, 3) := by decide +kernel
theorem dX9_isAtMost_32 : decode cX9_isAtMost 32 = .ok (.iconst 0, 1) := by decide +kernel
theorem dX9_isAtMost_33 : decode cX9_isAtMost 33 = .ok (.ireturn, 1) := by decide +kernel
theorem dX9_isWhole_0 : decode cX9_isWhole 0 = .ok (.aload_n 0, 1) := by decide +kernel
theorem dX9_isWhole_1 : decode cX9_isWhole 1 = .ok (.iload_n 1, 1) := by decide +kernel
theorem dX9_isWhole_2 : decode cX9_isWhole 2 = .ok (.invokevirtual 71, 3) := by decide +kernel
theorem dX9_isWhole_5 : decode cX9_isWhole 5 = .ok (.ifCond .eq 29, 3) := by decide +kernel
theorem dX9_isWhole_8 : decode cX9_isWhole 8 = .ok (.aload_n 0, 1) := by decide +kernel
theorem dX9_isWhole_9 : decode cX9_isWhole 9 = .ok (.getfield 9, 3) := by decide +kernel
theorem dX9_isWhole_12 : decode cX9_isWhole 12 = .ok (.iload_n 1, 1) := by decide +kernel
theorem dX9_isWhole_13 : decode cX9_isWhole 13 = .ok (.invokestatic 111, 3) := by decide +kernel
theorem dX9_isWhole_16 : decode cX9_isWhole 16 = .ok (.ifCond .ne 14, 3) := by decide +kernel
theorem dX9_isWhole_19 : decode cX9_isWhole 19 = .ok (.aload_n 0, 1) := by decide +kernel
theorem dX9_isWhole_20 : decode cX9_isWhole 20 = .ok (.getfield 13, 3) := by decide +kernel
theorem dX9_isWhole_23 : decode cX9_isWhole 23 = .ok (.iload_n 1, 1) := by decide +kernel
theorem dX9_isWhole_24 : decode cX9_isWhole 24 = .ok (.invokestatic 111, 3) := by decide +kernel
theorem dX9_isWhole_27 : decode cX9_isWhole 27 = .ok (.ifCond .eq 7, 3) := by decide +kernel
theorem dX9_isWhole_30 : decode cX9_isWhole 30 = .ok (.iconst 1, 1) := by decide +kernel
theorem dX9_isWhole_31 : decode cX9_isWhole 31 = .ok (.goto 4, 3) := by decide +kernel
theorem dX9_isWhole_34 : decode cX9_isWhole 34 = .ok (.iconst 0, 1) := by decide +kernel
theorem dX9_isWhole_35 : decode cX9_isWhole 35 = .ok (.ireturn, 1) := by decide +kernel
theorem dX9_valueOf_0 : decode cX9_valueOf 0 = .ok (.aload_n 0, 1) := by decide +kernel
theorem dX9_valueOf_1 : decode cX9_valueOf 1 = .ok (.iload_n 1, 1) := by decide +kernel
theorem dX9_valueOf_2 : decode cX9_valueOf 2 = .ok (.invokevirtual 71, 3) := by decide +kernel
theorem dX9_valueOf_5 : decode cX9_valueOf 5 = .ok (.ifCond .ne 5, 3) := by decide +kernel
theorem dX9_valueOf_8 : decode cX9_valueOf 8 = .ok (.iconst 0, 1) := by decide +kernel
theorem dX9_valueOf_9 : decode cX9_valueOf 9 = .ok (.ireturn, 1) := by decide +kernel
theorem dX9_valueOf_10 : decode cX9_valueOf 10 = .ok (.aload_n 0, 1) := by decide +kernel
theorem dX9_valueOf_11 : decode cX9_valueOf 11 = .ok (.iload_n 1, 1) := by decide +kernel
theorem dX9_valueOf_12 : decode cX9_valueOf 12 = .ok (.invokevirtual 115, 3) := by decide +kernel
theorem dX9_valueOf_15 : decode cX9_valueOf 15 = .ok (.iconst (-1), 1) := by decide +kernel
theorem dX9_valueOf_16 : decode cX9_valueOf 16 = .ok (.istore_n 2, 1) := by decide +kernel
theorem dX9_valueOf_17 : decode cX9_valueOf 17 = .ok (.iconst 0, 1) := by decide +kernel
theorem dX9_valueOf_18 : decode cX9_valueOf 18 = .ok (.istore_n 3, 1) := by decide +kernel
theorem dX9_valueOf_19 : decode cX9_valueOf 19 = .ok (.iload_n 3, 1) := by decide +kernel
theorem dX9_valueOf_20 : decode cX9_valueOf 20 = .ok (.iload_n 1, 1) := by decide +kernel
theorem dX9_valueOf_21 : decode cX9_valueOf 21 = .ok (.if_icmp .gt 24, 3) := by decide +kernel
theorem dX9_valueOf_24 : decode cX9_valueOf 24 = .ok (.aload_n 0, 1) := by decide +kernel
theorem dX9_valueOf_25 : decode cX9_valueOf 25 = .ok (.getfield 47, 3) := by decide +kernel
theorem dX9_valueOf_28 : decode cX9_valueOf 28 = .ok (.iconst 0, 1) := by decide +kernel
theorem dX9_valueOf_29 : decode cX9_valueOf 29 = .ok (.iload_n 3, 1) := by decide +kernel
theorem dX9_valueOf_30 : decode cX9_valueOf 30 = .ok (.invokestatic 93, 3) := by decide +kernel
theorem dX9_valueOf_33 : decode cX9_valueOf 33 = .ok (.ifCond .eq 6, 3) := by decide +kernel
theorem dX9_valueOf_36 : decode cX9_valueOf 36 = .ok (.iinc 2 1, 3) := by decide +kernel
theorem dX9_valueOf_39 : decode cX9_valueOf 39 = .ok (.iinc 3 1, 3) := by decide +kernel
theorem dX9_valueOf_42 : decode cX9_valueOf 42 = .ok (.goto (-23), 3) := by decide +kernel
theorem dX9_valueOf_45 : decode cX9_valueOf 45 = .ok (.aload_n 0, 1) := by decide +kernel
theorem dX9_valueOf_46 : decode cX9_valueOf 46 = .ok (.getfield 13, 3) := by decide +kernel
theorem dX9_valueOf_49 : decode cX9_valueOf 49 = .ok (.iload_n 1, 1) := by decide +kernel
theorem dX9_valueOf_50 : decode cX9_valueOf 50 = .ok (.invokestatic 111, 3) := by decide +kernel
theorem dX9_valueOf_53 : decode cX9_valueOf 53 = .ok (.ifCond .eq 7, 3) := by decide +kernel
theorem dX9_valueOf_56 : decode cX9_valueOf 56 = .ok (.iload_n 2, 1) := by decide +kernel
theorem dX9_valueOf_57 : decode cX9_valueOf 57 = .ok (.goto 5, 3) := by decide +kernel
theorem dX9_valueOf_60 : decode cX9_valueOf 60 = .ok (.iload_n 2, 1) := by decide +kernel
theorem dX9_valueOf_61 : decode cX9_valueOf 61 = .ok (.ineg, 1) := by decide +kernel
theorem dX9_valueOf_62 : decode cX9_valueOf 62 = .ok (.ireturn, 1) := by decide +kernel
theorem dX9_followers_0 : decode cX9_followers 0 = .ok (.aload_n 0, 1) := by decide +kernel
theorem dX9_followers_1 : decode cX9_followers 1 = .ok (.iload_n 1, 1) := by decide +kernel
theorem dX9_followers_2 : decode cX9_followers 2 = .ok (.invokevirtual 71, 3) := by decide +kernel
theorem dX9_followers_5 : decode cX9_followers 5 = .ok (.ifCond .ne 5, 3) := by decide +kernel
theorem dX9_followers_8 : decode cX9_followers 8 = .ok (.iconst (-1), 1) := by decide +kernel
theorem dX9_followers_9 : decode cX9_followers 9 = .ok (.ireturn, 1) := by decide +kernel
theorem dX9_followers_10 : decode cX9_followers 10 = .ok (.aload_n 0, 1) := by decide +kernel
theorem dX9_followers_11 : decode cX9_followers 11 = .ok (.iload_n 1, 1) := by decide +kernel
theorem dX9_followers_12 : decode cX9_followers 12 = .ok (.invokevirtual 115, 3) := by decide +kernel
theorem dX9_followers_15 : decode cX9_followers 15 = .ok (.iconst 0, 1) := by decide +kernel
theorem dX9_followers_16 : decode cX9_followers 16 = .ok (.istore_n 3, 1) := by decide +kernel
theorem dX9_followers_17 : decode cX9_followers 17 = .ok (.iconst 0, 1) := by decide +kernel
theorem dX9_followers_18 : decode cX9_followers 18 = .ok (.istore 4, 2) := by decide +kernel
theorem dX9_followers_20 : decode cX9_followers 20 = .ok (.iload 4, 2) := by decide +kernel
theorem dX9_followers_22 : decode cX9_followers 22 = .ok (.iload_n 1, 1) := by decide +kernel
theorem dX9_followers_23 : decode cX9_followers 23 = .ok (.if_icmp .gt 38, 3) := by decide +kernel
theorem dX9_followers_26 : decode cX9_followers 26 = .ok (.aload_n 0, 1) := by decide +kernel
theorem dX9_followers_27 : decode cX9_followers 27 = .ok (.getfield 47, 3) := by decide +kernel
theorem dX9_followers_30 : decode cX9_followers 30 = .ok (.iconst 0, 1) := by decide +kernel
theorem dX9_followers_31 : decode cX9_followers 31 = .ok (.iload 4, 2) := by decide +kernel
theorem dX9_followers_33 : decode cX9_followers 33 = .ok (.invokestatic 93, 3) := by decide +kernel
theorem dX9_followers_36 : decode cX9_followers 36 = .ok (.ifCond .eq 19, 3) := by decide +kernel
theorem dX9_followers_39 : decode cX9_followers 39 = .ok (.iload_n 3, 1) := by decide +kernel
theorem dX9_followers_40 : decode cX9_followers 40 = .ok (.aload_n 2, 1) := by decide +kernel
theorem dX9_followers_41 : decode cX9_followers 41 = .ok (.arraylength, 1) := by decide +kernel
theorem dX9_followers_42 : decode cX9_followers 42 = .ok (.if_icmp .lt 5, 3) := by decide +kernel
theorem dX9_followers_45 : decode cX9_followers 45 = .ok (.iconst (-1), 1) := by decide +kernel
theorem dX9_followers_46 : decode cX9_followers 46 = .ok (.ireturn, 1) := by decide +kernel
theorem dX9_followers_47 : decode cX9_followers 47 = .ok (.aload_n 2, 1) := by decide +kernel
theorem dX9_followers_48 : decode cX9_followers 48 = .ok (.iload_n 3, 1) := by decide +kernel
theorem dX9_followers_49 : decode cX9_followers 49 = .ok (.iload 4, 2) := by decide +kernel
theorem dX9_followers_51 : decode cX9_followers 51 = .ok (.iastore, 1) := by decide +kernel
theorem dX9_followers_52 : decode cX9_followers 52 = .ok (.iinc 3 1, 3) := by decide +kernel
theorem dX9_followers_55 : decode cX9_followers 55 = .ok (.iinc 4 1, 3) := by decide +kernel
theorem dX9_followers_58 : decode cX9_followers 58 = .ok (.goto (-38), 3) := by decide +kernel
theorem dX9_followers_61 : decode cX9_followers 61 = .ok (.iload_n 3, 1) := by decide +kernel
theorem dX9_followers_62 : decode cX9_followers 62 = .ok (.ireturn, 1) := by decide +kernel
theorem dX9_gather_0 : decode cX9_gather 0 = .ok (.aload_n 0, 1) := by decide +kernel
theorem dX9_gather_1 : decode cX9_gather 1 = .ok (.getfield 47, 3) := by decide +kernel
theorem dX9_gather_4 : decode cX9_gather 4 = .ok (.lconst 0, 1) := by decide +kernel
theorem dX9_gather_5 : decode cX9_gather 5 = .ok (.invokestatic 65, 3) := by decide +kernel
theorem dX9_gather_8 : decode cX9_gather 8 = .ok (.aload_n 0, 1) := by decide +kernel
theorem dX9_gather_9 : decode cX9_gather 9 = .ok (.getfield 47, 3) := by decide +kernel
theorem dX9_gather_12 : decode cX9_gather 12 = .ok (.iconst 0, 1) := by decide +kernel
theorem dX9_gather_13 : decode cX9_gather 13 = .ok (.iload_n 1, 1) := by decide +kernel
theorem dX9_gather_14 : decode cX9_gather 14 = .ok (.invokestatic 75, 3) := by decide +kernel
theorem dX9_gather_17 : decode cX9_gather 17 = .ok (.iload_n 1, 1) := by decide +kernel
theorem dX9_gather_18 : decode cX9_gather 18 = .ok (.istore_n 2, 1) := by decide +kernel
theorem dX9_gather_19 : decode cX9_gather 19 = .ok (.iload_n 2, 1) := by decide +kernel
theorem dX9_gather_20 : decode cX9_gather 20 = .ok (.ifCond .lt 45, 3) := by decide +kernel
theorem dX9_gather_23 : decode cX9_gather 23 = .ok (.aload_n 0, 1) := by decide +kernel
theorem dX9_gather_24 : decode cX9_gather 24 = .ok (.getfield 47, 3) := by decide +kernel
theorem dX9_gather_27 : decode cX9_gather 27 = .ok (.iconst 0, 1) := by decide +kernel
theorem dX9_gather_28 : decode cX9_gather 28 = .ok (.iload_n 2, 1) := by decide +kernel
theorem dX9_gather_29 : decode cX9_gather 29 = .ok (.invokestatic 93, 3) := by decide +kernel
theorem dX9_gather_32 : decode cX9_gather 32 = .ok (.ifCond .eq 27, 3) := by decide +kernel
theorem dX9_gather_35 : decode cX9_gather 35 = .ok (.aload_n 0, 1) := by decide +kernel
theorem dX9_gather_36 : decode cX9_gather 36 = .ok (.getfield 47, 3) := by decide +kernel
theorem dX9_gather_39 : decode cX9_gather 39 = .ok (.aload_n 0, 1) := by decide +kernel
theorem dX9_gather_40 : decode cX9_gather 40 = .ok (.getfield 9, 3) := by decide +kernel
theorem dX9_gather_43 : decode cX9_gather 43 = .ok (.iload_n 2, 1) := by decide +kernel
theorem dX9_gather_44 : decode cX9_gather 44 = .ok (.invokestatic 97, 3) := by decide +kernel
theorem dX9_gather_47 : decode cX9_gather 47 = .ok (.aload_n 0, 1) := by decide +kernel
theorem dX9_gather_48 : decode cX9_gather 48 = .ok (.getfield 47, 3) := by decide +kernel
theorem dX9_gather_51 : decode cX9_gather 51 = .ok (.aload_n 0, 1) := by decide +kernel
theorem dX9_gather_52 : decode cX9_gather 52 = .ok (.getfield 13, 3) := by decide +kernel
theorem dX9_gather_55 : decode cX9_gather 55 = .ok (.iload_n 2, 1) := by decide +kernel
theorem dX9_gather_56 : decode cX9_gather 56 = .ok (.invokestatic 97, 3) := by decide +kernel
theorem dX9_gather_59 : decode cX9_gather 59 = .ok (.iinc 2 (-1), 3) := by decide +kernel
theorem dX9_gather_62 : decode cX9_gather 62 = .ok (.goto (-43), 3) := by decide +kernel
theorem dX9_gather_65 : decode cX9_gather 65 = .ok (.return_, 1) := by decide +kernel
theorem dX9_shifted_0 : decode cX9_shifted 0 = .ok (.aload_n 0, 1) := by decide +kernel
theorem dX9_shifted_1 : decode cX9_shifted 1 = .ok (.iload_n 1, 1) := by decide +kernel
theorem dX9_shifted_2 : decode cX9_shifted 2 = .ok (.invokevirtual 71, 3) := by decide +kernel
theorem dX9_shifted_5 : decode cX9_shifted 5 = .ok (.ifCond .ne 5, 3) := by decide +kernel
theorem dX9_shifted_8 : decode cX9_shifted 8 = .ok (.iconst (-1), 1) := by decide +kernel
theorem dX9_shifted_9 : decode cX9_shifted 9 = .ok (.ireturn, 1) := by decide +kernel
theorem dX9_shifted_10 : decode cX9_shifted 10 = .ok (.aload_n 0, 1) := by decide +kernel
theorem dX9_shifted_11 : decode cX9_shifted 11 = .ok (.iload_n 1, 1) := by decide +kernel
theorem dX9_shifted_12 : decode cX9_shifted 12 = .ok (.invokevirtual 115, 3) := by decide +kernel
theorem dX9_shifted_15 : decode cX9_shifted 15 = .ok (.iload_n 2, 1) := by decide +kernel
theorem dX9_shifted_16 : decode cX9_shifted 16 = .ok (.ifCond .eq 10, 3) := by decide +kernel
theorem dX9_shifted_19 : decode cX9_shifted 19 = .ok (.aload_n 0, 1) := by decide +kernel
theorem dX9_shifted_20 : decode cX9_shifted 20 = .ok (.getfield 22, 3) := by decide +kernel
theorem dX9_shifted_23 : decode cX9_shifted 23 = .ok (.goto 7, 3) := by decide +kernel
theorem dX9_shifted_26 : decode cX9_shifted 26 = .ok (.aload_n 0, 1) := by decide +kernel
theorem dX9_shifted_27 : decode cX9_shifted 27 = .ok (.getfield 26, 3) := by decide +kernel
theorem dX9_shifted_30 : decode cX9_shifted 30 = .ok (.astore_n 3, 1) := by decide +kernel
theorem dX9_shifted_31 : decode cX9_shifted 31 = .ok (.iconst 0, 1) := by decide +kernel
theorem dX9_shifted_32 : decode cX9_shifted 32 = .ok (.istore 4, 2) := by decide +kernel
theorem dX9_shifted_34 : decode cX9_shifted 34 = .ok (.iload 4, 2) := by decide +kernel
theorem dX9_shifted_36 : decode cX9_shifted 36 = .ok (.iload_n 1, 1) := by decide +kernel
theorem dX9_shifted_37 : decode cX9_shifted 37 = .ok (.if_icmp .gt 129, 3) := by decide +kernel
theorem dX9_shifted_40 : decode cX9_shifted 40 = .ok (.iload 4, 2) := by decide +kernel
theorem dX9_shifted_42 : decode cX9_shifted 42 = .ok (.aload_n 3, 1) := by decide +kernel
theorem dX9_shifted_43 : decode cX9_shifted 43 = .ok (.arraylength, 1) := by decide +kernel
theorem dX9_shifted_44 : decode cX9_shifted 44 = .ok (.if_icmp .ge 122, 3) := by decide +kernel
theorem dX9_shifted_47 : decode cX9_shifted 47 = .ok (.aload_n 0, 1) := by decide +kernel
theorem dX9_shifted_48 : decode cX9_shifted 48 = .ok (.getfield 47, 3) := by decide +kernel
theorem dX9_shifted_51 : decode cX9_shifted 51 = .ok (.iconst 0, 1) := by decide +kernel
theorem dX9_shifted_52 : decode cX9_shifted 52 = .ok (.iload 4, 2) := by decide +kernel
theorem dX9_shifted_54 : decode cX9_shifted 54 = .ok (.invokestatic 93, 3) := by decide +kernel
theorem dX9_shifted_57 : decode cX9_shifted 57 = .ok (.ifCond .eq 103, 3) := by decide +kernel
theorem dX9_shifted_60 : decode cX9_shifted 60 = .ok (.aload_n 3, 1) := by decide +kernel
theorem dX9_shifted_61 : decode cX9_shifted 61 = .ok (.iload 4, 2) := by decide +kernel
theorem dX9_shifted_63 : decode cX9_shifted 63 = .ok (.iaload, 1) := by decide +kernel
theorem dX9_shifted_64 : decode cX9_shifted 64 = .ok (.ifCond .ge 96, 3) := by decide +kernel
theorem dX9_shifted_67 : decode cX9_shifted 67 = .ok (.aload_n 0, 1) := by decide +kernel
theorem dX9_shifted_68 : decode cX9_shifted 68 = .ok (.invokevirtual 54, 3) := by decide +kernel
theorem dX9_shifted_71 : decode cX9_shifted 71 = .ok (.iload_n 2, 1) := by decide +kernel
theorem dX9_shifted_72 : decode cX9_shifted 72 = .ok (.ifCond .eq 10, 3) := by decide +kernel
theorem dX9_shifted_75 : decode cX9_shifted 75 = .ok (.aload_n 0, 1) := by decide +kernel
theorem dX9_shifted_76 : decode cX9_shifted 76 = .ok (.getfield 29, 3) := by decide +kernel
theorem dX9_shifted_79 : decode cX9_shifted 79 = .ok (.goto 7, 3) := by decide +kernel
theorem dX9_shifted_82 : decode cX9_shifted 82 = .ok (.aload_n 0, 1) := by decide +kernel
theorem dX9_shifted_83 : decode cX9_shifted 83 = .ok (.getfield 32, 3) := by decide +kernel
theorem dX9_shifted_86 : decode cX9_shifted 86 = .ok (.iconst 0, 1) := by decide +kernel
theorem dX9_shifted_87 : decode cX9_shifted 87 = .ok (.iload 4, 2) := by decide +kernel
theorem dX9_shifted_89 : decode cX9_shifted 89 = .ok (.invokestatic 75, 3) := by decide +kernel
theorem dX9_shifted_92 : decode cX9_shifted 92 = .ok (.iconst 0, 1) := by decide +kernel
theorem dX9_shifted_93 : decode cX9_shifted 93 = .ok (.istore 5, 2) := by decide +kernel
theorem dX9_shifted_95 : decode cX9_shifted 95 = .ok (.iload 5, 2) := by decide +kernel
theorem dX9_shifted_97 : decode cX9_shifted 97 = .ok (.iload 4, 2) := by decide +kernel
theorem dX9_shifted_99 : decode cX9_shifted 99 = .ok (.if_icmp .ge 53, 3) := by decide +kernel
theorem dX9_shifted_102 : decode cX9_shifted 102 = .ok (.aload_n 0, 1) := by decide +kernel
theorem dX9_shifted_103 : decode cX9_shifted 103 = .ok (.getfield 9, 3) := by decide +kernel
theorem dX9_shifted_106 : decode cX9_shifted 106 = .ok (.iload 4, 2) := by decide +kernel
theorem dX9_shifted_108 : decode cX9_shifted 108 = .ok (.iload 5, 2) := by decide +kernel
theorem dX9_shifted_110 : decode cX9_shifted 110 = .ok (.invokestatic 93, 3) := by decide +kernel
theorem dX9_shifted_113 : decode cX9_shifted 113 = .ok (.ifCond .eq 11, 3) := by decide +kernel
theorem dX9_shifted_116 : decode cX9_shifted 116 = .ok (.aload_n 0, 1) := by decide +kernel
theorem dX9_shifted_117 : decode cX9_shifted 117 = .ok (.aload_n 3, 1) := by decide +kernel
theorem dX9_shifted_118 : decode cX9_shifted 118 = .ok (.iload 5, 2) := by decide +kernel
theorem dX9_shifted_120 : decode cX9_shifted 120 = .ok (.iaload, 1) := by decide +kernel
theorem dX9_shifted_121 : decode cX9_shifted 121 = .ok (.invokevirtual 119, 3) := by decide +kernel
theorem dX9_shifted_124 : decode cX9_shifted 124 = .ok (.aload_n 0, 1) := by decide +kernel
theorem dX9_shifted_125 : decode cX9_shifted 125 = .ok (.getfield 13, 3) := by decide +kernel
theorem dX9_shifted_128 : decode cX9_shifted 128 = .ok (.iload 4, 2) := by decide +kernel
theorem dX9_shifted_130 : decode cX9_shifted 130 = .ok (.iload 5, 2) := by decide +kernel
theorem dX9_shifted_132 : decode cX9_shifted 132 = .ok (.invokestatic 93, 3) := by decide +kernel
theorem dX9_shifted_135 : decode cX9_shifted 135 = .ok (.ifCond .eq 11, 3) := by decide +kernel
theorem dX9_shifted_138 : decode cX9_shifted 138 = .ok (.aload_n 0, 1) := by decide +kernel
theorem dX9_shifted_139 : decode cX9_shifted 139 = .ok (.aload_n 3, 1) := by decide +kernel
theorem dX9_shifted_140 : decode cX9_shifted 140 = .ok (.iload 5, 2) := by decide +kernel
theorem dX9_shifted_142 : decode cX9_shifted 142 = .ok (.iaload, 1) := by decide +kernel
theorem dX9_shifted_143 : decode cX9_shifted 143 = .ok (.invokevirtual 122, 3) := by decide +kernel
theorem dX9_shifted_146 : decode cX9_shifted 146 = .ok (.iinc 5 1, 3) := by decide +kernel
theorem dX9_shifted_149 : decode cX9_shifted 149 = .ok (.goto (-54), 3) := by decide +kernel
theorem dX9_shifted_152 : decode cX9_shifted 152 = .ok (.aload_n 3, 1) := by decide +kernel
theorem dX9_shifted_153 : decode cX9_shifted 153 = .ok (.iload 4, 2) := by decide +kernel
theorem dX9_shifted_155 : decode cX9_shifted 155 = .ok (.aload_n 0, 1) := by decide +kernel
theorem dX9_shifted_156 : decode cX9_shifted 156 = .ok (.invokevirtual 57, 3) := by decide +kernel
theorem dX9_shifted_159 : decode cX9_shifted 159 = .ok (.iastore, 1) := by decide +kernel
theorem dX9_shifted_160 : decode cX9_shifted 160 = .ok (.iinc 4 1, 3) := by decide +kernel
theorem dX9_shifted_163 : decode cX9_shifted 163 = .ok (.goto (-129), 3) := by decide +kernel
theorem dX9_shifted_166 : decode cX9_shifted 166 = .ok (.iload_n 1, 1) := by decide +kernel
theorem dX9_shifted_167 : decode cX9_shifted 167 = .ok (.aload_n 3, 1) := by decide +kernel
theorem dX9_shifted_168 : decode cX9_shifted 168 = .ok (.arraylength, 1) := by decide +kernel
theorem dX9_shifted_169 : decode cX9_shifted 169 = .ok (.if_icmp .ge 9, 3) := by decide +kernel
theorem dX9_shifted_172 : decode cX9_shifted 172 = .ok (.aload_n 3, 1) := by decide +kernel
theorem dX9_shifted_173 : decode cX9_shifted 173 = .ok (.iload_n 1, 1) := by decide +kernel
theorem dX9_shifted_174 : decode cX9_shifted 174 = .ok (.iaload, 1) := by decide +kernel
theorem dX9_shifted_175 : decode cX9_shifted 175 = .ok (.goto 4, 3) := by decide +kernel
theorem dX9_shifted_178 : decode cX9_shifted 178 = .ok (.iconst (-1), 1) := by decide +kernel
theorem dX9_shifted_179 : decode cX9_shifted 179 = .ok (.ireturn, 1) := by decide +kernel
theorem dX9_has_0 : decode cX9_has 0 = .ok (.iload_n 1, 1) := by decide +kernel
theorem dX9_has_1 : decode cX9_has 1 = .ok (.iconst 4, 1) := by decide +kernel
theorem dX9_has_2 : decode cX9_has 2 = .ok (.imul, 1) := by decide +kernel
theorem dX9_has_3 : decode cX9_has 3 = .ok (.iload_n 2, 1) := by decide +kernel
theorem dX9_has_4 : decode cX9_has 4 = .ok (.bipush 6, 2) := by decide +kernel
theorem dX9_has_6 : decode cX9_has 6 = .ok (.ishr, 1) := by decide +kernel
theorem dX9_has_7 : decode cX9_has 7 = .ok (.iadd, 1) := by decide +kernel
theorem dX9_has_8 : decode cX9_has 8 = .ok (.istore_n 3, 1) := by decide +kernel
theorem dX9_has_9 : decode cX9_has 9 = .ok (.iload_n 3, 1) := by decide +kernel
theorem dX9_has_10 : decode cX9_has 10 = .ok (.ifCond .lt 28, 3) := by decide +kernel
theorem dX9_has_13 : decode cX9_has 13 = .ok (.iload_n 3, 1) := by decide +kernel
theorem dX9_has_14 : decode cX9_has 14 = .ok (.aload_n 0, 1) := by decide +kernel
theorem dX9_has_15 : decode cX9_has 15 = .ok (.arraylength, 1) := by decide +kernel
theorem dX9_has_16 : decode cX9_has 16 = .ok (.if_icmp .ge 22, 3) := by decide +kernel
theorem dX9_has_19 : decode cX9_has 19 = .ok (.aload_n 0, 1) := by decide +kernel
theorem dX9_has_20 : decode cX9_has 20 = .ok (.iload_n 3, 1) := by decide +kernel
theorem dX9_has_21 : decode cX9_has 21 = .ok (.laload, 1) := by decide +kernel
theorem dX9_has_22 : decode cX9_has 22 = .ok (.iload_n 2, 1) := by decide +kernel
theorem dX9_has_23 : decode cX9_has 23 = .ok (.bipush 63, 2) := by decide +kernel
theorem dX9_has_25 : decode cX9_has 25 = .ok (.iand, 1) := by decide +kernel
theorem dX9_has_26 : decode cX9_has 26 = .ok (.lushr, 1) := by decide +kernel
theorem dX9_has_27 : decode cX9_has 27 = .ok (.lconst 1, 1) := by decide +kernel
theorem dX9_has_28 : decode cX9_has 28 = .ok (.land, 1) := by decide +kernel
theorem dX9_has_29 : decode cX9_has 29 = .ok (.lconst 0, 1) := by decide +kernel
theorem dX9_has_30 : decode cX9_has 30 = .ok (.lcmp, 1) := by decide +kernel
theorem dX9_has_31 : decode cX9_has 31 = .ok (.ifCond .eq 7, 3) := by decide +kernel
theorem dX9_has_34 : decode cX9_has 34 = .ok (.iconst 1, 1) := by decide +kernel
theorem dX9_has_35 : decode cX9_has 35 = .ok (.goto 4, 3) := by decide +kernel
theorem dX9_has_38 : decode cX9_has 38 = .ok (.iconst 0, 1) := by decide +kernel
theorem dX9_has_39 : decode cX9_has 39 = .ok (.ireturn, 1) := by decide +kernel
theorem dX9_mark_0 : decode cX9_mark 0 = .ok (.iload_n 1, 1) := by decide +kernel
theorem dX9_mark_1 : decode cX9_mark 1 = .ok (.iconst 4, 1) := by decide +kernel
theorem dX9_mark_2 : decode cX9_mark 2 = .ok (.imul, 1) := by decide +kernel
theorem dX9_mark_3 : decode cX9_mark 3 = .ok (.iload_n 2, 1) := by decide +kernel
theorem dX9_mark_4 : decode cX9_mark 4 = .ok (.bipush 6, 2) := by decide +kernel
theorem dX9_mark_6 : decode cX9_mark 6 = .ok (.ishr, 1) := by decide +kernel
theorem dX9_mark_7 : decode cX9_mark 7 = .ok (.iadd, 1) := by decide +kernel
theorem dX9_mark_8 : decode cX9_mark 8 = .ok (.istore_n 3, 1) := by decide +kernel
theorem dX9_mark_9 : decode cX9_mark 9 = .ok (.iload_n 3, 1) := by decide +kernel
theorem dX9_mark_10 : decode cX9_mark 10 = .ok (.ifCond .lt 21, 3) := by decide +kernel
theorem dX9_mark_13 : decode cX9_mark 13 = .ok (.iload_n 3, 1) := by decide +kernel
theorem dX9_mark_14 : decode cX9_mark 14 = .ok (.aload_n 0, 1) := by decide +kernel
theorem dX9_mark_15 : decode cX9_mark 15 = .ok (.arraylength, 1) := by decide +kernel
theorem dX9_mark_16 : decode cX9_mark 16 = .ok (.if_icmp .ge 15, 3) := by decide +kernel
theorem dX9_mark_19 : decode cX9_mark 19 = .ok (.aload_n 0, 1) := by decide +kernel
theorem dX9_mark_20 : decode cX9_mark 20 = .ok (.iload_n 3, 1) := by decide +kernel
theorem dX9_mark_21 : decode cX9_mark 21 = .ok (.dup2, 1) := by decide +kernel
theorem dX9_mark_22 : decode cX9_mark 22 = .ok (.laload, 1) := by decide +kernel
theorem dX9_mark_23 : decode cX9_mark 23 = .ok (.lconst 1, 1) := by decide +kernel
theorem dX9_mark_24 : decode cX9_mark 24 = .ok (.iload_n 2, 1) := by decide +kernel
theorem dX9_mark_25 : decode cX9_mark 25 = .ok (.bipush 63, 2) := by decide +kernel
theorem dX9_mark_27 : decode cX9_mark 27 = .ok (.iand, 1) := by decide +kernel
theorem dX9_mark_28 : decode cX9_mark 28 = .ok (.lshl, 1) := by decide +kernel
theorem dX9_mark_29 : decode cX9_mark 29 = .ok (.lor, 1) := by decide +kernel
theorem dX9_mark_30 : decode cX9_mark 30 = .ok (.lastore, 1) := by decide +kernel
theorem dX9_mark_31 : decode cX9_mark 31 = .ok (.return_, 1) := by decide +kernel
theorem dX9_unmark_0 : decode cX9_unmark 0 = .ok (.iload_n 1, 1) := by decide +kernel
theorem dX9_unmark_1 : decode cX9_unmark 1 = .ok (.iconst 4, 1) := by decide +kernel
theorem dX9_unmark_2 : decode cX9_unmark 2 = .ok (.imul, 1) := by decide +kernel
theorem dX9_unmark_3 : decode cX9_unmark 3 = .ok (.iload_n 2, 1) := by decide +kernel
theorem dX9_unmark_4 : decode cX9_unmark 4 = .ok (.bipush 6, 2) := by decide +kernel
theorem dX9_unmark_6 : decode cX9_unmark 6 = .ok (.ishr, 1) := by decide +kernel
theorem dX9_unmark_7 : decode cX9_unmark 7 = .ok (.iadd, 1) := by decide +kernel
theorem dX9_unmark_8 : decode cX9_unmark 8 = .ok (.istore_n 3, 1) := by decide +kernel
theorem dX9_unmark_9 : decode cX9_unmark 9 = .ok (.iload_n 3, 1) := by decide +kernel
theorem dX9_unmark_10 : decode cX9_unmark 10 = .ok (.ifCond .lt 25, 3) := by decide +kernel
theorem dX9_unmark_13 : decode cX9_unmark 13 = .ok (.iload_n 3, 1) := by decide +kernel
theorem dX9_unmark_14 : decode cX9_unmark 14 = .ok (.aload_n 0, 1) := by decide +kernel
theorem dX9_unmark_15 : decode cX9_unmark 15 = .ok (.arraylength, 1) := by decide +kernel
theorem dX9_unmark_16 : decode cX9_unmark 16 = .ok (.if_icmp .ge 19, 3) := by decide +kernel
theorem dX9_unmark_19 : decode cX9_unmark 19 = .ok (.aload_n 0, 1) := by decide +kernel
theorem dX9_unmark_20 : decode cX9_unmark 20 = .ok (.iload_n 3, 1) := by decide +kernel
theorem dX9_unmark_21 : decode cX9_unmark 21 = .ok (.dup2, 1) := by decide +kernel
theorem dX9_unmark_22 : decode cX9_unmark 22 = .ok (.laload, 1) := by decide +kernel
theorem dX9_unmark_23 : decode cX9_unmark 23 = .ok (.lconst 1, 1) := by decide +kernel
theorem dX9_unmark_24 : decode cX9_unmark 24 = .ok (.iload_n 2, 1) := by decide +kernel
theorem dX9_unmark_25 : decode cX9_unmark 25 = .ok (.bipush 63, 2) := by decide +kernel
theorem dX9_unmark_27 : decode cX9_unmark 27 = .ok (.iand, 1) := by decide +kernel
theorem dX9_unmark_28 : decode cX9_unmark 28 = .ok (.lshl, 1) := by decide +kernel
theorem dX9_unmark_29 : decode cX9_unmark 29 = .ok (.ldc2_w 125, 3) := by decide +kernel
theorem dX9_unmark_32 : decode cX9_unmark 32 = .ok (.lxor, 1) := by decide +kernel
theorem dX9_unmark_33 : decode cX9_unmark 33 = .ok (.land, 1) := by decide +kernel
theorem dX9_unmark_34 : decode cX9_unmark 34 = .ok (.lastore, 1) := by decide +kernel
theorem dX9_unmark_35 : decode cX9_unmark 35 = .ok (.return_, 1) := by decide +kernel
theorem dX9_meets_0 : decode cX9_meets 0 = .ok (.iload_n 1, 1) := by decide +kernel
theorem dX9_meets_1 : decode cX9_meets 1 = .ok (.iconst 4, 1) := by decide +kernel
theorem dX9_meets_2 : decode cX9_meets 2 = .ok (.imul, 1) := by decide +kernel
theorem dX9_meets_3 : decode cX9_meets 3 = .ok (.istore_n 3, 1) := by decide +kernel
theorem dX9_meets_4 : decode cX9_meets 4 = .ok (.iconst 0, 1) := by decide +kernel
theorem dX9_meets_5 : decode cX9_meets 5 = .ok (.istore 4, 2) := by decide +kernel
theorem dX9_meets_7 : decode cX9_meets 7 = .ok (.iload 4, 2) := by decide +kernel
theorem dX9_meets_9 : decode cX9_meets 9 = .ok (.iconst 4, 1) := by decide +kernel
theorem dX9_meets_10 : decode cX9_meets 10 = .ok (.if_icmp .ge 47, 3) := by decide +kernel
theorem dX9_meets_13 : decode cX9_meets 13 = .ok (.iload 4, 2) := by decide +kernel
theorem dX9_meets_15 : decode cX9_meets 15 = .ok (.aload_n 2, 1) := by decide +kernel
theorem dX9_meets_16 : decode cX9_meets 16 = .ok (.arraylength, 1) := by decide +kernel
theorem dX9_meets_17 : decode cX9_meets 17 = .ok (.if_icmp .ge 40, 3) := by decide +kernel
theorem dX9_meets_20 : decode cX9_meets 20 = .ok (.iload_n 3, 1) := by decide +kernel
theorem dX9_meets_21 : decode cX9_meets 21 = .ok (.ifCond .lt 36, 3) := by decide +kernel
theorem dX9_meets_24 : decode cX9_meets 24 = .ok (.iload_n 3, 1) := by decide +kernel
theorem dX9_meets_25 : decode cX9_meets 25 = .ok (.iload 4, 2) := by decide +kernel
theorem dX9_meets_27 : decode cX9_meets 27 = .ok (.iadd, 1) := by decide +kernel
theorem dX9_meets_28 : decode cX9_meets 28 = .ok (.aload_n 0, 1) := by decide +kernel
theorem dX9_meets_29 : decode cX9_meets 29 = .ok (.arraylength, 1) := by decide +kernel
theorem dX9_meets_30 : decode cX9_meets 30 = .ok (.if_icmp .ge 27, 3) := by decide +kernel
theorem dX9_meets_33 : decode cX9_meets 33 = .ok (.aload_n 0, 1) := by decide +kernel
theorem dX9_meets_34 : decode cX9_meets 34 = .ok (.iload_n 3, 1) := by decide +kernel
theorem dX9_meets_35 : decode cX9_meets 35 = .ok (.iload 4, 2) := by decide +kernel
theorem dX9_meets_37 : decode cX9_meets 37 = .ok (.iadd, 1) := by decide +kernel
theorem dX9_meets_38 : decode cX9_meets 38 = .ok (.laload, 1) := by decide +kernel
theorem dX9_meets_39 : decode cX9_meets 39 = .ok (.aload_n 2, 1) := by decide +kernel
theorem dX9_meets_40 : decode cX9_meets 40 = .ok (.iload 4, 2) := by decide +kernel
theorem dX9_meets_42 : decode cX9_meets 42 = .ok (.laload, 1) := by decide +kernel
theorem dX9_meets_43 : decode cX9_meets 43 = .ok (.land, 1) := by decide +kernel
theorem dX9_meets_44 : decode cX9_meets 44 = .ok (.lconst 0, 1) := by decide +kernel
theorem dX9_meets_45 : decode cX9_meets 45 = .ok (.lcmp, 1) := by decide +kernel
theorem dX9_meets_46 : decode cX9_meets 46 = .ok (.ifCond .eq 5, 3) := by decide +kernel
theorem dX9_meets_49 : decode cX9_meets 49 = .ok (.iconst 1, 1) := by decide +kernel
theorem dX9_meets_50 : decode cX9_meets 50 = .ok (.ireturn, 1) := by decide +kernel
theorem dX9_meets_51 : decode cX9_meets 51 = .ok (.iinc 4 1, 3) := by decide +kernel
theorem dX9_meets_54 : decode cX9_meets 54 = .ok (.goto (-47), 3) := by decide +kernel
theorem dX9_meets_57 : decode cX9_meets 57 = .ok (.iconst 0, 1) := by decide +kernel
theorem dX9_meets_58 : decode cX9_meets 58 = .ok (.ireturn, 1) := by decide +kernel
theorem dX9_isBare_0 : decode cX9_isBare 0 = .ok (.iload_n 1, 1) := by decide +kernel
theorem dX9_isBare_1 : decode cX9_isBare 1 = .ok (.iconst 4, 1) := by decide +kernel
theorem dX9_isBare_2 : decode cX9_isBare 2 = .ok (.imul, 1) := by decide +kernel
theorem dX9_isBare_3 : decode cX9_isBare 3 = .ok (.istore_n 2, 1) := by decide +kernel
theorem dX9_isBare_4 : decode cX9_isBare 4 = .ok (.iconst 0, 1) := by decide +kernel
theorem dX9_isBare_5 : decode cX9_isBare 5 = .ok (.istore_n 3, 1) := by decide +kernel
theorem dX9_isBare_6 : decode cX9_isBare 6 = .ok (.iload_n 3, 1) := by decide +kernel
theorem dX9_isBare_7 : decode cX9_isBare 7 = .ok (.iconst 4, 1) := by decide +kernel
theorem dX9_isBare_8 : decode cX9_isBare 8 = .ok (.if_icmp .ge 33, 3) := by decide +kernel
theorem dX9_isBare_11 : decode cX9_isBare 11 = .ok (.iload_n 2, 1) := by decide +kernel
theorem dX9_isBare_12 : decode cX9_isBare 12 = .ok (.ifCond .lt 29, 3) := by decide +kernel
theorem dX9_isBare_15 : decode cX9_isBare 15 = .ok (.iload_n 2, 1) := by decide +kernel
theorem dX9_isBare_16 : decode cX9_isBare 16 = .ok (.iload_n 3, 1) := by decide +kernel
theorem dX9_isBare_17 : decode cX9_isBare 17 = .ok (.iadd, 1) := by decide +kernel
theorem dX9_isBare_18 : decode cX9_isBare 18 = .ok (.aload_n 0, 1) := by decide +kernel
theorem dX9_isBare_19 : decode cX9_isBare 19 = .ok (.arraylength, 1) := by decide +kernel
theorem dX9_isBare_20 : decode cX9_isBare 20 = .ok (.if_icmp .ge 21, 3) := by decide +kernel
theorem dX9_isBare_23 : decode cX9_isBare 23 = .ok (.aload_n 0, 1) := by decide +kernel
theorem dX9_isBare_24 : decode cX9_isBare 24 = .ok (.iload_n 2, 1) := by decide +kernel
theorem dX9_isBare_25 : decode cX9_isBare 25 = .ok (.iload_n 3, 1) := by decide +kernel
theorem dX9_isBare_26 : decode cX9_isBare 26 = .ok (.iadd, 1) := by decide +kernel
theorem dX9_isBare_27 : decode cX9_isBare 27 = .ok (.laload, 1) := by decide +kernel
theorem dX9_isBare_28 : decode cX9_isBare 28 = .ok (.lconst 0, 1) := by decide +kernel
theorem dX9_isBare_29 : decode cX9_isBare 29 = .ok (.lcmp, 1) := by decide +kernel
theorem dX9_isBare_30 : decode cX9_isBare 30 = .ok (.ifCond .eq 5, 3) := by decide +kernel
theorem dX9_isBare_33 : decode cX9_isBare 33 = .ok (.iconst 0, 1) := by decide +kernel
theorem dX9_isBare_34 : decode cX9_isBare 34 = .ok (.ireturn, 1) := by decide +kernel
theorem dX9_isBare_35 : decode cX9_isBare 35 = .ok (.iinc 3 1, 3) := by decide +kernel
theorem dX9_isBare_38 : decode cX9_isBare 38 = .ok (.goto (-32), 3) := by decide +kernel
theorem dX9_isBare_41 : decode cX9_isBare 41 = .ok (.iconst 1, 1) := by decide +kernel
theorem dX9_isBare_42 : decode cX9_isBare 42 = .ok (.ireturn, 1) := by decide +kernel
theorem dX9_join_0 : decode cX9_join 0 = .ok (.iload_n 2, 1) := by decide +kernel
theorem dX9_join_1 : decode cX9_join 1 = .ok (.iconst 4, 1) := by decide +kernel
theorem dX9_join_2 : decode cX9_join 2 = .ok (.imul, 1) := by decide +kernel
theorem dX9_join_3 : decode cX9_join 3 = .ok (.istore_n 3, 1) := by decide +kernel
theorem dX9_join_4 : decode cX9_join 4 = .ok (.iconst 0, 1) := by decide +kernel
theorem dX9_join_5 : decode cX9_join 5 = .ok (.istore 4, 2) := by decide +kernel
theorem dX9_join_7 : decode cX9_join 7 = .ok (.iload 4, 2) := by decide +kernel
theorem dX9_join_9 : decode cX9_join 9 = .ok (.iconst 4, 1) := by decide +kernel
theorem dX9_join_10 : decode cX9_join 10 = .ok (.if_icmp .ge 42, 3) := by decide +kernel
theorem dX9_join_13 : decode cX9_join 13 = .ok (.iload 4, 2) := by decide +kernel
theorem dX9_join_15 : decode cX9_join 15 = .ok (.aload_n 0, 1) := by decide +kernel
theorem dX9_join_16 : decode cX9_join 16 = .ok (.arraylength, 1) := by decide +kernel
theorem dX9_join_17 : decode cX9_join 17 = .ok (.if_icmp .ge 35, 3) := by decide +kernel
theorem dX9_join_20 : decode cX9_join 20 = .ok (.iload_n 3, 1) := by decide +kernel
theorem dX9_join_21 : decode cX9_join 21 = .ok (.ifCond .lt 31, 3) := by decide +kernel
theorem dX9_join_24 : decode cX9_join 24 = .ok (.iload_n 3, 1) := by decide +kernel
theorem dX9_join_25 : decode cX9_join 25 = .ok (.iload 4, 2) := by decide +kernel
theorem dX9_join_27 : decode cX9_join 27 = .ok (.iadd, 1) := by decide +kernel
theorem dX9_join_28 : decode cX9_join 28 = .ok (.aload_n 1, 1) := by decide +kernel
theorem dX9_join_29 : decode cX9_join 29 = .ok (.arraylength, 1) := by decide +kernel
theorem dX9_join_30 : decode cX9_join 30 = .ok (.if_icmp .ge 22, 3) := by decide +kernel
theorem dX9_join_33 : decode cX9_join 33 = .ok (.aload_n 0, 1) := by decide +kernel
theorem dX9_join_34 : decode cX9_join 34 = .ok (.iload 4, 2) := by decide +kernel
theorem dX9_join_36 : decode cX9_join 36 = .ok (.dup2, 1) := by decide +kernel
theorem dX9_join_37 : decode cX9_join 37 = .ok (.laload, 1) := by decide +kernel
theorem dX9_join_38 : decode cX9_join 38 = .ok (.aload_n 1, 1) := by decide +kernel
theorem dX9_join_39 : decode cX9_join 39 = .ok (.iload_n 3, 1) := by decide +kernel
theorem dX9_join_40 : decode cX9_join 40 = .ok (.iload 4, 2) := by decide +kernel
theorem dX9_join_42 : decode cX9_join 42 = .ok (.iadd, 1) := by decide +kernel
theorem dX9_join_43 : decode cX9_join 43 = .ok (.laload, 1) := by decide +kernel
theorem dX9_join_44 : decode cX9_join 44 = .ok (.lor, 1) := by decide +kernel
theorem dX9_join_45 : decode cX9_join 45 = .ok (.lastore, 1) := by decide +kernel
theorem dX9_join_46 : decode cX9_join 46 = .ok (.iinc 4 1, 3) := by decide +kernel
theorem dX9_join_49 : decode cX9_join 49 = .ok (.goto (-42), 3) := by decide +kernel
theorem dX9_join_52 : decode cX9_join 52 = .ok (.return_, 1) := by decide +kernel
theorem dX9_replace_0 : decode cX9_replace 0 = .ok (.iload_n 1, 1) := by decide +kernel
theorem dX9_replace_1 : decode cX9_replace 1 = .ok (.iconst 4, 1) := by decide +kernel
theorem dX9_replace_2 : decode cX9_replace 2 = .ok (.imul, 1) := by decide +kernel
theorem dX9_replace_3 : decode cX9_replace 3 = .ok (.istore_n 3, 1) := by decide +kernel
theorem dX9_replace_4 : decode cX9_replace 4 = .ok (.iconst 0, 1) := by decide +kernel
theorem dX9_replace_5 : decode cX9_replace 5 = .ok (.istore 4, 2) := by decide +kernel
theorem dX9_replace_7 : decode cX9_replace 7 = .ok (.iload 4, 2) := by decide +kernel
theorem dX9_replace_9 : decode cX9_replace 9 = .ok (.iconst 4, 1) := by decide +kernel
theorem dX9_replace_10 : decode cX9_replace 10 = .ok (.if_icmp .ge 39, 3) := by decide +kernel
theorem dX9_replace_13 : decode cX9_replace 13 = .ok (.iload 4, 2) := by decide +kernel
theorem dX9_replace_15 : decode cX9_replace 15 = .ok (.aload_n 2, 1) := by decide +kernel
theorem dX9_replace_16 : decode cX9_replace 16 = .ok (.arraylength, 1) := by decide +kernel
theorem dX9_replace_17 : decode cX9_replace 17 = .ok (.if_icmp .ge 32, 3) := by decide +kernel
theorem dX9_replace_20 : decode cX9_replace 20 = .ok (.iload_n 3, 1) := by decide +kernel
theorem dX9_replace_21 : decode cX9_replace 21 = .ok (.ifCond .lt 28, 3) := by decide +kernel
theorem dX9_replace_24 : decode cX9_replace 24 = .ok (.iload_n 3, 1) := by decide +kernel
theorem dX9_replace_25 : decode cX9_replace 25 = .ok (.iload 4, 2) := by decide +kernel
theorem dX9_replace_27 : decode cX9_replace 27 = .ok (.iadd, 1) := by decide +kernel
theorem dX9_replace_28 : decode cX9_replace 28 = .ok (.aload_n 0, 1) := by decide +kernel
theorem dX9_replace_29 : decode cX9_replace 29 = .ok (.arraylength, 1) := by decide +kernel
theorem dX9_replace_30 : decode cX9_replace 30 = .ok (.if_icmp .ge 19, 3) := by decide +kernel
theorem dX9_replace_33 : decode cX9_replace 33 = .ok (.aload_n 0, 1) := by decide +kernel
theorem dX9_replace_34 : decode cX9_replace 34 = .ok (.iload_n 3, 1) := by decide +kernel
theorem dX9_replace_35 : decode cX9_replace 35 = .ok (.iload 4, 2) := by decide +kernel
theorem dX9_replace_37 : decode cX9_replace 37 = .ok (.iadd, 1) := by decide +kernel
theorem dX9_replace_38 : decode cX9_replace 38 = .ok (.aload_n 2, 1) := by decide +kernel
theorem dX9_replace_39 : decode cX9_replace 39 = .ok (.iload 4, 2) := by decide +kernel
theorem dX9_replace_41 : decode cX9_replace 41 = .ok (.laload, 1) := by decide +kernel
theorem dX9_replace_42 : decode cX9_replace 42 = .ok (.lastore, 1) := by decide +kernel
theorem dX9_replace_43 : decode cX9_replace 43 = .ok (.iinc 4 1, 3) := by decide +kernel
theorem dX9_replace_46 : decode cX9_replace 46 = .ok (.goto (-39), 3) := by decide +kernel
theorem dX9_replace_49 : decode cX9_replace 49 = .ok (.return_, 1) := by decide +kernel
