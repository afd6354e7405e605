theorem dX10_ahead_0 : decode cX10_ahead 0 = .ok (.iload_n 1, 1) := by decide +kernel
theorem dX10_ahead_1 : decode cX10_ahead 1 = .ok (.invokestatic 103, 3) := by decide +kernel
theorem dX10_ahead_4 : decode cX10_ahead 4 = .ok (.ifCond .ne 10, 3) := by decide +kernel
theorem dX10_ahead_7 : decode cX10_ahead 7 = .ok (.aload_n 0, 1) := by decide +kernel
theorem dX10_ahead_8 : decode cX10_ahead 8 = .ok (.ldc 107, 2) := by decide +kernel
theorem dX10_ahead_10 : decode cX10_ahead 10 = .ok (.invokevirtual 108, 3) := by decide +kernel
theorem dX10_ahead_13 : decode cX10_ahead 13 = .ok (.ireturn, 1) := by decide +kernel
theorem dX10_ahead_14 : decode cX10_ahead 14 = .ok (.aload_n 0, 1) := by decide +kernel
theorem dX10_ahead_15 : decode cX10_ahead 15 = .ok (.getfield 84, 3) := by decide +kernel
theorem dX10_ahead_18 : decode cX10_ahead 18 = .ok (.iload_n 1, 1) := by decide +kernel
theorem dX10_ahead_19 : decode cX10_ahead 19 = .ok (.invokevirtual 112, 3) := by decide +kernel
theorem dX10_ahead_22 : decode cX10_ahead 22 = .ok (.astore_n 2, 1) := by decide +kernel
theorem dX10_ahead_23 : decode cX10_ahead 23 = .ok (.aload_n 2, 1) := by decide +kernel
theorem dX10_ahead_24 : decode cX10_ahead 24 = .ok (.invokevirtual 141, 3) := by decide +kernel
theorem dX10_ahead_27 : decode cX10_ahead 27 = .ok (.ifCond .ne 10, 3) := by decide +kernel
theorem dX10_ahead_30 : decode cX10_ahead 30 = .ok (.aload_n 0, 1) := by decide +kernel
theorem dX10_ahead_31 : decode cX10_ahead 31 = .ok (.ldc 220, 2) := by decide +kernel
theorem dX10_ahead_33 : decode cX10_ahead 33 = .ok (.invokevirtual 108, 3) := by decide +kernel
theorem dX10_ahead_36 : decode cX10_ahead 36 = .ok (.ireturn, 1) := by decide +kernel
theorem dX10_ahead_37 : decode cX10_ahead 37 = .ok (.aload_n 0, 1) := by decide +kernel
theorem dX10_ahead_38 : decode cX10_ahead 38 = .ok (.getfield 56, 3) := by decide +kernel
theorem dX10_ahead_41 : decode cX10_ahead 41 = .ok (.aload_n 2, 1) := by decide +kernel
theorem dX10_ahead_42 : decode cX10_ahead 42 = .ok (.invokevirtual 221, 3) := by decide +kernel
theorem dX10_ahead_45 : decode cX10_ahead 45 = .ok (.istore_n 3, 1) := by decide +kernel
theorem dX10_ahead_46 : decode cX10_ahead 46 = .ok (.aload_n 0, 1) := by decide +kernel
theorem dX10_ahead_47 : decode cX10_ahead 47 = .ok (.getfield 12, 3) := by decide +kernel
theorem dX10_ahead_50 : decode cX10_ahead 50 = .ok (.iload_n 3, 1) := by decide +kernel
theorem dX10_ahead_51 : decode cX10_ahead 51 = .ok (.invokevirtual 228, 3) := by decide +kernel
theorem dX10_ahead_54 : decode cX10_ahead 54 = .ok (.ifCond .eq 14, 3) := by decide +kernel
theorem dX10_ahead_57 : decode cX10_ahead 57 = .ok (.aload_n 0, 1) := by decide +kernel
theorem dX10_ahead_58 : decode cX10_ahead 58 = .ok (.getfield 12, 3) := by decide +kernel
theorem dX10_ahead_61 : decode cX10_ahead 61 = .ok (.iload_n 3, 1) := by decide +kernel
theorem dX10_ahead_62 : decode cX10_ahead 62 = .ok (.invokevirtual 231, 3) := by decide +kernel
theorem dX10_ahead_65 : decode cX10_ahead 65 = .ok (.goto 4, 3) := by decide +kernel
theorem dX10_ahead_68 : decode cX10_ahead 68 = .ok (.iconst 0, 1) := by decide +kernel
theorem dX10_ahead_69 : decode cX10_ahead 69 = .ok (.istore 4, 2) := by decide +kernel
theorem dX10_ahead_71 : decode cX10_ahead 71 = .ok (.iload 4, 2) := by decide +kernel
theorem dX10_ahead_73 : decode cX10_ahead 73 = .ok (.iconst 2, 1) := by decide +kernel
theorem dX10_ahead_74 : decode cX10_ahead 74 = .ok (.if_icmp .lt 5, 3) := by decide +kernel
theorem dX10_ahead_77 : decode cX10_ahead 77 = .ok (.iconst 1, 1) := by decide +kernel
theorem dX10_ahead_78 : decode cX10_ahead 78 = .ok (.ireturn, 1) := by decide +kernel
theorem dX10_ahead_79 : decode cX10_ahead 79 = .ok (.iload 4, 2) := by decide +kernel
theorem dX10_ahead_81 : decode cX10_ahead 81 = .ok (.bipush (-2), 2) := by decide +kernel
theorem dX10_ahead_83 : decode cX10_ahead 83 = .ok (.if_icmp .gt 7, 3) := by decide +kernel
theorem dX10_ahead_86 : decode cX10_ahead 86 = .ok (.iconst (-1), 1) := by decide +kernel
theorem dX10_ahead_87 : decode cX10_ahead 87 = .ok (.goto 4, 3) := by decide +kernel
theorem dX10_ahead_90 : decode cX10_ahead 90 = .ok (.iconst 0, 1) := by decide +kernel
theorem dX10_ahead_91 : decode cX10_ahead 91 = .ok (.ireturn, 1) := by decide +kernel
theorem dX10_atomic_0 : decode cX10_atomic 0 = .ok (.iload_n 1, 1) := by decide +kernel
theorem dX10_atomic_1 : decode cX10_atomic 1 = .ok (.invokestatic 103, 3) := by decide +kernel
theorem dX10_atomic_4 : decode cX10_atomic 4 = .ok (.ifCond .ne 10, 3) := by decide +kernel
theorem dX10_atomic_7 : decode cX10_atomic 7 = .ok (.aload_n 0, 1) := by decide +kernel
theorem dX10_atomic_8 : decode cX10_atomic 8 = .ok (.ldc 107, 2) := by decide +kernel
theorem dX10_atomic_10 : decode cX10_atomic 10 = .ok (.invokevirtual 108, 3) := by decide +kernel
theorem dX10_atomic_13 : decode cX10_atomic 13 = .ok (.ireturn, 1) := by decide +kernel
theorem dX10_atomic_14 : decode cX10_atomic 14 = .ok (.aload_n 0, 1) := by decide +kernel
theorem dX10_atomic_15 : decode cX10_atomic 15 = .ok (.getfield 84, 3) := by decide +kernel
theorem dX10_atomic_18 : decode cX10_atomic 18 = .ok (.iload_n 1, 1) := by decide +kernel
theorem dX10_atomic_19 : decode cX10_atomic 19 = .ok (.invokevirtual 112, 3) := by decide +kernel
theorem dX10_atomic_22 : decode cX10_atomic 22 = .ok (.astore_n 2, 1) := by decide +kernel
theorem dX10_atomic_23 : decode cX10_atomic 23 = .ok (.aload_n 2, 1) := by decide +kernel
theorem dX10_atomic_24 : decode cX10_atomic 24 = .ok (.invokevirtual 141, 3) := by decide +kernel
theorem dX10_atomic_27 : decode cX10_atomic 27 = .ok (.ifCond .ne 10, 3) := by decide +kernel
theorem dX10_atomic_30 : decode cX10_atomic 30 = .ok (.aload_n 0, 1) := by decide +kernel
theorem dX10_atomic_31 : decode cX10_atomic 31 = .ok (.ldc 220, 2) := by decide +kernel
theorem dX10_atomic_33 : decode cX10_atomic 33 = .ok (.invokevirtual 108, 3) := by decide +kernel
theorem dX10_atomic_36 : decode cX10_atomic 36 = .ok (.ireturn, 1) := by decide +kernel
theorem dX10_atomic_37 : decode cX10_atomic 37 = .ok (.aload_n 0, 1) := by decide +kernel
theorem dX10_atomic_38 : decode cX10_atomic 38 = .ok (.getfield 56, 3) := by decide +kernel
theorem dX10_atomic_41 : decode cX10_atomic 41 = .ok (.aload_n 2, 1) := by decide +kernel
theorem dX10_atomic_42 : decode cX10_atomic 42 = .ok (.invokevirtual 221, 3) := by decide +kernel
theorem dX10_atomic_45 : decode cX10_atomic 45 = .ok (.istore_n 3, 1) := by decide +kernel
theorem dX10_atomic_46 : decode cX10_atomic 46 = .ok (.aload_n 0, 1) := by decide +kernel
theorem dX10_atomic_47 : decode cX10_atomic 47 = .ok (.getfield 12, 3) := by decide +kernel
theorem dX10_atomic_50 : decode cX10_atomic 50 = .ok (.iload_n 3, 1) := by decide +kernel
theorem dX10_atomic_51 : decode cX10_atomic 51 = .ok (.invokevirtual 228, 3) := by decide +kernel
theorem dX10_atomic_54 : decode cX10_atomic 54 = .ok (.ifCond .eq 14, 3) := by decide +kernel
theorem dX10_atomic_57 : decode cX10_atomic 57 = .ok (.aload_n 0, 1) := by decide +kernel
theorem dX10_atomic_58 : decode cX10_atomic 58 = .ok (.getfield 12, 3) := by decide +kernel
theorem dX10_atomic_61 : decode cX10_atomic 61 = .ok (.iload_n 3, 1) := by decide +kernel
theorem dX10_atomic_62 : decode cX10_atomic 62 = .ok (.invokevirtual 231, 3) := by decide +kernel
theorem dX10_atomic_65 : decode cX10_atomic 65 = .ok (.goto 9, 3) := by decide +kernel
theorem dX10_atomic_68 : decode cX10_atomic 68 = .ok (.aload_n 0, 1) := by decide +kernel
theorem dX10_atomic_69 : decode cX10_atomic 69 = .ok (.ldc 158, 2) := by decide +kernel
theorem dX10_atomic_71 : decode cX10_atomic 71 = .ok (.invokevirtual 108, 3) := by decide +kernel
theorem dX10_atomic_74 : decode cX10_atomic 74 = .ok (.ireturn, 1) := by decide +kernel
theorem dX10_born_0 : decode cX10_born 0 = .ok (.iload_n 1, 1) := by decide +kernel
theorem dX10_born_1 : decode cX10_born 1 = .ok (.invokestatic 262, 3) := by decide +kernel
theorem dX10_born_4 : decode cX10_born 4 = .ok (.ifCond .eq 19, 3) := by decide +kernel
theorem dX10_born_7 : decode cX10_born 7 = .ok (.iload_n 2, 1) := by decide +kernel
theorem dX10_born_8 : decode cX10_born 8 = .ok (.iconst (-1), 1) := by decide +kernel
theorem dX10_born_9 : decode cX10_born 9 = .ok (.if_icmp .lt 14, 3) := by decide +kernel
theorem dX10_born_12 : decode cX10_born 12 = .ok (.iload_n 2, 1) := by decide +kernel
theorem dX10_born_13 : decode cX10_born 13 = .ok (.ifCond .lt 17, 3) := by decide +kernel
theorem dX10_born_16 : decode cX10_born 16 = .ok (.iload_n 3, 1) := by decide +kernel
theorem dX10_born_17 : decode cX10_born 17 = .ok (.invokestatic 103, 3) := by decide +kernel
theorem dX10_born_20 : decode cX10_born 20 = .ok (.ifCond .ne 10, 3) := by decide +kernel
theorem dX10_born_23 : decode cX10_born 23 = .ok (.aload_n 0, 1) := by decide +kernel
theorem dX10_born_24 : decode cX10_born 24 = .ok (.ldc 107, 2) := by decide +kernel
theorem dX10_born_26 : decode cX10_born 26 = .ok (.invokevirtual 108, 3) := by decide +kernel
theorem dX10_born_29 : decode cX10_born 29 = .ok (.ireturn, 1) := by decide +kernel
theorem dX10_born_30 : decode cX10_born 30 = .ok (.iload_n 2, 1) := by decide +kernel
theorem dX10_born_31 : decode cX10_born 31 = .ok (.iconst (-1), 1) := by decide +kernel
theorem dX10_born_32 : decode cX10_born 32 = .ok (.if_icmp .ne 12, 3) := by decide +kernel
theorem dX10_born_35 : decode cX10_born 35 = .ok (.aload_n 0, 1) := by decide +kernel
theorem dX10_born_36 : decode cX10_born 36 = .ok (.getfield 63, 3) := by decide +kernel
theorem dX10_born_39 : decode cX10_born 39 = .ok (.iload_n 1, 1) := by decide +kernel
theorem dX10_born_40 : decode cX10_born 40 = .ok (.invokevirtual 265, 3) := by decide +kernel
theorem dX10_born_43 : decode cX10_born 43 = .ok (.ireturn, 1) := by decide +kernel
theorem dX10_born_44 : decode cX10_born 44 = .ok (.aload_n 0, 1) := by decide +kernel
theorem dX10_born_45 : decode cX10_born 45 = .ok (.getfield 63, 3) := by decide +kernel
theorem dX10_born_48 : decode cX10_born 48 = .ok (.iload_n 1, 1) := by decide +kernel
theorem dX10_born_49 : decode cX10_born 49 = .ok (.iload_n 2, 1) := by decide +kernel
theorem dX10_born_50 : decode cX10_born 50 = .ok (.invokevirtual 268, 3) := by decide +kernel
theorem dX10_born_53 : decode cX10_born 53 = .ok (.astore 4, 2) := by decide +kernel
theorem dX10_born_55 : decode cX10_born 55 = .ok (.aload 4, 2) := by decide +kernel
theorem dX10_born_57 : decode cX10_born 57 = .ok (.ifnonnull 12, 3) := by decide +kernel
theorem dX10_born_60 : decode cX10_born 60 = .ok (.aload_n 0, 1) := by decide +kernel
theorem dX10_born_61 : decode cX10_born 61 = .ok (.ldc 158, 2) := by decide +kernel
theorem dX10_born_63 : decode cX10_born 63 = .ok (.invokevirtual 108, 3) := by decide +kernel
theorem dX10_born_66 : decode cX10_born 66 = .ok (.goto 10, 3) := by decide +kernel
theorem dX10_born_69 : decode cX10_born 69 = .ok (.aload_n 0, 1) := by decide +kernel
theorem dX10_born_70 : decode cX10_born 70 = .ok (.iload_n 3, 1) := by decide +kernel
theorem dX10_born_71 : decode cX10_born 71 = .ok (.aload 4, 2) := by decide +kernel
theorem dX10_born_73 : decode cX10_born 73 = .ok (.invokevirtual 166, 3) := by decide +kernel
theorem dX10_born_76 : decode cX10_born 76 = .ok (.ireturn, 1) := by decide +kernel
theorem dX10_fail_0 : decode cX10_fail 0 = .ok (.ldc_w 335, 3) := by decide +kernel
theorem dX10_fail_3 : decode cX10_fail 3 = .ok (.iload_n 1, 1) := by decide +kernel
theorem dX10_fail_4 : decode cX10_fail 4 = .ok (.isub, 1) := by decide +kernel
theorem dX10_fail_5 : decode cX10_fail 5 = .ok (.istore_n 2, 1) := by decide +kernel
theorem dX10_fail_6 : decode cX10_fail 6 = .ok (.iload_n 2, 1) := by decide +kernel
theorem dX10_fail_7 : decode cX10_fail 7 = .ok (.iconst 1, 1) := by decide +kernel
theorem dX10_fail_8 : decode cX10_fail 8 = .ok (.bipush 6, 2) := by decide +kernel
theorem dX10_fail_10 : decode cX10_fail 10 = .ok (.invokestatic 159, 3) := by decide +kernel
theorem dX10_fail_13 : decode cX10_fail 13 = .ok (.ifCond .eq 13, 3) := by decide +kernel
theorem dX10_fail_16 : decode cX10_fail 16 = .ok (.aload_n 0, 1) := by decide +kernel
theorem dX10_fail_17 : decode cX10_fail 17 = .ok (.getfield 99, 3) := by decide +kernel
theorem dX10_fail_20 : decode cX10_fail 20 = .ok (.iload_n 2, 1) := by decide +kernel
theorem dX10_fail_21 : decode cX10_fail 21 = .ok (.dup2, 1) := by decide +kernel
theorem dX10_fail_22 : decode cX10_fail 22 = .ok (.iaload, 1) := by decide +kernel
theorem dX10_fail_23 : decode cX10_fail 23 = .ok (.iconst 1, 1) := by decide +kernel
theorem dX10_fail_24 : decode cX10_fail 24 = .ok (.iadd, 1) := by decide +kernel
theorem dX10_fail_25 : decode cX10_fail 25 = .ok (.iastore, 1) := by decide +kernel
theorem dX10_fail_26 : decode cX10_fail 26 = .ok (.iload_n 1, 1) := by decide +kernel
theorem dX10_fail_27 : decode cX10_fail 27 = .ok (.ireturn, 1) := by decide +kernel
theorem dX10_feed_0 : decode cX10_feed 0 = .ok (.iload_n 3, 1) := by decide +kernel
theorem dX10_feed_1 : decode cX10_feed 1 = .ok (.iconst 1, 1) := by decide +kernel
theorem dX10_feed_2 : decode cX10_feed 2 = .ok (.bipush 8, 2) := by decide +kernel
theorem dX10_feed_4 : decode cX10_feed 4 = .ok (.invokestatic 159, 3) := by decide +kernel
theorem dX10_feed_7 : decode cX10_feed 7 = .ok (.ifCond .ne 10, 3) := by decide +kernel
theorem dX10_feed_10 : decode cX10_feed 10 = .ok (.aload_n 0, 1) := by decide +kernel
theorem dX10_feed_11 : decode cX10_feed 11 = .ok (.ldc 107, 2) := by decide +kernel
theorem dX10_feed_13 : decode cX10_feed 13 = .ok (.invokevirtual 108, 3) := by decide +kernel
theorem dX10_feed_16 : decode cX10_feed 16 = .ok (.ireturn, 1) := by decide +kernel
theorem dX10_feed_17 : decode cX10_feed 17 = .ok (.aload_n 0, 1) := by decide +kernel
theorem dX10_feed_18 : decode cX10_feed 18 = .ok (.getfield 72, 3) := by decide +kernel
theorem dX10_feed_21 : decode cX10_feed 21 = .ok (.iload_n 3, 1) := by decide +kernel
theorem dX10_feed_22 : decode cX10_feed 22 = .ok (.invokevirtual 272, 3) := by decide +kernel
theorem dX10_feed_25 : decode cX10_feed 25 = .ok (.ifCond .eq 15, 3) := by decide +kernel
theorem dX10_feed_28 : decode cX10_feed 28 = .ok (.aload_n 0, 1) := by decide +kernel
theorem dX10_feed_29 : decode cX10_feed 29 = .ok (.getfield 72, 3) := by decide +kernel
theorem dX10_feed_32 : decode cX10_feed 32 = .ok (.lload_n 1, 1) := by decide +kernel
theorem dX10_feed_33 : decode cX10_feed 33 = .ok (.iload_n 3, 1) := by decide +kernel
theorem dX10_feed_34 : decode cX10_feed 34 = .ok (.invokevirtual 275, 3) := by decide +kernel
theorem dX10_feed_37 : decode cX10_feed 37 = .ok (.goto 10, 3) := by decide +kernel
theorem dX10_feed_40 : decode cX10_feed 40 = .ok (.aload_n 0, 1) := by decide +kernel
theorem dX10_feed_41 : decode cX10_feed 41 = .ok (.ldc_w 279, 3) := by decide +kernel
theorem dX10_feed_44 : decode cX10_feed 44 = .ok (.invokevirtual 108, 3) := by decide +kernel
theorem dX10_feed_47 : decode cX10_feed 47 = .ok (.ireturn, 1) := by decide +kernel
theorem dX10_fight_0 : decode cX10_fight 0 = .ok (.iload_n 1, 1) := by decide +kernel
theorem dX10_fight_1 : decode cX10_fight 1 = .ok (.invokestatic 103, 3) := by decide +kernel
theorem dX10_fight_4 : decode cX10_fight 4 = .ok (.ifCond .eq 25, 3) := by decide +kernel
theorem dX10_fight_7 : decode cX10_fight 7 = .ok (.iload_n 2, 1) := by decide +kernel
theorem dX10_fight_8 : decode cX10_fight 8 = .ok (.invokestatic 103, 3) := by decide +kernel
theorem dX10_fight_11 : decode cX10_fight 11 = .ok (.ifCond .eq 18, 3) := by decide +kernel
theorem dX10_fight_14 : decode cX10_fight 14 = .ok (.iload_n 3, 1) := by decide +kernel
theorem dX10_fight_15 : decode cX10_fight 15 = .ok (.invokestatic 199, 3) := by decide +kernel
theorem dX10_fight_18 : decode cX10_fight 18 = .ok (.ifCond .eq 11, 3) := by decide +kernel
theorem dX10_fight_21 : decode cX10_fight 21 = .ok (.iload 4, 2) := by decide +kernel
theorem dX10_fight_23 : decode cX10_fight 23 = .ok (.invokestatic 199, 3) := by decide +kernel
theorem dX10_fight_26 : decode cX10_fight 26 = .ok (.ifCond .ne 10, 3) := by decide +kernel
theorem dX10_fight_29 : decode cX10_fight 29 = .ok (.aload_n 0, 1) := by decide +kernel
theorem dX10_fight_30 : decode cX10_fight 30 = .ok (.ldc 107, 2) := by decide +kernel
theorem dX10_fight_32 : decode cX10_fight 32 = .ok (.invokevirtual 108, 3) := by decide +kernel
theorem dX10_fight_35 : decode cX10_fight 35 = .ok (.ireturn, 1) := by decide +kernel
theorem dX10_fight_36 : decode cX10_fight 36 = .ok (.aload_n 0, 1) := by decide +kernel
theorem dX10_fight_37 : decode cX10_fight 37 = .ok (.getfield 47, 3) := by decide +kernel
theorem dX10_fight_40 : decode cX10_fight 40 = .ok (.aload_n 0, 1) := by decide +kernel
theorem dX10_fight_41 : decode cX10_fight 41 = .ok (.getfield 84, 3) := by decide +kernel
theorem dX10_fight_44 : decode cX10_fight 44 = .ok (.iload_n 1, 1) := by decide +kernel
theorem dX10_fight_45 : decode cX10_fight 45 = .ok (.invokevirtual 112, 3) := by decide +kernel
theorem dX10_fight_48 : decode cX10_fight 48 = .ok (.aload_n 0, 1) := by decide +kernel
theorem dX10_fight_49 : decode cX10_fight 49 = .ok (.getfield 84, 3) := by decide +kernel
theorem dX10_fight_52 : decode cX10_fight 52 = .ok (.iload_n 2, 1) := by decide +kernel
theorem dX10_fight_53 : decode cX10_fight 53 = .ok (.invokevirtual 112, 3) := by decide +kernel
theorem dX10_fight_56 : decode cX10_fight 56 = .ok (.iconst 0, 1) := by decide +kernel
theorem dX10_fight_57 : decode cX10_fight 57 = .ok (.invokevirtual 213, 3) := by decide +kernel
theorem dX10_fight_60 : decode cX10_fight 60 = .ok (.aload_n 0, 1) := by decide +kernel
theorem dX10_fight_61 : decode cX10_fight 61 = .ok (.getfield 47, 3) := by decide +kernel
theorem dX10_fight_64 : decode cX10_fight 64 = .ok (.iload_n 3, 1) := by decide +kernel
theorem dX10_fight_65 : decode cX10_fight 65 = .ok (.invokevirtual 246, 3) := by decide +kernel
theorem dX10_fight_68 : decode cX10_fight 68 = .ok (.istore 5, 2) := by decide +kernel
theorem dX10_fight_70 : decode cX10_fight 70 = .ok (.iload 4, 2) := by decide +kernel
theorem dX10_fight_72 : decode cX10_fight 72 = .ok (.ifCond .ne 12, 3) := by decide +kernel
theorem dX10_fight_75 : decode cX10_fight 75 = .ok (.iload_n 3, 1) := by decide +kernel
theorem dX10_fight_76 : decode cX10_fight 76 = .ok (.iload 5, 2) := by decide +kernel
theorem dX10_fight_78 : decode cX10_fight 78 = .ok (.iadd, 1) := by decide +kernel
theorem dX10_fight_79 : decode cX10_fight 79 = .ok (.iconst 1, 1) := by decide +kernel
theorem dX10_fight_80 : decode cX10_fight 80 = .ok (.iand, 1) := by decide +kernel
theorem dX10_fight_81 : decode cX10_fight 81 = .ok (.goto 5, 3) := by decide +kernel
theorem dX10_fight_84 : decode cX10_fight 84 = .ok (.iload 5, 2) := by decide +kernel
theorem dX10_fight_86 : decode cX10_fight 86 = .ok (.ireturn, 1) := by decide +kernel
theorem dX10_flower_0 : decode cX10_flower 0 = .ok (.iload_n 1, 1) := by decide +kernel
theorem dX10_flower_1 : decode cX10_flower 1 = .ok (.invokestatic 103, 3) := by decide +kernel
theorem dX10_flower_4 : decode cX10_flower 4 = .ok (.ifCond .eq 31, 3) := by decide +kernel
theorem dX10_flower_7 : decode cX10_flower 7 = .ok (.iload_n 2, 1) := by decide +kernel
theorem dX10_flower_8 : decode cX10_flower 8 = .ok (.iconst 1, 1) := by decide +kernel
theorem dX10_flower_9 : decode cX10_flower 9 = .ok (.iconst 4, 1) := by decide +kernel
theorem dX10_flower_10 : decode cX10_flower 10 = .ok (.invokestatic 159, 3) := by decide +kernel
theorem dX10_flower_13 : decode cX10_flower 13 = .ok (.ifCond .eq 22, 3) := by decide +kernel
theorem dX10_flower_16 : decode cX10_flower 16 = .ok (.iload_n 3, 1) := by decide +kernel
theorem dX10_flower_17 : decode cX10_flower 17 = .ok (.iconst 0, 1) := by decide +kernel
theorem dX10_flower_18 : decode cX10_flower 18 = .ok (.iconst 3, 1) := by decide +kernel
theorem dX10_flower_19 : decode cX10_flower 19 = .ok (.invokestatic 159, 3) := by decide +kernel
theorem dX10_flower_22 : decode cX10_flower 22 = .ok (.ifCond .eq 13, 3) := by decide +kernel
theorem dX10_flower_25 : decode cX10_flower 25 = .ok (.iload 4, 2) := by decide +kernel
theorem dX10_flower_27 : decode cX10_flower 27 = .ok (.iconst 0, 1) := by decide +kernel
theorem dX10_flower_28 : decode cX10_flower 28 = .ok (.iconst 3, 1) := by decide +kernel
theorem dX10_flower_29 : decode cX10_flower 29 = .ok (.invokestatic 159, 3) := by decide +kernel
theorem dX10_flower_32 : decode cX10_flower 32 = .ok (.ifCond .ne 10, 3) := by decide +kernel
theorem dX10_flower_35 : decode cX10_flower 35 = .ok (.aload_n 0, 1) := by decide +kernel
theorem dX10_flower_36 : decode cX10_flower 36 = .ok (.ldc 107, 2) := by decide +kernel
theorem dX10_flower_38 : decode cX10_flower 38 = .ok (.invokevirtual 108, 3) := by decide +kernel
theorem dX10_flower_41 : decode cX10_flower 41 = .ok (.ireturn, 1) := by decide +kernel
theorem dX10_flower_42 : decode cX10_flower 42 = .ok (.aload_n 0, 1) := by decide +kernel
theorem dX10_flower_43 : decode cX10_flower 43 = .ok (.iload_n 1, 1) := by decide +kernel
theorem dX10_flower_44 : decode cX10_flower 44 = .ok (.aload_n 0, 1) := by decide +kernel
theorem dX10_flower_45 : decode cX10_flower 45 = .ok (.getfield 30, 3) := by decide +kernel
theorem dX10_flower_48 : decode cX10_flower 48 = .ok (.iload_n 2, 1) := by decide +kernel
theorem dX10_flower_49 : decode cX10_flower 49 = .ok (.iload_n 3, 1) := by decide +kernel
theorem dX10_flower_50 : decode cX10_flower 50 = .ok (.iload 4, 2) := by decide +kernel
theorem dX10_flower_52 : decode cX10_flower 52 = .ok (.invokevirtual 177, 3) := by decide +kernel
theorem dX10_flower_55 : decode cX10_flower 55 = .ok (.invokevirtual 166, 3) := by decide +kernel
theorem dX10_flower_58 : decode cX10_flower 58 = .ok (.ireturn, 1) := by decide +kernel
theorem dX10_game_0 : decode cX10_game 0 = .ok (.iload_n 1, 1) := by decide +kernel
theorem dX10_game_1 : decode cX10_game 1 = .ok (.invokestatic 103, 3) := by decide +kernel
theorem dX10_game_4 : decode cX10_game 4 = .ok (.ifCond .ne 10, 3) := by decide +kernel
theorem dX10_game_7 : decode cX10_game 7 = .ok (.aload_n 0, 1) := by decide +kernel
theorem dX10_game_8 : decode cX10_game 8 = .ok (.ldc 107, 2) := by decide +kernel
theorem dX10_game_10 : decode cX10_game 10 = .ok (.invokevirtual 108, 3) := by decide +kernel
theorem dX10_game_13 : decode cX10_game 13 = .ok (.ireturn, 1) := by decide +kernel
theorem dX10_game_14 : decode cX10_game 14 = .ok (.aload_n 0, 1) := by decide +kernel
theorem dX10_game_15 : decode cX10_game 15 = .ok (.getfield 72, 3) := by decide +kernel
theorem dX10_game_18 : decode cX10_game 18 = .ok (.invokevirtual 280, 3) := by decide +kernel
theorem dX10_game_21 : decode cX10_game 21 = .ok (.istore_n 2, 1) := by decide +kernel
theorem dX10_game_22 : decode cX10_game 22 = .ok (.aload_n 0, 1) := by decide +kernel
theorem dX10_game_23 : decode cX10_game 23 = .ok (.getfield 72, 3) := by decide +kernel
theorem dX10_game_26 : decode cX10_game 26 = .ok (.invokevirtual 283, 3) := by decide +kernel
theorem dX10_game_29 : decode cX10_game 29 = .ok (.iload_n 2, 1) := by decide +kernel
theorem dX10_game_30 : decode cX10_game 30 = .ok (.ifCond .lt 8, 3) := by decide +kernel
theorem dX10_game_33 : decode cX10_game 33 = .ok (.bipush (-10), 2) := by decide +kernel
theorem dX10_game_35 : decode cX10_game 35 = .ok (.iload_n 2, 1) := by decide +kernel
theorem dX10_game_36 : decode cX10_game 36 = .ok (.isub, 1) := by decide +kernel
theorem dX10_game_37 : decode cX10_game 37 = .ok (.ireturn, 1) := by decide +kernel
theorem dX10_game_38 : decode cX10_game 38 = .ok (.aload_n 0, 1) := by decide +kernel
theorem dX10_game_39 : decode cX10_game 39 = .ok (.iload_n 1, 1) := by decide +kernel
theorem dX10_game_40 : decode cX10_game 40 = .ok (.aload_n 0, 1) := by decide +kernel
theorem dX10_game_41 : decode cX10_game 41 = .ok (.getfield 72, 3) := by decide +kernel
theorem dX10_game_44 : decode cX10_game 44 = .ok (.invokevirtual 286, 3) := by decide +kernel
theorem dX10_game_47 : decode cX10_game 47 = .ok (.invokevirtual 166, 3) := by decide +kernel
theorem dX10_game_50 : decode cX10_game 50 = .ok (.ireturn, 1) := by decide +kernel
theorem dX10_garden_0 : decode cX10_garden 0 = .ok (.iload_n 1, 1) := by decide +kernel
theorem dX10_garden_1 : decode cX10_garden 1 = .ok (.invokestatic 181, 3) := by decide +kernel
theorem dX10_garden_4 : decode cX10_garden 4 = .ok (.ifCond .ne 10, 3) := by decide +kernel
theorem dX10_garden_7 : decode cX10_garden 7 = .ok (.aload_n 0, 1) := by decide +kernel
theorem dX10_garden_8 : decode cX10_garden 8 = .ok (.ldc 107, 2) := by decide +kernel
theorem dX10_garden_10 : decode cX10_garden 10 = .ok (.invokevirtual 108, 3) := by decide +kernel
theorem dX10_garden_13 : decode cX10_garden 13 = .ok (.ireturn, 1) := by decide +kernel
theorem dX10_garden_14 : decode cX10_garden 14 = .ok (.iconst 0, 1) := by decide +kernel
theorem dX10_garden_15 : decode cX10_garden 15 = .ok (.istore_n 2, 1) := by decide +kernel
theorem dX10_garden_16 : decode cX10_garden 16 = .ok (.iload_n 2, 1) := by decide +kernel
theorem dX10_garden_17 : decode cX10_garden 17 = .ok (.bipush 8, 2) := by decide +kernel
theorem dX10_garden_19 : decode cX10_garden 19 = .ok (.if_icmp .ge 38, 3) := by decide +kernel
theorem dX10_garden_22 : decode cX10_garden 22 = .ok (.iload_n 1, 1) := by decide +kernel
theorem dX10_garden_23 : decode cX10_garden 23 = .ok (.iload_n 2, 1) := by decide +kernel
theorem dX10_garden_24 : decode cX10_garden 24 = .ok (.invokestatic 234, 3) := by decide +kernel
theorem dX10_garden_27 : decode cX10_garden 27 = .ok (.ifCond .eq 24, 3) := by decide +kernel
theorem dX10_garden_30 : decode cX10_garden 30 = .ok (.aload_n 0, 1) := by decide +kernel
theorem dX10_garden_31 : decode cX10_garden 31 = .ok (.getfield 84, 3) := by decide +kernel
theorem dX10_garden_34 : decode cX10_garden 34 = .ok (.iload_n 2, 1) := by decide +kernel
theorem dX10_garden_35 : decode cX10_garden 35 = .ok (.invokevirtual 112, 3) := by decide +kernel
theorem dX10_garden_38 : decode cX10_garden 38 = .ok (.invokevirtual 141, 3) := by decide +kernel
theorem dX10_garden_41 : decode cX10_garden 41 = .ok (.ifCond .ne 10, 3) := by decide +kernel
theorem dX10_garden_44 : decode cX10_garden 44 = .ok (.aload_n 0, 1) := by decide +kernel
theorem dX10_garden_45 : decode cX10_garden 45 = .ok (.ldc 220, 2) := by decide +kernel
theorem dX10_garden_47 : decode cX10_garden 47 = .ok (.invokevirtual 108, 3) := by decide +kernel
theorem dX10_garden_50 : decode cX10_garden 50 = .ok (.ireturn, 1) := by decide +kernel
theorem dX10_garden_51 : decode cX10_garden 51 = .ok (.iinc 2 1, 3) := by decide +kernel
theorem dX10_garden_54 : decode cX10_garden 54 = .ok (.goto (-38), 3) := by decide +kernel
theorem dX10_garden_57 : decode cX10_garden 57 = .ok (.iconst 0, 1) := by decide +kernel
theorem dX10_garden_58 : decode cX10_garden 58 = .ok (.istore_n 2, 1) := by decide +kernel
theorem dX10_garden_59 : decode cX10_garden 59 = .ok (.iconst 0, 1) := by decide +kernel
theorem dX10_garden_60 : decode cX10_garden 60 = .ok (.istore_n 3, 1) := by decide +kernel
theorem dX10_garden_61 : decode cX10_garden 61 = .ok (.iload_n 3, 1) := by decide +kernel
theorem dX10_garden_62 : decode cX10_garden 62 = .ok (.bipush 8, 2) := by decide +kernel
theorem dX10_garden_64 : decode cX10_garden 64 = .ok (.if_icmp .ge 65, 3) := by decide +kernel
theorem dX10_garden_67 : decode cX10_garden 67 = .ok (.iload_n 1, 1) := by decide +kernel
theorem dX10_garden_68 : decode cX10_garden 68 = .ok (.iload_n 3, 1) := by decide +kernel
theorem dX10_garden_69 : decode cX10_garden 69 = .ok (.invokestatic 234, 3) := by decide +kernel
theorem dX10_garden_72 : decode cX10_garden 72 = .ok (.ifCond .eq 51, 3) := by decide +kernel
theorem dX10_garden_75 : decode cX10_garden 75 = .ok (.aload_n 0, 1) := by decide +kernel
theorem dX10_garden_76 : decode cX10_garden 76 = .ok (.getfield 56, 3) := by decide +kernel
theorem dX10_garden_79 : decode cX10_garden 79 = .ok (.aload_n 0, 1) := by decide +kernel
theorem dX10_garden_80 : decode cX10_garden 80 = .ok (.getfield 84, 3) := by decide +kernel
theorem dX10_garden_83 : decode cX10_garden 83 = .ok (.iload_n 3, 1) := by decide +kernel
theorem dX10_garden_84 : decode cX10_garden 84 = .ok (.invokevirtual 112, 3) := by decide +kernel
theorem dX10_garden_87 : decode cX10_garden 87 = .ok (.invokevirtual 221, 3) := by decide +kernel
theorem dX10_garden_90 : decode cX10_garden 90 = .ok (.istore 4, 2) := by decide +kernel
theorem dX10_garden_92 : decode cX10_garden 92 = .ok (.aload_n 0, 1) := by decide +kernel
theorem dX10_garden_93 : decode cX10_garden 93 = .ok (.getfield 12, 3) := by decide +kernel
theorem dX10_garden_96 : decode cX10_garden 96 = .ok (.iload 4, 2) := by decide +kernel
theorem dX10_garden_98 : decode cX10_garden 98 = .ok (.invokevirtual 228, 3) := by decide +kernel
theorem dX10_garden_101 : decode cX10_garden 101 = .ok (.ifCond .ne 10, 3) := by decide +kernel
theorem dX10_garden_104 : decode cX10_garden 104 = .ok (.aload_n 0, 1) := by decide +kernel
theorem dX10_garden_105 : decode cX10_garden 105 = .ok (.ldc 158, 2) := by decide +kernel
theorem dX10_garden_107 : decode cX10_garden 107 = .ok (.invokevirtual 108, 3) := by decide +kernel
theorem dX10_garden_110 : decode cX10_garden 110 = .ok (.ireturn, 1) := by decide +kernel
theorem dX10_garden_111 : decode cX10_garden 111 = .ok (.iload_n 2, 1) := by decide +kernel
theorem dX10_garden_112 : decode cX10_garden 112 = .ok (.aload_n 0, 1) := by decide +kernel
theorem dX10_garden_113 : decode cX10_garden 113 = .ok (.getfield 12, 3) := by decide +kernel
theorem dX10_garden_116 : decode cX10_garden 116 = .ok (.iload 4, 2) := by decide +kernel
theorem dX10_garden_118 : decode cX10_garden 118 = .ok (.invokevirtual 231, 3) := by decide +kernel
theorem dX10_garden_121 : decode cX10_garden 121 = .ok (.iadd, 1) := by decide +kernel
theorem dX10_garden_122 : decode cX10_garden 122 = .ok (.istore_n 2, 1) := by decide +kernel
theorem dX10_garden_123 : decode cX10_garden 123 = .ok (.iinc 3 1, 3) := by decide +kernel
theorem dX10_garden_126 : decode cX10_garden 126 = .ok (.goto (-65), 3) := by decide +kernel
theorem dX10_garden_129 : decode cX10_garden 129 = .ok (.iload_n 2, 1) := by decide +kernel
theorem dX10_garden_130 : decode cX10_garden 130 = .ok (.ireturn, 1) := by decide +kernel
theorem dX10_heap_0 : decode cX10_heap 0 = .ok (.iload_n 1, 1) := by decide +kernel
theorem dX10_heap_1 : decode cX10_heap 1 = .ok (.invokestatic 103, 3) := by decide +kernel
theorem dX10_heap_4 : decode cX10_heap 4 = .ok (.ifCond .eq 13, 3) := by decide +kernel
theorem dX10_heap_7 : decode cX10_heap 7 = .ok (.iload_n 2, 1) := by decide +kernel
theorem dX10_heap_8 : decode cX10_heap 8 = .ok (.iconst 0, 1) := by decide +kernel
theorem dX10_heap_9 : decode cX10_heap 9 = .ok (.bipush 9, 2) := by decide +kernel
theorem dX10_heap_11 : decode cX10_heap 11 = .ok (.invokestatic 159, 3) := by decide +kernel
theorem dX10_heap_14 : decode cX10_heap 14 = .ok (.ifCond .ne 10, 3) := by decide +kernel
theorem dX10_heap_17 : decode cX10_heap 17 = .ok (.aload_n 0, 1) := by decide +kernel
theorem dX10_heap_18 : decode cX10_heap 18 = .ok (.ldc 107, 2) := by decide +kernel
theorem dX10_heap_20 : decode cX10_heap 20 = .ok (.invokevirtual 108, 3) := by decide +kernel
theorem dX10_heap_23 : decode cX10_heap 23 = .ok (.ireturn, 1) := by decide +kernel
theorem dX10_heap_24 : decode cX10_heap 24 = .ok (.aload_n 0, 1) := by decide +kernel
theorem dX10_heap_25 : decode cX10_heap 25 = .ok (.iload_n 1, 1) := by decide +kernel
theorem dX10_heap_26 : decode cX10_heap 26 = .ok (.aload_n 0, 1) := by decide +kernel
theorem dX10_heap_27 : decode cX10_heap 27 = .ok (.getfield 30, 3) := by decide +kernel
theorem dX10_heap_30 : decode cX10_heap 30 = .ok (.iload_n 2, 1) := by decide +kernel
theorem dX10_heap_31 : decode cX10_heap 31 = .ok (.invokevirtual 170, 3) := by decide +kernel
theorem dX10_heap_34 : decode cX10_heap 34 = .ok (.invokevirtual 166, 3) := by decide +kernel
theorem dX10_heap_37 : decode cX10_heap 37 = .ok (.ireturn, 1) := by decide +kernel
theorem dX10_isBit_0 : decode cX10_isBit 0 = .ok (.iload_n 0, 1) := by decide +kernel
theorem dX10_isBit_1 : decode cX10_isBit 1 = .ok (.ifCond .eq 8, 3) := by decide +kernel
theorem dX10_isBit_4 : decode cX10_isBit 4 = .ok (.iload_n 0, 1) := by decide +kernel
theorem dX10_isBit_5 : decode cX10_isBit 5 = .ok (.iconst 1, 1) := by decide +kernel
theorem dX10_isBit_6 : decode cX10_isBit 6 = .ok (.if_icmp .ne 7, 3) := by decide +kernel
theorem dX10_isBit_9 : decode cX10_isBit 9 = .ok (.iconst 1, 1) := by decide +kernel
theorem dX10_isBit_10 : decode cX10_isBit 10 = .ok (.goto 4, 3) := by decide +kernel
theorem dX10_isBit_13 : decode cX10_isBit 13 = .ok (.iconst 0, 1) := by decide +kernel
theorem dX10_isBit_14 : decode cX10_isBit 14 = .ok (.ireturn, 1) := by decide +kernel
theorem dX10_isIn_0 : decode cX10_isIn 0 = .ok (.iload_n 0, 1) := by decide +kernel
theorem dX10_isIn_1 : decode cX10_isIn 1 = .ok (.iload_n 1, 1) := by decide +kernel
theorem dX10_isIn_2 : decode cX10_isIn 2 = .ok (.ishr, 1) := by decide +kernel
theorem dX10_isIn_3 : decode cX10_isIn 3 = .ok (.iconst 1, 1) := by decide +kernel
theorem dX10_isIn_4 : decode cX10_isIn 4 = .ok (.iand, 1) := by decide +kernel
theorem dX10_isIn_5 : decode cX10_isIn 5 = .ok (.ifCond .eq 7, 3) := by decide +kernel
theorem dX10_isIn_8 : decode cX10_isIn 8 = .ok (.iconst 1, 1) := by decide +kernel
theorem dX10_isIn_9 : decode cX10_isIn 9 = .ok (.goto 4, 3) := by decide +kernel
theorem dX10_isIn_12 : decode cX10_isIn 12 = .ok (.iconst 0, 1) := by decide +kernel
theorem dX10_isIn_13 : decode cX10_isIn 13 = .ok (.ireturn, 1) := by decide +kernel
theorem dX10_isSet_0 : decode cX10_isSet 0 = .ok (.iload_n 0, 1) := by decide +kernel
theorem dX10_isSet_1 : decode cX10_isSet 1 = .ok (.iconst 0, 1) := by decide +kernel
theorem dX10_isSet_2 : decode cX10_isSet 2 = .ok (.sipush 255, 3) := by decide +kernel
theorem dX10_isSet_5 : decode cX10_isSet 5 = .ok (.invokestatic 159, 3) := by decide +kernel
theorem dX10_isSet_8 : decode cX10_isSet 8 = .ok (.ireturn, 1) := by decide +kernel
theorem dX10_isSlot_0 : decode cX10_isSlot 0 = .ok (.iload_n 0, 1) := by decide +kernel
theorem dX10_isSlot_1 : decode cX10_isSlot 1 = .ok (.iconst 0, 1) := by decide +kernel
theorem dX10_isSlot_2 : decode cX10_isSlot 2 = .ok (.bipush 7, 2) := by decide +kernel
theorem dX10_isSlot_4 : decode cX10_isSlot 4 = .ok (.invokestatic 159, 3) := by decide +kernel
theorem dX10_isSlot_7 : decode cX10_isSlot 7 = .ok (.ireturn, 1) := by decide +kernel
theorem dX10_isWithin_0 : decode cX10_isWithin 0 = .ok (.iload_n 0, 1) := by decide +kernel
theorem dX10_isWithin_1 : decode cX10_isWithin 1 = .ok (.iload_n 1, 1) := by decide +kernel
theorem dX10_isWithin_2 : decode cX10_isWithin 2 = .ok (.if_icmp .lt 12, 3) := by decide +kernel
theorem dX10_isWithin_5 : decode cX10_isWithin 5 = .ok (.iload_n 0, 1) := by decide +kernel
theorem dX10_isWithin_6 : decode cX10_isWithin 6 = .ok (.iload_n 2, 1) := by decide +kernel
theorem dX10_isWithin_7 : decode cX10_isWithin 7 = .ok (.if_icmp .gt 7, 3) := by decide +kernel
theorem dX10_isWithin_10 : decode cX10_isWithin 10 = .ok (.iconst 1, 1) := by decide +kernel
theorem dX10_isWithin_11 : decode cX10_isWithin 11 = .ok (.goto 4, 3) := by decide +kernel
theorem dX10_isWithin_14 : decode cX10_isWithin 14 = .ok (.iconst 0, 1) := by decide +kernel
theorem dX10_isWithin_15 : decode cX10_isWithin 15 = .ok (.ireturn, 1) := by decide +kernel
theorem dX10_made_0 : decode cX10_made 0 = .ok (.iload_n 1, 1) := by decide +kernel
theorem dX10_made_1 : decode cX10_made 1 = .ok (.invokestatic 103, 3) := by decide +kernel
theorem dX10_made_4 : decode cX10_made 4 = .ok (.ifCond .eq 17, 3) := by decide +kernel
theorem dX10_made_7 : decode cX10_made 7 = .ok (.iload_n 2, 1) := by decide +kernel
theorem dX10_made_8 : decode cX10_made 8 = .ok (.invokestatic 181, 3) := by decide +kernel
theorem dX10_made_11 : decode cX10_made 11 = .ok (.ifCond .eq 10, 3) := by decide +kernel
theorem dX10_made_14 : decode cX10_made 14 = .ok (.iload_n 3, 1) := by decide +kernel
theorem dX10_made_15 : decode cX10_made 15 = .ok (.invokestatic 181, 3) := by decide +kernel
theorem dX10_made_18 : decode cX10_made 18 = .ok (.ifCond .ne 10, 3) := by decide +kernel
theorem dX10_made_21 : decode cX10_made 21 = .ok (.aload_n 0, 1) := by decide +kernel
theorem dX10_made_22 : decode cX10_made 22 = .ok (.ldc 107, 2) := by decide +kernel
theorem dX10_made_24 : decode cX10_made 24 = .ok (.invokevirtual 108, 3) := by decide +kernel
theorem dX10_made_27 : decode cX10_made 27 = .ok (.ireturn, 1) := by decide +kernel
theorem dX10_made_28 : decode cX10_made 28 = .ok (.aload_n 0, 1) := by decide +kernel
theorem dX10_made_29 : decode cX10_made 29 = .ok (.iload_n 2, 1) := by decide +kernel
theorem dX10_made_30 : decode cX10_made 30 = .ok (.iconst 0, 1) := by decide +kernel
theorem dX10_made_31 : decode cX10_made 31 = .ok (.invokevirtual 184, 3) := by decide +kernel
theorem dX10_made_34 : decode cX10_made 34 = .ok (.istore 4, 2) := by decide +kernel
theorem dX10_made_36 : decode cX10_made 36 = .ok (.aload_n 0, 1) := by decide +kernel
theorem dX10_made_37 : decode cX10_made 37 = .ok (.iload_n 3, 1) := by decide +kernel
theorem dX10_made_38 : decode cX10_made 38 = .ok (.iload 4, 2) := by decide +kernel
theorem dX10_made_40 : decode cX10_made 40 = .ok (.invokevirtual 184, 3) := by decide +kernel
theorem dX10_made_43 : decode cX10_made 43 = .ok (.istore 5, 2) := by decide +kernel
theorem dX10_made_45 : decode cX10_made 45 = .ok (.aload_n 0, 1) := by decide +kernel
theorem dX10_made_46 : decode cX10_made 46 = .ok (.iload_n 1, 1) := by decide +kernel
theorem dX10_made_47 : decode cX10_made 47 = .ok (.aload_n 0, 1) := by decide +kernel
theorem dX10_made_48 : decode cX10_made 48 = .ok (.getfield 30, 3) := by decide +kernel
theorem dX10_made_51 : decode cX10_made 51 = .ok (.aload_n 0, 1) := by decide +kernel
theorem dX10_made_52 : decode cX10_made 52 = .ok (.getfield 95, 3) := by decide +kernel
theorem dX10_made_55 : decode cX10_made 55 = .ok (.iconst 0, 1) := by decide +kernel
theorem dX10_made_56 : decode cX10_made 56 = .ok (.iload 4, 2) := by decide +kernel
theorem dX10_made_58 : decode cX10_made 58 = .ok (.iload 5, 2) := by decide +kernel
theorem dX10_made_60 : decode cX10_made 60 = .ok (.invokevirtual 187, 3) := by decide +kernel
theorem dX10_made_63 : decode cX10_made 63 = .ok (.invokevirtual 166, 3) := by decide +kernel
theorem dX10_made_66 : decode cX10_made 66 = .ok (.ireturn, 1) := by decide +kernel
theorem dX10_minus_0 : decode cX10_minus 0 = .ok (.iload_n 1, 1) := by decide +kernel
theorem dX10_minus_1 : decode cX10_minus 1 = .ok (.invokestatic 103, 3) := by decide +kernel
theorem dX10_minus_4 : decode cX10_minus 4 = .ok (.ifCond .eq 10, 3) := by decide +kernel
theorem dX10_minus_7 : decode cX10_minus 7 = .ok (.iload_n 2, 1) := by decide +kernel
theorem dX10_minus_8 : decode cX10_minus 8 = .ok (.invokestatic 103, 3) := by decide +kernel
theorem dX10_minus_11 : decode cX10_minus 11 = .ok (.ifCond .ne 10, 3) := by decide +kernel
theorem dX10_minus_14 : decode cX10_minus 14 = .ok (.aload_n 0, 1) := by decide +kernel
theorem dX10_minus_15 : decode cX10_minus 15 = .ok (.ldc 107, 2) := by decide +kernel
theorem dX10_minus_17 : decode cX10_minus 17 = .ok (.invokevirtual 108, 3) := by decide +kernel
theorem dX10_minus_20 : decode cX10_minus 20 = .ok (.ireturn, 1) := by decide +kernel
theorem dX10_minus_21 : decode cX10_minus 21 = .ok (.aload_n 0, 1) := by decide +kernel
theorem dX10_minus_22 : decode cX10_minus 22 = .ok (.iload_n 1, 1) := by decide +kernel
theorem dX10_minus_23 : decode cX10_minus 23 = .ok (.aload_n 0, 1) := by decide +kernel
theorem dX10_minus_24 : decode cX10_minus 24 = .ok (.getfield 30, 3) := by decide +kernel
theorem dX10_minus_27 : decode cX10_minus 27 = .ok (.aload_n 0, 1) := by decide +kernel
theorem dX10_minus_28 : decode cX10_minus 28 = .ok (.getfield 84, 3) := by decide +kernel
theorem dX10_minus_31 : decode cX10_minus 31 = .ok (.iload_n 2, 1) := by decide +kernel
theorem dX10_minus_32 : decode cX10_minus 32 = .ok (.invokevirtual 112, 3) := by decide +kernel
theorem dX10_minus_35 : decode cX10_minus 35 = .ok (.invokevirtual 195, 3) := by decide +kernel
theorem dX10_minus_38 : decode cX10_minus 38 = .ok (.invokevirtual 166, 3) := by decide +kernel
theorem dX10_minus_41 : decode cX10_minus 41 = .ok (.ireturn, 1) := by decide +kernel
theorem dX10_option_0 : decode cX10_option 0 = .ok (.iload_n 1, 1) := by decide +kernel
theorem dX10_option_1 : decode cX10_option 1 = .ok (.invokestatic 103, 3) := by decide +kernel
theorem dX10_option_4 : decode cX10_option 4 = .ok (.ifCond .eq 17, 3) := by decide +kernel
theorem dX10_option_7 : decode cX10_option 7 = .ok (.iload_n 2, 1) := by decide +kernel
theorem dX10_option_8 : decode cX10_option 8 = .ok (.invokestatic 103, 3) := by decide +kernel
theorem dX10_option_11 : decode cX10_option 11 = .ok (.ifCond .eq 10, 3) := by decide +kernel
theorem dX10_option_14 : decode cX10_option 14 = .ok (.iload_n 3, 1) := by decide +kernel
theorem dX10_option_15 : decode cX10_option 15 = .ok (.invokestatic 199, 3) := by decide +kernel
theorem dX10_option_18 : decode cX10_option 18 = .ok (.ifCond .ne 10, 3) := by decide +kernel
theorem dX10_option_21 : decode cX10_option 21 = .ok (.aload_n 0, 1) := by decide +kernel
theorem dX10_option_22 : decode cX10_option 22 = .ok (.ldc 107, 2) := by decide +kernel
theorem dX10_option_24 : decode cX10_option 24 = .ok (.invokevirtual 108, 3) := by decide +kernel
theorem dX10_option_27 : decode cX10_option 27 = .ok (.ireturn, 1) := by decide +kernel
theorem dX10_option_28 : decode cX10_option 28 = .ok (.aload_n 0, 1) := by decide +kernel
theorem dX10_option_29 : decode cX10_option 29 = .ok (.getfield 84, 3) := by decide +kernel
theorem dX10_option_32 : decode cX10_option 32 = .ok (.iload_n 2, 1) := by decide +kernel
theorem dX10_option_33 : decode cX10_option 33 = .ok (.invokevirtual 112, 3) := by decide +kernel
theorem dX10_option_36 : decode cX10_option 36 = .ok (.astore 5, 2) := by decide +kernel
theorem dX10_option_38 : decode cX10_option 38 = .ok (.aload 5, 2) := by decide +kernel
theorem dX10_option_40 : decode cX10_option 40 = .ok (.aload 5, 2) := by decide +kernel
theorem dX10_option_42 : decode cX10_option 42 = .ok (.invokevirtual 124, 3) := by decide +kernel
theorem dX10_option_45 : decode cX10_option 45 = .ok (.iload_n 3, 1) := by decide +kernel
theorem dX10_option_46 : decode cX10_option 46 = .ok (.iload 4, 2) := by decide +kernel
theorem dX10_option_48 : decode cX10_option 48 = .ok (.invokevirtual 202, 3) := by decide +kernel
theorem dX10_option_51 : decode cX10_option 51 = .ok (.istore 6, 2) := by decide +kernel
theorem dX10_option_53 : decode cX10_option 53 = .ok (.iload 6, 2) := by decide +kernel
theorem dX10_option_55 : decode cX10_option 55 = .ok (.ifCond .ge 10, 3) := by decide +kernel
theorem dX10_option_58 : decode cX10_option 58 = .ok (.aload_n 0, 1) := by decide +kernel
theorem dX10_option_59 : decode cX10_option 59 = .ok (.ldc 158, 2) := by decide +kernel
theorem dX10_option_61 : decode cX10_option 61 = .ok (.invokevirtual 108, 3) := by decide +kernel
theorem dX10_option_64 : decode cX10_option 64 = .ok (.ireturn, 1) := by decide +kernel
theorem dX10_option_65 : decode cX10_option 65 = .ok (.aload_n 0, 1) := by decide +kernel
theorem dX10_option_66 : decode cX10_option 66 = .ok (.iload_n 1, 1) := by decide +kernel
theorem dX10_option_67 : decode cX10_option 67 = .ok (.aload_n 0, 1) := by decide +kernel
theorem dX10_option_68 : decode cX10_option 68 = .ok (.getfield 30, 3) := by decide +kernel
theorem dX10_option_71 : decode cX10_option 71 = .ok (.aload 5, 2) := by decide +kernel
theorem dX10_option_73 : decode cX10_option 73 = .ok (.iload 6, 2) := by decide +kernel
theorem dX10_option_75 : decode cX10_option 75 = .ok (.invokevirtual 206, 3) := by decide +kernel
theorem dX10_option_78 : decode cX10_option 78 = .ok (.invokevirtual 166, 3) := by decide +kernel
theorem dX10_option_81 : decode cX10_option 81 = .ok (.ireturn, 1) := by decide +kernel
theorem dX10_order_0 : decode cX10_order 0 = .ok (.iload_n 1, 1) := by decide +kernel
theorem dX10_order_1 : decode cX10_order 1 = .ok (.invokestatic 103, 3) := by decide +kernel
theorem dX10_order_4 : decode cX10_order 4 = .ok (.ifCond .eq 10, 3) := by decide +kernel
theorem dX10_order_7 : decode cX10_order 7 = .ok (.iload_n 2, 1) := by decide +kernel
theorem dX10_order_8 : decode cX10_order 8 = .ok (.invokestatic 103, 3) := by decide +kernel
theorem dX10_order_11 : decode cX10_order 11 = .ok (.ifCond .ne 10, 3) := by decide +kernel
theorem dX10_order_14 : decode cX10_order 14 = .ok (.aload_n 0, 1) := by decide +kernel
theorem dX10_order_15 : decode cX10_order 15 = .ok (.ldc 107, 2) := by decide +kernel
theorem dX10_order_17 : decode cX10_order 17 = .ok (.invokevirtual 108, 3) := by decide +kernel
theorem dX10_order_20 : decode cX10_order 20 = .ok (.ireturn, 1) := by decide +kernel
theorem dX10_order_21 : decode cX10_order 21 = .ok (.aload_n 0, 1) := by decide +kernel
theorem dX10_order_22 : decode cX10_order 22 = .ok (.getfield 84, 3) := by decide +kernel
theorem dX10_order_25 : decode cX10_order 25 = .ok (.iload_n 1, 1) := by decide +kernel
theorem dX10_order_26 : decode cX10_order 26 = .ok (.invokevirtual 112, 3) := by decide +kernel
theorem dX10_order_29 : decode cX10_order 29 = .ok (.astore_n 3, 1) := by decide +kernel
theorem dX10_order_30 : decode cX10_order 30 = .ok (.aload_n 0, 1) := by decide +kernel
theorem dX10_order_31 : decode cX10_order 31 = .ok (.getfield 84, 3) := by decide +kernel
theorem dX10_order_34 : decode cX10_order 34 = .ok (.iload_n 2, 1) := by decide +kernel
theorem dX10_order_35 : decode cX10_order 35 = .ok (.invokevirtual 112, 3) := by decide +kernel
theorem dX10_order_38 : decode cX10_order 38 = .ok (.astore 4, 2) := by decide +kernel
theorem dX10_order_40 : decode cX10_order 40 = .ok (.aload_n 0, 1) := by decide +kernel
theorem dX10_order_41 : decode cX10_order 41 = .ok (.getfield 47, 3) := by decide +kernel
theorem dX10_order_44 : decode cX10_order 44 = .ok (.aload_n 3, 1) := by decide +kernel
theorem dX10_order_45 : decode cX10_order 45 = .ok (.aload 4, 2) := by decide +kernel
theorem dX10_order_47 : decode cX10_order 47 = .ok (.iconst 1, 1) := by decide +kernel
theorem dX10_order_48 : decode cX10_order 48 = .ok (.invokevirtual 213, 3) := by decide +kernel
theorem dX10_order_51 : decode cX10_order 51 = .ok (.aload_n 0, 1) := by decide +kernel
theorem dX10_order_52 : decode cX10_order 52 = .ok (.getfield 47, 3) := by decide +kernel
theorem dX10_order_55 : decode cX10_order 55 = .ok (.aload_n 3, 1) := by decide +kernel
theorem dX10_order_56 : decode cX10_order 56 = .ok (.invokevirtual 124, 3) := by decide +kernel
theorem dX10_order_59 : decode cX10_order 59 = .ok (.aload 4, 2) := by decide +kernel
theorem dX10_order_61 : decode cX10_order 61 = .ok (.invokevirtual 124, 3) := by decide +kernel
theorem dX10_order_64 : decode cX10_order 64 = .ok (.invokevirtual 217, 3) := by decide +kernel
theorem dX10_order_67 : decode cX10_order 67 = .ok (.ireturn, 1) := by decide +kernel
theorem dX10_outcome_0 : decode cX10_outcome 0 = .ok (.iload_n 1, 1) := by decide +kernel
theorem dX10_outcome_1 : decode cX10_outcome 1 = .ok (.invokestatic 103, 3) := by decide +kernel
theorem dX10_outcome_4 : decode cX10_outcome 4 = .ok (.ifCond .eq 10, 3) := by decide +kernel
theorem dX10_outcome_7 : decode cX10_outcome 7 = .ok (.iload_n 2, 1) := by decide +kernel
theorem dX10_outcome_8 : decode cX10_outcome 8 = .ok (.invokestatic 103, 3) := by decide +kernel
theorem dX10_outcome_11 : decode cX10_outcome 11 = .ok (.ifCond .ne 10, 3) := by decide +kernel
theorem dX10_outcome_14 : decode cX10_outcome 14 = .ok (.aload_n 0, 1) := by decide +kernel
theorem dX10_outcome_15 : decode cX10_outcome 15 = .ok (.ldc 107, 2) := by decide +kernel
theorem dX10_outcome_17 : decode cX10_outcome 17 = .ok (.invokevirtual 108, 3) := by decide +kernel
theorem dX10_outcome_20 : decode cX10_outcome 20 = .ok (.ireturn, 1) := by decide +kernel
theorem dX10_outcome_21 : decode cX10_outcome 21 = .ok (.aload_n 0, 1) := by decide +kernel
theorem dX10_outcome_22 : decode cX10_outcome 22 = .ok (.aload_n 0, 1) := by decide +kernel
theorem dX10_outcome_23 : decode cX10_outcome 23 = .ok (.getfield 84, 3) := by decide +kernel
theorem dX10_outcome_26 : decode cX10_outcome 26 = .ok (.iload_n 1, 1) := by decide +kernel
theorem dX10_outcome_27 : decode cX10_outcome 27 = .ok (.invokevirtual 112, 3) := by decide +kernel
theorem dX10_outcome_30 : decode cX10_outcome 30 = .ok (.aload_n 0, 1) := by decide +kernel
theorem dX10_outcome_31 : decode cX10_outcome 31 = .ok (.getfield 84, 3) := by decide +kernel
theorem dX10_outcome_34 : decode cX10_outcome 34 = .ok (.iload_n 2, 1) := by decide +kernel
theorem dX10_outcome_35 : decode cX10_outcome 35 = .ok (.invokevirtual 112, 3) := by decide +kernel
theorem dX10_outcome_38 : decode cX10_outcome 38 = .ok (.invokevirtual 137, 3) := by decide +kernel
theorem dX10_outcome_41 : decode cX10_outcome 41 = .ok (.ireturn, 1) := by decide +kernel
theorem dX10_pick_0 : decode cX10_pick 0 = .ok (.iload_n 2, 1) := by decide +kernel
theorem dX10_pick_1 : decode cX10_pick 1 = .ok (.istore_n 3, 1) := by decide +kernel
theorem dX10_pick_2 : decode cX10_pick 2 = .ok (.iconst 0, 1) := by decide +kernel
theorem dX10_pick_3 : decode cX10_pick 3 = .ok (.istore 4, 2) := by decide +kernel
theorem dX10_pick_5 : decode cX10_pick 5 = .ok (.iload 4, 2) := by decide +kernel
theorem dX10_pick_7 : decode cX10_pick 7 = .ok (.bipush 8, 2) := by decide +kernel
theorem dX10_pick_9 : decode cX10_pick 9 = .ok (.if_icmp .ge 49, 3) := by decide +kernel
theorem dX10_pick_12 : decode cX10_pick 12 = .ok (.iload_n 1, 1) := by decide +kernel
theorem dX10_pick_13 : decode cX10_pick 13 = .ok (.iload 4, 2) := by decide +kernel
theorem dX10_pick_15 : decode cX10_pick 15 = .ok (.invokestatic 234, 3) := by decide +kernel
theorem dX10_pick_18 : decode cX10_pick 18 = .ok (.ifCond .eq 34, 3) := by decide +kernel
theorem dX10_pick_21 : decode cX10_pick 21 = .ok (.iload_n 3, 1) := by decide +kernel
theorem dX10_pick_22 : decode cX10_pick 22 = .ok (.ifCond .lt 30, 3) := by decide +kernel
theorem dX10_pick_25 : decode cX10_pick 25 = .ok (.iload_n 3, 1) := by decide +kernel
theorem dX10_pick_26 : decode cX10_pick 26 = .ok (.aload_n 0, 1) := by decide +kernel
theorem dX10_pick_27 : decode cX10_pick 27 = .ok (.getfield 95, 3) := by decide +kernel
theorem dX10_pick_30 : decode cX10_pick 30 = .ok (.arraylength, 1) := by decide +kernel
theorem dX10_pick_31 : decode cX10_pick 31 = .ok (.if_icmp .ge 21, 3) := by decide +kernel
theorem dX10_pick_34 : decode cX10_pick 34 = .ok (.aload_n 0, 1) := by decide +kernel
theorem dX10_pick_35 : decode cX10_pick 35 = .ok (.getfield 95, 3) := by decide +kernel
theorem dX10_pick_38 : decode cX10_pick 38 = .ok (.iload_n 3, 1) := by decide +kernel
theorem dX10_pick_39 : decode cX10_pick 39 = .ok (.aload_n 0, 1) := by decide +kernel
theorem dX10_pick_40 : decode cX10_pick 40 = .ok (.getfield 84, 3) := by decide +kernel
theorem dX10_pick_43 : decode cX10_pick 43 = .ok (.iload 4, 2) := by decide +kernel
theorem dX10_pick_45 : decode cX10_pick 45 = .ok (.invokevirtual 112, 3) := by decide +kernel
theorem dX10_pick_48 : decode cX10_pick 48 = .ok (.aastore, 1) := by decide +kernel
theorem dX10_pick_49 : decode cX10_pick 49 = .ok (.iinc 3 1, 3) := by decide +kernel
theorem dX10_pick_52 : decode cX10_pick 52 = .ok (.iinc 4 1, 3) := by decide +kernel
theorem dX10_pick_55 : decode cX10_pick 55 = .ok (.goto (-50), 3) := by decide +kernel
theorem dX10_pick_58 : decode cX10_pick 58 = .ok (.iload_n 3, 1) := by decide +kernel
theorem dX10_pick_59 : decode cX10_pick 59 = .ok (.ireturn, 1) := by decide +kernel
theorem dX10_plus_0 : decode cX10_plus 0 = .ok (.iload_n 1, 1) := by decide +kernel
theorem dX10_plus_1 : decode cX10_plus 1 = .ok (.invokestatic 103, 3) := by decide +kernel
theorem dX10_plus_4 : decode cX10_plus 4 = .ok (.ifCond .eq 17, 3) := by decide +kernel
theorem dX10_plus_7 : decode cX10_plus 7 = .ok (.iload_n 2, 1) := by decide +kernel
theorem dX10_plus_8 : decode cX10_plus 8 = .ok (.invokestatic 103, 3) := by decide +kernel
theorem dX10_plus_11 : decode cX10_plus 11 = .ok (.ifCond .eq 10, 3) := by decide +kernel
theorem dX10_plus_14 : decode cX10_plus 14 = .ok (.iload_n 3, 1) := by decide +kernel
theorem dX10_plus_15 : decode cX10_plus 15 = .ok (.invokestatic 103, 3) := by decide +kernel
theorem dX10_plus_18 : decode cX10_plus 18 = .ok (.ifCond .ne 10, 3) := by decide +kernel
theorem dX10_plus_21 : decode cX10_plus 21 = .ok (.aload_n 0, 1) := by decide +kernel
theorem dX10_plus_22 : decode cX10_plus 22 = .ok (.ldc 107, 2) := by decide +kernel
theorem dX10_plus_24 : decode cX10_plus 24 = .ok (.invokevirtual 108, 3) := by decide +kernel
theorem dX10_plus_27 : decode cX10_plus 27 = .ok (.ireturn, 1) := by decide +kernel
theorem dX10_plus_28 : decode cX10_plus 28 = .ok (.aload_n 0, 1) := by decide +kernel
theorem dX10_plus_29 : decode cX10_plus 29 = .ok (.iload_n 1, 1) := by decide +kernel
theorem dX10_plus_30 : decode cX10_plus 30 = .ok (.aload_n 0, 1) := by decide +kernel
theorem dX10_plus_31 : decode cX10_plus 31 = .ok (.getfield 30, 3) := by decide +kernel
theorem dX10_plus_34 : decode cX10_plus 34 = .ok (.aload_n 0, 1) := by decide +kernel
theorem dX10_plus_35 : decode cX10_plus 35 = .ok (.getfield 84, 3) := by decide +kernel
theorem dX10_plus_38 : decode cX10_plus 38 = .ok (.iload_n 2, 1) := by decide +kernel
theorem dX10_plus_39 : decode cX10_plus 39 = .ok (.invokevirtual 112, 3) := by decide +kernel
theorem dX10_plus_42 : decode cX10_plus 42 = .ok (.aload_n 0, 1) := by decide +kernel
theorem dX10_plus_43 : decode cX10_plus 43 = .ok (.getfield 84, 3) := by decide +kernel
theorem dX10_plus_46 : decode cX10_plus 46 = .ok (.iload_n 3, 1) := by decide +kernel
theorem dX10_plus_47 : decode cX10_plus 47 = .ok (.invokevirtual 112, 3) := by decide +kernel
theorem dX10_plus_50 : decode cX10_plus 50 = .ok (.invokevirtual 191, 3) := by decide +kernel
theorem dX10_plus_53 : decode cX10_plus 53 = .ok (.invokevirtual 166, 3) := by decide +kernel
theorem dX10_plus_56 : decode cX10_plus 56 = .ok (.ireturn, 1) := by decide +kernel
theorem dX10_reply_0 : decode cX10_reply 0 = .ok (.iload_n 1, 1) := by decide +kernel
theorem dX10_reply_1 : decode cX10_reply 1 = .ok (.invokestatic 103, 3) := by decide +kernel
theorem dX10_reply_4 : decode cX10_reply 4 = .ok (.ifCond .eq 25, 3) := by decide +kernel
theorem dX10_reply_7 : decode cX10_reply 7 = .ok (.iload_n 2, 1) := by decide +kernel
theorem dX10_reply_8 : decode cX10_reply 8 = .ok (.invokestatic 103, 3) := by decide +kernel
theorem dX10_reply_11 : decode cX10_reply 11 = .ok (.ifCond .eq 18, 3) := by decide +kernel
theorem dX10_reply_14 : decode cX10_reply 14 = .ok (.iload_n 3, 1) := by decide +kernel
theorem dX10_reply_15 : decode cX10_reply 15 = .ok (.invokestatic 199, 3) := by decide +kernel
theorem dX10_reply_18 : decode cX10_reply 18 = .ok (.ifCond .eq 11, 3) := by decide +kernel
theorem dX10_reply_21 : decode cX10_reply 21 = .ok (.iload 4, 2) := by decide +kernel
theorem dX10_reply_23 : decode cX10_reply 23 = .ok (.invokestatic 199, 3) := by decide +kernel
theorem dX10_reply_26 : decode cX10_reply 26 = .ok (.ifCond .ne 10, 3) := by decide +kernel
theorem dX10_reply_29 : decode cX10_reply 29 = .ok (.aload_n 0, 1) := by decide +kernel
theorem dX10_reply_30 : decode cX10_reply 30 = .ok (.ldc 107, 2) := by decide +kernel
theorem dX10_reply_32 : decode cX10_reply 32 = .ok (.invokevirtual 108, 3) := by decide +kernel
theorem dX10_reply_35 : decode cX10_reply 35 = .ok (.ireturn, 1) := by decide +kernel
theorem dX10_reply_36 : decode cX10_reply 36 = .ok (.aload_n 0, 1) := by decide +kernel
theorem dX10_reply_37 : decode cX10_reply 37 = .ok (.getfield 84, 3) := by decide +kernel
theorem dX10_reply_40 : decode cX10_reply 40 = .ok (.iload_n 1, 1) := by decide +kernel
theorem dX10_reply_41 : decode cX10_reply 41 = .ok (.invokevirtual 112, 3) := by decide +kernel
theorem dX10_reply_44 : decode cX10_reply 44 = .ok (.astore 5, 2) := by decide +kernel
theorem dX10_reply_46 : decode cX10_reply 46 = .ok (.aload_n 0, 1) := by decide +kernel
theorem dX10_reply_47 : decode cX10_reply 47 = .ok (.getfield 84, 3) := by decide +kernel
theorem dX10_reply_50 : decode cX10_reply 50 = .ok (.iload_n 2, 1) := by decide +kernel
theorem dX10_reply_51 : decode cX10_reply 51 = .ok (.invokevirtual 112, 3) := by decide +kernel
theorem dX10_reply_54 : decode cX10_reply 54 = .ok (.astore 6, 2) := by decide +kernel
theorem dX10_reply_56 : decode cX10_reply 56 = .ok (.aload_n 0, 1) := by decide +kernel
theorem dX10_reply_57 : decode cX10_reply 57 = .ok (.getfield 47, 3) := by decide +kernel
theorem dX10_reply_60 : decode cX10_reply 60 = .ok (.aload 5, 2) := by decide +kernel
theorem dX10_reply_62 : decode cX10_reply 62 = .ok (.aload 6, 2) := by decide +kernel
theorem dX10_reply_64 : decode cX10_reply 64 = .ok (.iconst 0, 1) := by decide +kernel
theorem dX10_reply_65 : decode cX10_reply 65 = .ok (.invokevirtual 213, 3) := by decide +kernel
theorem dX10_reply_68 : decode cX10_reply 68 = .ok (.aload_n 0, 1) := by decide +kernel
theorem dX10_reply_69 : decode cX10_reply 69 = .ok (.getfield 47, 3) := by decide +kernel
theorem dX10_reply_72 : decode cX10_reply 72 = .ok (.aload 5, 2) := by decide +kernel
theorem dX10_reply_74 : decode cX10_reply 74 = .ok (.invokevirtual 124, 3) := by decide +kernel
theorem dX10_reply_77 : decode cX10_reply 77 = .ok (.aload 6, 2) := by decide +kernel
theorem dX10_reply_79 : decode cX10_reply 79 = .ok (.invokevirtual 124, 3) := by decide +kernel
theorem dX10_reply_82 : decode cX10_reply 82 = .ok (.iload_n 3, 1) := by decide +kernel
theorem dX10_reply_83 : decode cX10_reply 83 = .ok (.invokevirtual 238, 3) := by decide +kernel
theorem dX10_reply_86 : decode cX10_reply 86 = .ok (.istore 7, 2) := by decide +kernel
theorem dX10_reply_88 : decode cX10_reply 88 = .ok (.iload 7, 2) := by decide +kernel
theorem dX10_reply_90 : decode cX10_reply 90 = .ok (.ifCond .ge 10, 3) := by decide +kernel
theorem dX10_reply_93 : decode cX10_reply 93 = .ok (.aload_n 0, 1) := by decide +kernel
theorem dX10_reply_94 : decode cX10_reply 94 = .ok (.ldc 158, 2) := by decide +kernel
theorem dX10_reply_96 : decode cX10_reply 96 = .ok (.invokevirtual 108, 3) := by decide +kernel
theorem dX10_reply_99 : decode cX10_reply 99 = .ok (.ireturn, 1) := by decide +kernel
theorem dX10_reply_100 : decode cX10_reply 100 = .ok (.iload 4, 2) := by decide +kernel
theorem dX10_reply_102 : decode cX10_reply 102 = .ok (.ifCond .ne 11, 3) := by decide +kernel
theorem dX10_reply_105 : decode cX10_reply 105 = .ok (.iload 7, 2) := by decide +kernel
theorem dX10_reply_107 : decode cX10_reply 107 = .ok (.invokestatic 241, 3) := by decide +kernel
theorem dX10_reply_110 : decode cX10_reply 110 = .ok (.goto 8, 3) := by decide +kernel
theorem dX10_reply_113 : decode cX10_reply 113 = .ok (.iload 7, 2) := by decide +kernel
theorem dX10_reply_115 : decode cX10_reply 115 = .ok (.invokestatic 243, 3) := by decide +kernel
theorem dX10_reply_118 : decode cX10_reply 118 = .ok (.ireturn, 1) := by decide +kernel
theorem dX10_settle_0 : decode cX10_settle 0 = .ok (.aload_n 2, 1) := by decide +kernel
theorem dX10_settle_1 : decode cX10_settle 1 = .ok (.ifnonnull 11, 3) := by decide +kernel
theorem dX10_settle_4 : decode cX10_settle 4 = .ok (.aload_n 0, 1) := by decide +kernel
theorem dX10_settle_5 : decode cX10_settle 5 = .ok (.ldc_w 279, 3) := by decide +kernel
theorem dX10_settle_8 : decode cX10_settle 8 = .ok (.invokevirtual 108, 3) := by decide +kernel
theorem dX10_settle_11 : decode cX10_settle 11 = .ok (.ireturn, 1) := by decide +kernel
theorem dX10_settle_12 : decode cX10_settle 12 = .ok (.aload_n 0, 1) := by decide +kernel
theorem dX10_settle_13 : decode cX10_settle 13 = .ok (.getfield 84, 3) := by decide +kernel
theorem dX10_settle_16 : decode cX10_settle 16 = .ok (.iload_n 1, 1) := by decide +kernel
theorem dX10_settle_17 : decode cX10_settle 17 = .ok (.aload_n 2, 1) := by decide +kernel
theorem dX10_settle_18 : decode cX10_settle 18 = .ok (.invokevirtual 336, 3) := by decide +kernel
theorem dX10_settle_21 : decode cX10_settle 21 = .ok (.aload_n 2, 1) := by decide +kernel
theorem dX10_settle_22 : decode cX10_settle 22 = .ok (.invokevirtual 116, 3) := by decide +kernel
theorem dX10_settle_25 : decode cX10_settle 25 = .ok (.ireturn, 1) := by decide +kernel
theorem dX10_slot_0 : decode cX10_slot 0 = .ok (.iload_n 1, 1) := by decide +kernel
theorem dX10_slot_1 : decode cX10_slot 1 = .ok (.invokestatic 103, 3) := by decide +kernel
theorem dX10_slot_4 : decode cX10_slot 4 = .ok (.ifCond .ne 10, 3) := by decide +kernel
theorem dX10_slot_7 : decode cX10_slot 7 = .ok (.aload_n 0, 1) := by decide +kernel
theorem dX10_slot_8 : decode cX10_slot 8 = .ok (.ldc 107, 2) := by decide +kernel
theorem dX10_slot_10 : decode cX10_slot 10 = .ok (.invokevirtual 108, 3) := by decide +kernel
theorem dX10_slot_13 : decode cX10_slot 13 = .ok (.ireturn, 1) := by decide +kernel
theorem dX10_slot_14 : decode cX10_slot 14 = .ok (.aload_n 0, 1) := by decide +kernel
theorem dX10_slot_15 : decode cX10_slot 15 = .ok (.getfield 84, 3) := by decide +kernel
theorem dX10_slot_18 : decode cX10_slot 18 = .ok (.iload_n 1, 1) := by decide +kernel
theorem dX10_slot_19 : decode cX10_slot 19 = .ok (.invokevirtual 112, 3) := by decide +kernel
theorem dX10_slot_22 : decode cX10_slot 22 = .ok (.astore_n 3, 1) := by decide +kernel
theorem dX10_slot_23 : decode cX10_slot 23 = .ok (.iload_n 2, 1) := by decide +kernel
theorem dX10_slot_24 : decode cX10_slot 24 = .ok (.tableswitch 138 0 8 #[52, 57, 62, 75, 88, 101, 114, 120, 125], 52) := by decide +kernel
theorem dX10_slot_76 : decode cX10_slot 76 = .ok (.aload_n 3, 1) := by decide +kernel
theorem dX10_slot_77 : decode cX10_slot 77 = .ok (.invokevirtual 116, 3) := by decide +kernel
theorem dX10_slot_80 : decode cX10_slot 80 = .ok (.ireturn, 1) := by decide +kernel
theorem dX10_slot_81 : decode cX10_slot 81 = .ok (.aload_n 3, 1) := by decide +kernel
theorem dX10_slot_82 : decode cX10_slot 82 = .ok (.getfield 120, 3) := by decide +kernel
theorem dX10_slot_85 : decode cX10_slot 85 = .ok (.ireturn, 1) := by decide +kernel
theorem dX10_slot_86 : decode cX10_slot 86 = .ok (.aload_n 3, 1) := by decide +kernel
theorem dX10_slot_87 : decode cX10_slot 87 = .ok (.aload_n 3, 1) := by decide +kernel
theorem dX10_slot_88 : decode cX10_slot 88 = .ok (.invokevirtual 124, 3) := by decide +kernel
theorem dX10_slot_91 : decode cX10_slot 91 = .ok (.iconst 0, 1) := by decide +kernel
theorem dX10_slot_92 : decode cX10_slot 92 = .ok (.invokevirtual 127, 3) := by decide +kernel
theorem dX10_slot_95 : decode cX10_slot 95 = .ok (.invokestatic 131, 3) := by decide +kernel
theorem dX10_slot_98 : decode cX10_slot 98 = .ok (.ireturn, 1) := by decide +kernel
theorem dX10_slot_99 : decode cX10_slot 99 = .ok (.aload_n 3, 1) := by decide +kernel
theorem dX10_slot_100 : decode cX10_slot 100 = .ok (.aload_n 3, 1) := by decide +kernel
theorem dX10_slot_101 : decode cX10_slot 101 = .ok (.invokevirtual 124, 3) := by decide +kernel
theorem dX10_slot_104 : decode cX10_slot 104 = .ok (.iconst 1, 1) := by decide +kernel
theorem dX10_slot_105 : decode cX10_slot 105 = .ok (.invokevirtual 127, 3) := by decide +kernel
theorem dX10_slot_108 : decode cX10_slot 108 = .ok (.invokestatic 131, 3) := by decide +kernel
theorem dX10_slot_111 : decode cX10_slot 111 = .ok (.ireturn, 1) := by decide +kernel
theorem dX10_slot_112 : decode cX10_slot 112 = .ok (.aload_n 0, 1) := by decide +kernel
theorem dX10_slot_113 : decode cX10_slot 113 = .ok (.aload_n 3, 1) := by decide +kernel
theorem dX10_slot_114 : decode cX10_slot 114 = .ok (.aload_n 0, 1) := by decide +kernel
theorem dX10_slot_115 : decode cX10_slot 115 = .ok (.getfield 84, 3) := by decide +kernel
theorem dX10_slot_118 : decode cX10_slot 118 = .ok (.invokevirtual 136, 3) := by decide +kernel
theorem dX10_slot_121 : decode cX10_slot 121 = .ok (.invokevirtual 137, 3) := by decide +kernel
theorem dX10_slot_124 : decode cX10_slot 124 = .ok (.ireturn, 1) := by decide +kernel
theorem dX10_slot_125 : decode cX10_slot 125 = .ok (.aload_n 3, 1) := by decide +kernel
theorem dX10_slot_126 : decode cX10_slot 126 = .ok (.invokevirtual 141, 3) := by decide +kernel
theorem dX10_slot_129 : decode cX10_slot 129 = .ok (.ifCond .eq 7, 3) := by decide +kernel
theorem dX10_slot_132 : decode cX10_slot 132 = .ok (.iconst 1, 1) := by decide +kernel
theorem dX10_slot_133 : decode cX10_slot 133 = .ok (.goto 4, 3) := by decide +kernel
theorem dX10_slot_136 : decode cX10_slot 136 = .ok (.iconst 0, 1) := by decide +kernel
theorem dX10_slot_137 : decode cX10_slot 137 = .ok (.ireturn, 1) := by decide +kernel
theorem dX10_slot_138 : decode cX10_slot 138 = .ok (.aload_n 3, 1) := by decide +kernel
theorem dX10_slot_139 : decode cX10_slot 139 = .ok (.getfield 145, 3) := by decide +kernel
theorem dX10_slot_142 : decode cX10_slot 142 = .ok (.arraylength, 1) := by decide +kernel
theorem dX10_slot_143 : decode cX10_slot 143 = .ok (.ireturn, 1) := by decide +kernel
theorem dX10_slot_144 : decode cX10_slot 144 = .ok (.aload_n 3, 1) := by decide +kernel
theorem dX10_slot_145 : decode cX10_slot 145 = .ok (.getfield 149, 3) := by decide +kernel
theorem dX10_slot_148 : decode cX10_slot 148 = .ok (.ireturn, 1) := by decide +kernel
theorem dX10_slot_149 : decode cX10_slot 149 = .ok (.aload_n 3, 1) := by decide +kernel
theorem dX10_slot_150 : decode cX10_slot 150 = .ok (.invokevirtual 152, 3) := by decide +kernel
theorem dX10_slot_153 : decode cX10_slot 153 = .ok (.ifCond .eq 7, 3) := by decide +kernel
theorem dX10_slot_156 : decode cX10_slot 156 = .ok (.iconst 1, 1) := by decide +kernel
theorem dX10_slot_157 : decode cX10_slot 157 = .ok (.goto 4, 3) := by decide +kernel
theorem dX10_slot_160 : decode cX10_slot 160 = .ok (.iconst 0, 1) := by decide +kernel
theorem dX10_slot_161 : decode cX10_slot 161 = .ok (.ireturn, 1) := by decide +kernel
theorem dX10_slot_162 : decode cX10_slot 162 = .ok (.aload_n 0, 1) := by decide +kernel
theorem dX10_slot_163 : decode cX10_slot 163 = .ok (.ldc 107, 2) := by decide +kernel
theorem dX10_slot_165 : decode cX10_slot 165 = .ok (.invokevirtual 108, 3) := by decide +kernel
theorem dX10_slot_168 : decode cX10_slot 168 = .ok (.ireturn, 1) := by decide +kernel
theorem dX10_sumOutcome_0 : decode cX10_sumOutcome 0 = .ok (.aload_n 0, 1) := by decide +kernel
theorem dX10_sumOutcome_1 : decode cX10_sumOutcome 1 = .ok (.getfield 47, 3) := by decide +kernel
theorem dX10_sumOutcome_4 : decode cX10_sumOutcome 4 = .ok (.aload_n 1, 1) := by decide +kernel
theorem dX10_sumOutcome_5 : decode cX10_sumOutcome 5 = .ok (.aload_n 2, 1) := by decide +kernel
theorem dX10_sumOutcome_6 : decode cX10_sumOutcome 6 = .ok (.iconst 0, 1) := by decide +kernel
theorem dX10_sumOutcome_7 : decode cX10_sumOutcome 7 = .ok (.invokevirtual 213, 3) := by decide +kernel
theorem dX10_sumOutcome_10 : decode cX10_sumOutcome 10 = .ok (.aload_n 0, 1) := by decide +kernel
theorem dX10_sumOutcome_11 : decode cX10_sumOutcome 11 = .ok (.getfield 47, 3) := by decide +kernel
theorem dX10_sumOutcome_14 : decode cX10_sumOutcome 14 = .ok (.aload_n 1, 1) := by decide +kernel
theorem dX10_sumOutcome_15 : decode cX10_sumOutcome 15 = .ok (.invokevirtual 124, 3) := by decide +kernel
theorem dX10_sumOutcome_18 : decode cX10_sumOutcome 18 = .ok (.aload_n 2, 1) := by decide +kernel
theorem dX10_sumOutcome_19 : decode cX10_sumOutcome 19 = .ok (.invokevirtual 124, 3) := by decide +kernel
theorem dX10_sumOutcome_22 : decode cX10_sumOutcome 22 = .ok (.invokevirtual 217, 3) := by decide +kernel
theorem dX10_sumOutcome_25 : decode cX10_sumOutcome 25 = .ok (.ireturn, 1) := by decide +kernel
theorem dX10_ups_0 : decode cX10_ups 0 = .ok (.iload_n 1, 1) := by decide +kernel
theorem dX10_ups_1 : decode cX10_ups 1 = .ok (.invokestatic 103, 3) := by decide +kernel
theorem dX10_ups_4 : decode cX10_ups 4 = .ok (.ifCond .eq 22, 3) := by decide +kernel
theorem dX10_ups_7 : decode cX10_ups 7 = .ok (.iload_n 2, 1) := by decide +kernel
theorem dX10_ups_8 : decode cX10_ups 8 = .ok (.bipush (-4), 2) := by decide +kernel
theorem dX10_ups_10 : decode cX10_ups 10 = .ok (.iconst 4, 1) := by decide +kernel
theorem dX10_ups_11 : decode cX10_ups 11 = .ok (.invokestatic 159, 3) := by decide +kernel
theorem dX10_ups_14 : decode cX10_ups 14 = .ok (.ifCond .eq 12, 3) := by decide +kernel
theorem dX10_ups_17 : decode cX10_ups 17 = .ok (.iload_n 3, 1) := by decide +kernel
theorem dX10_ups_18 : decode cX10_ups 18 = .ok (.iconst 0, 1) := by decide +kernel
theorem dX10_ups_19 : decode cX10_ups 19 = .ok (.iconst 5, 1) := by decide +kernel
theorem dX10_ups_20 : decode cX10_ups 20 = .ok (.invokestatic 159, 3) := by decide +kernel
theorem dX10_ups_23 : decode cX10_ups 23 = .ok (.ifCond .ne 10, 3) := by decide +kernel
theorem dX10_ups_26 : decode cX10_ups 26 = .ok (.aload_n 0, 1) := by decide +kernel
theorem dX10_ups_27 : decode cX10_ups 27 = .ok (.ldc 107, 2) := by decide +kernel
theorem dX10_ups_29 : decode cX10_ups 29 = .ok (.invokevirtual 108, 3) := by decide +kernel
theorem dX10_ups_32 : decode cX10_ups 32 = .ok (.ireturn, 1) := by decide +kernel
theorem dX10_ups_33 : decode cX10_ups 33 = .ok (.aload_n 0, 1) := by decide +kernel
theorem dX10_ups_34 : decode cX10_ups 34 = .ok (.iload_n 1, 1) := by decide +kernel
theorem dX10_ups_35 : decode cX10_ups 35 = .ok (.aload_n 0, 1) := by decide +kernel
theorem dX10_ups_36 : decode cX10_ups 36 = .ok (.getfield 30, 3) := by decide +kernel
theorem dX10_ups_39 : decode cX10_ups 39 = .ok (.iload_n 2, 1) := by decide +kernel
theorem dX10_ups_40 : decode cX10_ups 40 = .ok (.iload_n 3, 1) := by decide +kernel
theorem dX10_ups_41 : decode cX10_ups 41 = .ok (.invokevirtual 173, 3) := by decide +kernel
theorem dX10_ups_44 : decode cX10_ups 44 = .ok (.invokevirtual 166, 3) := by decide +kernel
theorem dX10_ups_47 : decode cX10_ups 47 = .ok (.ireturn, 1) := by decide +kernel
theorem dX10_weight_0 : decode cX10_weight 0 = .ok (.iload_n 1, 1) := by decide +kernel
theorem dX10_weight_1 : decode cX10_weight 1 = .ok (.invokestatic 103, 3) := by decide +kernel
theorem dX10_weight_4 : decode cX10_weight 4 = .ok (.ifCond .eq 10, 3) := by decide +kernel
theorem dX10_weight_7 : decode cX10_weight 7 = .ok (.iload_n 2, 1) := by decide +kernel
theorem dX10_weight_8 : decode cX10_weight 8 = .ok (.invokestatic 103, 3) := by decide +kernel
theorem dX10_weight_11 : decode cX10_weight 11 = .ok (.ifCond .ne 10, 3) := by decide +kernel
theorem dX10_weight_14 : decode cX10_weight 14 = .ok (.aload_n 0, 1) := by decide +kernel
theorem dX10_weight_15 : decode cX10_weight 15 = .ok (.ldc 107, 2) := by decide +kernel
theorem dX10_weight_17 : decode cX10_weight 17 = .ok (.invokevirtual 108, 3) := by decide +kernel
theorem dX10_weight_20 : decode cX10_weight 20 = .ok (.ireturn, 1) := by decide +kernel
theorem dX10_weight_21 : decode cX10_weight 21 = .ok (.aload_n 0, 1) := by decide +kernel
theorem dX10_weight_22 : decode cX10_weight 22 = .ok (.getfield 84, 3) := by decide +kernel
theorem dX10_weight_25 : decode cX10_weight 25 = .ok (.iload_n 2, 1) := by decide +kernel
theorem dX10_weight_26 : decode cX10_weight 26 = .ok (.invokevirtual 112, 3) := by decide +kernel
theorem dX10_weight_29 : decode cX10_weight 29 = .ok (.astore_n 3, 1) := by decide +kernel
theorem dX10_weight_30 : decode cX10_weight 30 = .ok (.aload_n 3, 1) := by decide +kernel
theorem dX10_weight_31 : decode cX10_weight 31 = .ok (.invokevirtual 141, 3) := by decide +kernel
theorem dX10_weight_34 : decode cX10_weight 34 = .ok (.ifCond .ne 10, 3) := by decide +kernel
theorem dX10_weight_37 : decode cX10_weight 37 = .ok (.aload_n 0, 1) := by decide +kernel
theorem dX10_weight_38 : decode cX10_weight 38 = .ok (.ldc 220, 2) := by decide +kernel
theorem dX10_weight_40 : decode cX10_weight 40 = .ok (.invokevirtual 108, 3) := by decide +kernel
theorem dX10_weight_43 : decode cX10_weight 43 = .ok (.ireturn, 1) := by decide +kernel
theorem dX10_weight_44 : decode cX10_weight 44 = .ok (.aload_n 0, 1) := by decide +kernel
theorem dX10_weight_45 : decode cX10_weight 45 = .ok (.getfield 21, 3) := by decide +kernel
theorem dX10_weight_48 : decode cX10_weight 48 = .ok (.aload_n 0, 1) := by decide +kernel
theorem dX10_weight_49 : decode cX10_weight 49 = .ok (.getfield 56, 3) := by decide +kernel
theorem dX10_weight_52 : decode cX10_weight 52 = .ok (.aload_n 3, 1) := by decide +kernel
theorem dX10_weight_53 : decode cX10_weight 53 = .ok (.invokevirtual 221, 3) := by decide +kernel
theorem dX10_weight_56 : decode cX10_weight 56 = .ok (.invokevirtual 225, 3) := by decide +kernel
theorem dX10_weight_59 : decode cX10_weight 59 = .ok (.astore 4, 2) := by decide +kernel
theorem dX10_weight_61 : decode cX10_weight 61 = .ok (.aload_n 0, 1) := by decide +kernel
theorem dX10_weight_62 : decode cX10_weight 62 = .ok (.iload_n 1, 1) := by decide +kernel
theorem dX10_weight_63 : decode cX10_weight 63 = .ok (.aload 4, 2) := by decide +kernel
theorem dX10_weight_65 : decode cX10_weight 65 = .ok (.invokevirtual 166, 3) := by decide +kernel
theorem dX10_weight_68 : decode cX10_weight 68 = .ok (.istore 5, 2) := by decide +kernel
theorem dX10_weight_70 : decode cX10_weight 70 = .ok (.aload 4, 2) := by decide +kernel
theorem dX10_weight_72 : decode cX10_weight 72 = .ok (.ifnonnull 6, 3) := by decide +kernel
theorem dX10_weight_75 : decode cX10_weight 75 = .ok (.iload 5, 2) := by decide +kernel
theorem dX10_weight_77 : decode cX10_weight 77 = .ok (.ireturn, 1) := by decide +kernel
theorem dX10_weight_78 : decode cX10_weight 78 = .ok (.aload 4, 2) := by decide +kernel
theorem dX10_weight_80 : decode cX10_weight 80 = .ok (.invokevirtual 152, 3) := by decide +kernel
theorem dX10_weight_83 : decode cX10_weight 83 = .ok (.ifCond .eq 7, 3) := by decide +kernel
theorem dX10_weight_86 : decode cX10_weight 86 = .ok (.iconst 1, 1) := by decide +kernel
theorem dX10_weight_87 : decode cX10_weight 87 = .ok (.goto 4, 3) := by decide +kernel
theorem dX10_weight_90 : decode cX10_weight 90 = .ok (.iconst 0, 1) := by decide +kernel
theorem dX10_weight_91 : decode cX10_weight 91 = .ok (.ireturn, 1) := by decide +kernel
theorem dX10_whole_0 : decode cX10_whole 0 = .ok (.iload_n 1, 1) := by decide +kernel
theorem dX10_whole_1 : decode cX10_whole 1 = .ok (.invokestatic 103, 3) := by decide +kernel
theorem dX10_whole_4 : decode cX10_whole 4 = .ok (.ifCond .eq 14, 3) := by decide +kernel
theorem dX10_whole_7 : decode cX10_whole 7 = .ok (.iload_n 2, 1) := by decide +kernel
theorem dX10_whole_8 : decode cX10_whole 8 = .ok (.bipush (-9), 2) := by decide +kernel
theorem dX10_whole_10 : decode cX10_whole 10 = .ok (.bipush 9, 2) := by decide +kernel
theorem dX10_whole_12 : decode cX10_whole 12 = .ok (.invokestatic 159, 3) := by decide +kernel
theorem dX10_whole_15 : decode cX10_whole 15 = .ok (.ifCond .ne 10, 3) := by decide +kernel
theorem dX10_whole_18 : decode cX10_whole 18 = .ok (.aload_n 0, 1) := by decide +kernel
theorem dX10_whole_19 : decode cX10_whole 19 = .ok (.ldc 107, 2) := by decide +kernel
theorem dX10_whole_21 : decode cX10_whole 21 = .ok (.invokevirtual 108, 3) := by decide +kernel
theorem dX10_whole_24 : decode cX10_whole 24 = .ok (.ireturn, 1) := by decide +kernel
theorem dX10_whole_25 : decode cX10_whole 25 = .ok (.aload_n 0, 1) := by decide +kernel
theorem dX10_whole_26 : decode cX10_whole 26 = .ok (.iload_n 1, 1) := by decide +kernel
theorem dX10_whole_27 : decode cX10_whole 27 = .ok (.aload_n 0, 1) := by decide +kernel
theorem dX10_whole_28 : decode cX10_whole 28 = .ok (.getfield 30, 3) := by decide +kernel
theorem dX10_whole_31 : decode cX10_whole 31 = .ok (.iload_n 2, 1) := by decide +kernel
theorem dX10_whole_32 : decode cX10_whole 32 = .ok (.invokevirtual 163, 3) := by decide +kernel
theorem dX10_whole_35 : decode cX10_whole 35 = .ok (.invokevirtual 166, 3) := by decide +kernel
theorem dX10_whole_38 : decode cX10_whole 38 = .ok (.ireturn, 1) := by decide +kernel
theorem dX10_word_0 : decode cX10_word 0 = .ok (.iload_n 1, 1) := by decide +kernel
theorem dX10_word_1 : decode cX10_word 1 = .ok (.invokestatic 103, 3) := by decide +kernel
theorem dX10_word_4 : decode cX10_word 4 = .ok (.ifCond .ne 10, 3) := by decide +kernel
theorem dX10_word_7 : decode cX10_word 7 = .ok (.aload_n 0, 1) := by decide +kernel
theorem dX10_word_8 : decode cX10_word 8 = .ok (.ldc 107, 2) := by decide +kernel
theorem dX10_word_10 : decode cX10_word 10 = .ok (.invokevirtual 108, 3) := by decide +kernel
theorem dX10_word_13 : decode cX10_word 13 = .ok (.ireturn, 1) := by decide +kernel
theorem dX10_word_14 : decode cX10_word 14 = .ok (.aload_n 0, 1) := by decide +kernel
theorem dX10_word_15 : decode cX10_word 15 = .ok (.getfield 84, 3) := by decide +kernel
theorem dX10_word_18 : decode cX10_word 18 = .ok (.iload_n 1, 1) := by decide +kernel
theorem dX10_word_19 : decode cX10_word 19 = .ok (.invokevirtual 112, 3) := by decide +kernel
theorem dX10_word_22 : decode cX10_word 22 = .ok (.getfield 145, 3) := by decide +kernel
theorem dX10_word_25 : decode cX10_word 25 = .ok (.astore_n 3, 1) := by decide +kernel
theorem dX10_word_26 : decode cX10_word 26 = .ok (.iload_n 2, 1) := by decide +kernel
theorem dX10_word_27 : decode cX10_word 27 = .ok (.ifCond .lt 15, 3) := by decide +kernel
theorem dX10_word_30 : decode cX10_word 30 = .ok (.iload_n 2, 1) := by decide +kernel
theorem dX10_word_31 : decode cX10_word 31 = .ok (.aload_n 3, 1) := by decide +kernel
theorem dX10_word_32 : decode cX10_word 32 = .ok (.arraylength, 1) := by decide +kernel
theorem dX10_word_33 : decode cX10_word 33 = .ok (.if_icmp .ge 9, 3) := by decide +kernel
theorem dX10_word_36 : decode cX10_word 36 = .ok (.aload_n 3, 1) := by decide +kernel
theorem dX10_word_37 : decode cX10_word 37 = .ok (.iload_n 2, 1) := by decide +kernel
theorem dX10_word_38 : decode cX10_word 38 = .ok (.baload, 1) := by decide +kernel
theorem dX10_word_39 : decode cX10_word 39 = .ok (.goto 9, 3) := by decide +kernel
theorem dX10_word_42 : decode cX10_word 42 = .ok (.aload_n 0, 1) := by decide +kernel
theorem dX10_word_43 : decode cX10_word 43 = .ok (.ldc 158, 2) := by decide +kernel
theorem dX10_word_45 : decode cX10_word 45 = .ok (.invokevirtual 108, 3) := by decide +kernel
theorem dX10_word_48 : decode cX10_word 48 = .ok (.ireturn, 1) := by decide +kernel
