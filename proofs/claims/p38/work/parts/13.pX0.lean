theorem dX0_bestMove_0 : decode cX0_bestMove 0 = .ok (.iload_n 3, 1) := by decide +kernel
theorem dX0_bestMove_1 : decode cX0_bestMove 1 = .ok (.ifCond .ne 10, 3) := by decide +kernel
theorem dX0_bestMove_4 : decode cX0_bestMove 4 = .ok (.aload_n 0, 1) := by decide +kernel
theorem dX0_bestMove_5 : decode cX0_bestMove 5 = .ok (.getfield 11, 3) := by decide +kernel
theorem dX0_bestMove_8 : decode cX0_bestMove 8 = .ok (.goto 7, 3) := by decide +kernel
theorem dX0_bestMove_11 : decode cX0_bestMove 11 = .ok (.aload_n 0, 1) := by decide +kernel
theorem dX0_bestMove_12 : decode cX0_bestMove 12 = .ok (.getfield 15, 3) := by decide +kernel
theorem dX0_bestMove_15 : decode cX0_bestMove 15 = .ok (.astore 4, 2) := by decide +kernel
theorem dX0_bestMove_17 : decode cX0_bestMove 17 = .ok (.iconst 0, 1) := by decide +kernel
theorem dX0_bestMove_18 : decode cX0_bestMove 18 = .ok (.istore 5, 2) := by decide +kernel
theorem dX0_bestMove_20 : decode cX0_bestMove 20 = .ok (.iload 5, 2) := by decide +kernel
theorem dX0_bestMove_22 : decode cX0_bestMove 22 = .ok (.bipush 11, 2) := by decide +kernel
theorem dX0_bestMove_24 : decode cX0_bestMove 24 = .ok (.if_icmp .ge 50, 3) := by decide +kernel
theorem dX0_bestMove_27 : decode cX0_bestMove 27 = .ok (.aload_n 0, 1) := by decide +kernel
theorem dX0_bestMove_28 : decode cX0_bestMove 28 = .ok (.getfield 18, 3) := by decide +kernel
theorem dX0_bestMove_31 : decode cX0_bestMove 31 = .ok (.iload_n 1, 1) := by decide +kernel
theorem dX0_bestMove_32 : decode cX0_bestMove 32 = .ok (.iload_n 3, 1) := by decide +kernel
theorem dX0_bestMove_33 : decode cX0_bestMove 33 = .ok (.iload 5, 2) := by decide +kernel
theorem dX0_bestMove_35 : decode cX0_bestMove 35 = .ok (.invokevirtual 43, 3) := by decide +kernel
theorem dX0_bestMove_38 : decode cX0_bestMove 38 = .ok (.istore 6, 2) := by decide +kernel
theorem dX0_bestMove_40 : decode cX0_bestMove 40 = .ok (.iload 6, 2) := by decide +kernel
theorem dX0_bestMove_42 : decode cX0_bestMove 42 = .ok (.ifCond .lt 26, 3) := by decide +kernel
theorem dX0_bestMove_45 : decode cX0_bestMove 45 = .ok (.iload 6, 2) := by decide +kernel
theorem dX0_bestMove_47 : decode cX0_bestMove 47 = .ok (.aload 4, 2) := by decide +kernel
theorem dX0_bestMove_49 : decode cX0_bestMove 49 = .ok (.arraylength, 1) := by decide +kernel
theorem dX0_bestMove_50 : decode cX0_bestMove 50 = .ok (.if_icmp .ge 18, 3) := by decide +kernel
theorem dX0_bestMove_53 : decode cX0_bestMove 53 = .ok (.aload 4, 2) := by decide +kernel
theorem dX0_bestMove_55 : decode cX0_bestMove 55 = .ok (.iload 6, 2) := by decide +kernel
theorem dX0_bestMove_57 : decode cX0_bestMove 57 = .ok (.iaload, 1) := by decide +kernel
theorem dX0_bestMove_58 : decode cX0_bestMove 58 = .ok (.iload_n 2, 1) := by decide +kernel
theorem dX0_bestMove_59 : decode cX0_bestMove 59 = .ok (.ishr, 1) := by decide +kernel
theorem dX0_bestMove_60 : decode cX0_bestMove 60 = .ok (.iconst 1, 1) := by decide +kernel
theorem dX0_bestMove_61 : decode cX0_bestMove 61 = .ok (.iand, 1) := by decide +kernel
theorem dX0_bestMove_62 : decode cX0_bestMove 62 = .ok (.ifCond .eq 6, 3) := by decide +kernel
theorem dX0_bestMove_65 : decode cX0_bestMove 65 = .ok (.iload 5, 2) := by decide +kernel
theorem dX0_bestMove_67 : decode cX0_bestMove 67 = .ok (.ireturn, 1) := by decide +kernel
theorem dX0_bestMove_68 : decode cX0_bestMove 68 = .ok (.iinc 5 1, 3) := by decide +kernel
theorem dX0_bestMove_71 : decode cX0_bestMove 71 = .ok (.goto (-51), 3) := by decide +kernel
theorem dX0_bestMove_74 : decode cX0_bestMove 74 = .ok (.iconst 0, 1) := by decide +kernel
theorem dX0_bestMove_75 : decode cX0_bestMove 75 = .ok (.istore 5, 2) := by decide +kernel
theorem dX0_bestMove_77 : decode cX0_bestMove 77 = .ok (.iload 5, 2) := by decide +kernel
theorem dX0_bestMove_79 : decode cX0_bestMove 79 = .ok (.bipush 11, 2) := by decide +kernel
theorem dX0_bestMove_81 : decode cX0_bestMove 81 = .ok (.if_icmp .ge 56, 3) := by decide +kernel
theorem dX0_bestMove_84 : decode cX0_bestMove 84 = .ok (.aload_n 0, 1) := by decide +kernel
theorem dX0_bestMove_85 : decode cX0_bestMove 85 = .ok (.getfield 22, 3) := by decide +kernel
theorem dX0_bestMove_88 : decode cX0_bestMove 88 = .ok (.iload_n 2, 1) := by decide +kernel
theorem dX0_bestMove_89 : decode cX0_bestMove 89 = .ok (.iload_n 3, 1) := by decide +kernel
theorem dX0_bestMove_90 : decode cX0_bestMove 90 = .ok (.iload 5, 2) := by decide +kernel
theorem dX0_bestMove_92 : decode cX0_bestMove 92 = .ok (.invokevirtual 43, 3) := by decide +kernel
theorem dX0_bestMove_95 : decode cX0_bestMove 95 = .ok (.istore 6, 2) := by decide +kernel
theorem dX0_bestMove_97 : decode cX0_bestMove 97 = .ok (.iload 6, 2) := by decide +kernel
theorem dX0_bestMove_99 : decode cX0_bestMove 99 = .ok (.ifCond .lt 32, 3) := by decide +kernel
theorem dX0_bestMove_102 : decode cX0_bestMove 102 = .ok (.iload_n 1, 1) := by decide +kernel
theorem dX0_bestMove_103 : decode cX0_bestMove 103 = .ok (.ifCond .lt 28, 3) := by decide +kernel
theorem dX0_bestMove_106 : decode cX0_bestMove 106 = .ok (.iload_n 1, 1) := by decide +kernel
theorem dX0_bestMove_107 : decode cX0_bestMove 107 = .ok (.aload 4, 2) := by decide +kernel
theorem dX0_bestMove_109 : decode cX0_bestMove 109 = .ok (.arraylength, 1) := by decide +kernel
theorem dX0_bestMove_110 : decode cX0_bestMove 110 = .ok (.if_icmp .ge 21, 3) := by decide +kernel
theorem dX0_bestMove_113 : decode cX0_bestMove 113 = .ok (.aload 4, 2) := by decide +kernel
theorem dX0_bestMove_115 : decode cX0_bestMove 115 = .ok (.iload_n 1, 1) := by decide +kernel
theorem dX0_bestMove_116 : decode cX0_bestMove 116 = .ok (.iaload, 1) := by decide +kernel
theorem dX0_bestMove_117 : decode cX0_bestMove 117 = .ok (.iload 6, 2) := by decide +kernel
theorem dX0_bestMove_119 : decode cX0_bestMove 119 = .ok (.ishr, 1) := by decide +kernel
theorem dX0_bestMove_120 : decode cX0_bestMove 120 = .ok (.iconst 1, 1) := by decide +kernel
theorem dX0_bestMove_121 : decode cX0_bestMove 121 = .ok (.iand, 1) := by decide +kernel
theorem dX0_bestMove_122 : decode cX0_bestMove 122 = .ok (.ifCond .eq 9, 3) := by decide +kernel
theorem dX0_bestMove_125 : decode cX0_bestMove 125 = .ok (.bipush 32, 2) := by decide +kernel
theorem dX0_bestMove_127 : decode cX0_bestMove 127 = .ok (.iload 5, 2) := by decide +kernel
theorem dX0_bestMove_129 : decode cX0_bestMove 129 = .ok (.iadd, 1) := by decide +kernel
theorem dX0_bestMove_130 : decode cX0_bestMove 130 = .ok (.ireturn, 1) := by decide +kernel
theorem dX0_bestMove_131 : decode cX0_bestMove 131 = .ok (.iinc 5 1, 3) := by decide +kernel
theorem dX0_bestMove_134 : decode cX0_bestMove 134 = .ok (.goto (-57), 3) := by decide +kernel
theorem dX0_bestMove_137 : decode cX0_bestMove 137 = .ok (.iconst (-1), 1) := by decide +kernel
theorem dX0_bestMove_138 : decode cX0_bestMove 138 = .ok (.ireturn, 1) := by decide +kernel
theorem dX0_canReach_0 : decode cX0_canReach 0 = .ok (.aload_n 0, 1) := by decide +kernel
theorem dX0_canReach_1 : decode cX0_canReach 1 = .ok (.getfield 18, 3) := by decide +kernel
theorem dX0_canReach_4 : decode cX0_canReach 4 = .ok (.iload_n 1, 1) := by decide +kernel
theorem dX0_canReach_5 : decode cX0_canReach 5 = .ok (.iload_n 3, 1) := by decide +kernel
theorem dX0_canReach_6 : decode cX0_canReach 6 = .ok (.invokevirtual 39, 3) := by decide +kernel
theorem dX0_canReach_9 : decode cX0_canReach 9 = .ok (.istore 5, 2) := by decide +kernel
theorem dX0_canReach_11 : decode cX0_canReach 11 = .ok (.iconst 0, 1) := by decide +kernel
theorem dX0_canReach_12 : decode cX0_canReach 12 = .ok (.istore 6, 2) := by decide +kernel
theorem dX0_canReach_14 : decode cX0_canReach 14 = .ok (.iload 6, 2) := by decide +kernel
theorem dX0_canReach_16 : decode cX0_canReach 16 = .ok (.iload_n 1, 1) := by decide +kernel
theorem dX0_canReach_17 : decode cX0_canReach 17 = .ok (.if_icmp .ge 41, 3) := by decide +kernel
theorem dX0_canReach_20 : decode cX0_canReach 20 = .ok (.iload 6, 2) := by decide +kernel
theorem dX0_canReach_22 : decode cX0_canReach 22 = .ok (.aload 4, 2) := by decide +kernel
theorem dX0_canReach_24 : decode cX0_canReach 24 = .ok (.arraylength, 1) := by decide +kernel
theorem dX0_canReach_25 : decode cX0_canReach 25 = .ok (.if_icmp .ge 33, 3) := by decide +kernel
theorem dX0_canReach_28 : decode cX0_canReach 28 = .ok (.iload 5, 2) := by decide +kernel
theorem dX0_canReach_30 : decode cX0_canReach 30 = .ok (.iload 6, 2) := by decide +kernel
theorem dX0_canReach_32 : decode cX0_canReach 32 = .ok (.ishr, 1) := by decide +kernel
theorem dX0_canReach_33 : decode cX0_canReach 33 = .ok (.iconst 1, 1) := by decide +kernel
theorem dX0_canReach_34 : decode cX0_canReach 34 = .ok (.iand, 1) := by decide +kernel
theorem dX0_canReach_35 : decode cX0_canReach 35 = .ok (.ifCond .eq 17, 3) := by decide +kernel
theorem dX0_canReach_38 : decode cX0_canReach 38 = .ok (.aload 4, 2) := by decide +kernel
theorem dX0_canReach_40 : decode cX0_canReach 40 = .ok (.iload 6, 2) := by decide +kernel
theorem dX0_canReach_42 : decode cX0_canReach 42 = .ok (.iaload, 1) := by decide +kernel
theorem dX0_canReach_43 : decode cX0_canReach 43 = .ok (.iload_n 2, 1) := by decide +kernel
theorem dX0_canReach_44 : decode cX0_canReach 44 = .ok (.ishr, 1) := by decide +kernel
theorem dX0_canReach_45 : decode cX0_canReach 45 = .ok (.iconst 1, 1) := by decide +kernel
theorem dX0_canReach_46 : decode cX0_canReach 46 = .ok (.iand, 1) := by decide +kernel
theorem dX0_canReach_47 : decode cX0_canReach 47 = .ok (.ifCond .eq 5, 3) := by decide +kernel
theorem dX0_canReach_50 : decode cX0_canReach 50 = .ok (.iconst 1, 1) := by decide +kernel
theorem dX0_canReach_51 : decode cX0_canReach 51 = .ok (.ireturn, 1) := by decide +kernel
theorem dX0_canReach_52 : decode cX0_canReach 52 = .ok (.iinc 6 1, 3) := by decide +kernel
theorem dX0_canReach_55 : decode cX0_canReach 55 = .ok (.goto (-41), 3) := by decide +kernel
theorem dX0_canReach_58 : decode cX0_canReach 58 = .ok (.aload_n 0, 1) := by decide +kernel
theorem dX0_canReach_59 : decode cX0_canReach 59 = .ok (.getfield 22, 3) := by decide +kernel
theorem dX0_canReach_62 : decode cX0_canReach 62 = .ok (.iload_n 2, 1) := by decide +kernel
theorem dX0_canReach_63 : decode cX0_canReach 63 = .ok (.aload_n 0, 1) := by decide +kernel
theorem dX0_canReach_64 : decode cX0_canReach 64 = .ok (.getfield 25, 3) := by decide +kernel
theorem dX0_canReach_67 : decode cX0_canReach 67 = .ok (.ifCond .eq 9, 3) := by decide +kernel
theorem dX0_canReach_70 : decode cX0_canReach 70 = .ok (.iconst 1, 1) := by decide +kernel
theorem dX0_canReach_71 : decode cX0_canReach 71 = .ok (.iload_n 3, 1) := by decide +kernel
theorem dX0_canReach_72 : decode cX0_canReach 72 = .ok (.isub, 1) := by decide +kernel
theorem dX0_canReach_73 : decode cX0_canReach 73 = .ok (.goto 4, 3) := by decide +kernel
theorem dX0_canReach_76 : decode cX0_canReach 76 = .ok (.iload_n 3, 1) := by decide +kernel
theorem dX0_canReach_77 : decode cX0_canReach 77 = .ok (.invokevirtual 39, 3) := by decide +kernel
theorem dX0_canReach_80 : decode cX0_canReach 80 = .ok (.istore 6, 2) := by decide +kernel
theorem dX0_canReach_82 : decode cX0_canReach 82 = .ok (.iload_n 1, 1) := by decide +kernel
theorem dX0_canReach_83 : decode cX0_canReach 83 = .ok (.ifCond .lt 24, 3) := by decide +kernel
theorem dX0_canReach_86 : decode cX0_canReach 86 = .ok (.iload_n 1, 1) := by decide +kernel
theorem dX0_canReach_87 : decode cX0_canReach 87 = .ok (.aload 4, 2) := by decide +kernel
theorem dX0_canReach_89 : decode cX0_canReach 89 = .ok (.arraylength, 1) := by decide +kernel
theorem dX0_canReach_90 : decode cX0_canReach 90 = .ok (.if_icmp .ge 17, 3) := by decide +kernel
theorem dX0_canReach_93 : decode cX0_canReach 93 = .ok (.aload 4, 2) := by decide +kernel
theorem dX0_canReach_95 : decode cX0_canReach 95 = .ok (.iload_n 1, 1) := by decide +kernel
theorem dX0_canReach_96 : decode cX0_canReach 96 = .ok (.iaload, 1) := by decide +kernel
theorem dX0_canReach_97 : decode cX0_canReach 97 = .ok (.iload 6, 2) := by decide +kernel
theorem dX0_canReach_99 : decode cX0_canReach 99 = .ok (.iand, 1) := by decide +kernel
theorem dX0_canReach_100 : decode cX0_canReach 100 = .ok (.ifCond .eq 7, 3) := by decide +kernel
theorem dX0_canReach_103 : decode cX0_canReach 103 = .ok (.iconst 1, 1) := by decide +kernel
theorem dX0_canReach_104 : decode cX0_canReach 104 = .ok (.goto 4, 3) := by decide +kernel
theorem dX0_canReach_107 : decode cX0_canReach 107 = .ok (.iconst 0, 1) := by decide +kernel
theorem dX0_canReach_108 : decode cX0_canReach 108 = .ok (.ireturn, 1) := by decide +kernel
theorem dX0_fill_0 : decode cX0_fill 0 = .ok (.aload_n 0, 1) := by decide +kernel
theorem dX0_fill_1 : decode cX0_fill 1 = .ok (.aload_n 1, 1) := by decide +kernel
theorem dX0_fill_2 : decode cX0_fill 2 = .ok (.putfield 18, 3) := by decide +kernel
theorem dX0_fill_5 : decode cX0_fill 5 = .ok (.aload_n 0, 1) := by decide +kernel
theorem dX0_fill_6 : decode cX0_fill 6 = .ok (.aload_n 2, 1) := by decide +kernel
theorem dX0_fill_7 : decode cX0_fill 7 = .ok (.putfield 22, 3) := by decide +kernel
theorem dX0_fill_10 : decode cX0_fill 10 = .ok (.aload_n 0, 1) := by decide +kernel
theorem dX0_fill_11 : decode cX0_fill 11 = .ok (.iload_n 3, 1) := by decide +kernel
theorem dX0_fill_12 : decode cX0_fill 12 = .ok (.putfield 25, 3) := by decide +kernel
theorem dX0_fill_15 : decode cX0_fill 15 = .ok (.iconst 0, 1) := by decide +kernel
theorem dX0_fill_16 : decode cX0_fill 16 = .ok (.istore 4, 2) := by decide +kernel
theorem dX0_fill_18 : decode cX0_fill 18 = .ok (.iload 4, 2) := by decide +kernel
theorem dX0_fill_20 : decode cX0_fill 20 = .ok (.aload_n 1, 1) := by decide +kernel
theorem dX0_fill_21 : decode cX0_fill 21 = .ok (.invokevirtual 29, 3) := by decide +kernel
theorem dX0_fill_24 : decode cX0_fill 24 = .ok (.if_icmp .ge 117, 3) := by decide +kernel
theorem dX0_fill_27 : decode cX0_fill 27 = .ok (.iload 4, 2) := by decide +kernel
theorem dX0_fill_29 : decode cX0_fill 29 = .ok (.bipush 11, 2) := by decide +kernel
theorem dX0_fill_31 : decode cX0_fill 31 = .ok (.if_icmp .ge 110, 3) := by decide +kernel
theorem dX0_fill_34 : decode cX0_fill 34 = .ok (.aload_n 0, 1) := by decide +kernel
theorem dX0_fill_35 : decode cX0_fill 35 = .ok (.getfield 11, 3) := by decide +kernel
theorem dX0_fill_38 : decode cX0_fill 38 = .ok (.iload 4, 2) := by decide +kernel
theorem dX0_fill_40 : decode cX0_fill 40 = .ok (.iconst 0, 1) := by decide +kernel
theorem dX0_fill_41 : decode cX0_fill 41 = .ok (.iastore, 1) := by decide +kernel
theorem dX0_fill_42 : decode cX0_fill 42 = .ok (.aload_n 0, 1) := by decide +kernel
theorem dX0_fill_43 : decode cX0_fill 43 = .ok (.getfield 15, 3) := by decide +kernel
theorem dX0_fill_46 : decode cX0_fill 46 = .ok (.iload 4, 2) := by decide +kernel
theorem dX0_fill_48 : decode cX0_fill 48 = .ok (.iconst 0, 1) := by decide +kernel
theorem dX0_fill_49 : decode cX0_fill 49 = .ok (.iastore, 1) := by decide +kernel
theorem dX0_fill_50 : decode cX0_fill 50 = .ok (.iconst 0, 1) := by decide +kernel
theorem dX0_fill_51 : decode cX0_fill 51 = .ok (.istore 5, 2) := by decide +kernel
theorem dX0_fill_53 : decode cX0_fill 53 = .ok (.iload 5, 2) := by decide +kernel
theorem dX0_fill_55 : decode cX0_fill 55 = .ok (.aload_n 2, 1) := by decide +kernel
theorem dX0_fill_56 : decode cX0_fill 56 = .ok (.invokevirtual 29, 3) := by decide +kernel
theorem dX0_fill_59 : decode cX0_fill 59 = .ok (.if_icmp .ge 76, 3) := by decide +kernel
theorem dX0_fill_62 : decode cX0_fill 62 = .ok (.iload 5, 2) := by decide +kernel
theorem dX0_fill_64 : decode cX0_fill 64 = .ok (.bipush 11, 2) := by decide +kernel
theorem dX0_fill_66 : decode cX0_fill 66 = .ok (.if_icmp .ge 69, 3) := by decide +kernel
theorem dX0_fill_69 : decode cX0_fill 69 = .ok (.aload_n 0, 1) := by decide +kernel
theorem dX0_fill_70 : decode cX0_fill 70 = .ok (.iload 4, 2) := by decide +kernel
theorem dX0_fill_72 : decode cX0_fill 72 = .ok (.iload 5, 2) := by decide +kernel
theorem dX0_fill_74 : decode cX0_fill 74 = .ok (.iconst 1, 1) := by decide +kernel
theorem dX0_fill_75 : decode cX0_fill 75 = .ok (.aload_n 0, 1) := by decide +kernel
theorem dX0_fill_76 : decode cX0_fill 76 = .ok (.getfield 15, 3) := by decide +kernel
theorem dX0_fill_79 : decode cX0_fill 79 = .ok (.invokevirtual 35, 3) := by decide +kernel
theorem dX0_fill_82 : decode cX0_fill 82 = .ok (.ifCond .ne 17, 3) := by decide +kernel
theorem dX0_fill_85 : decode cX0_fill 85 = .ok (.aload_n 0, 1) := by decide +kernel
theorem dX0_fill_86 : decode cX0_fill 86 = .ok (.getfield 11, 3) := by decide +kernel
theorem dX0_fill_89 : decode cX0_fill 89 = .ok (.iload 4, 2) := by decide +kernel
theorem dX0_fill_91 : decode cX0_fill 91 = .ok (.dup2, 1) := by decide +kernel
theorem dX0_fill_92 : decode cX0_fill 92 = .ok (.iaload, 1) := by decide +kernel
theorem dX0_fill_93 : decode cX0_fill 93 = .ok (.iconst 1, 1) := by decide +kernel
theorem dX0_fill_94 : decode cX0_fill 94 = .ok (.iload 5, 2) := by decide +kernel
theorem dX0_fill_96 : decode cX0_fill 96 = .ok (.ishl, 1) := by decide +kernel
theorem dX0_fill_97 : decode cX0_fill 97 = .ok (.ior, 1) := by decide +kernel
theorem dX0_fill_98 : decode cX0_fill 98 = .ok (.iastore, 1) := by decide +kernel
theorem dX0_fill_99 : decode cX0_fill 99 = .ok (.aload_n 0, 1) := by decide +kernel
theorem dX0_fill_100 : decode cX0_fill 100 = .ok (.iload 4, 2) := by decide +kernel
theorem dX0_fill_102 : decode cX0_fill 102 = .ok (.iload 5, 2) := by decide +kernel
theorem dX0_fill_104 : decode cX0_fill 104 = .ok (.iconst 0, 1) := by decide +kernel
theorem dX0_fill_105 : decode cX0_fill 105 = .ok (.aload_n 0, 1) := by decide +kernel
theorem dX0_fill_106 : decode cX0_fill 106 = .ok (.getfield 11, 3) := by decide +kernel
theorem dX0_fill_109 : decode cX0_fill 109 = .ok (.invokevirtual 35, 3) := by decide +kernel
theorem dX0_fill_112 : decode cX0_fill 112 = .ok (.ifCond .ne 17, 3) := by decide +kernel
theorem dX0_fill_115 : decode cX0_fill 115 = .ok (.aload_n 0, 1) := by decide +kernel
theorem dX0_fill_116 : decode cX0_fill 116 = .ok (.getfield 15, 3) := by decide +kernel
theorem dX0_fill_119 : decode cX0_fill 119 = .ok (.iload 4, 2) := by decide +kernel
theorem dX0_fill_121 : decode cX0_fill 121 = .ok (.dup2, 1) := by decide +kernel
theorem dX0_fill_122 : decode cX0_fill 122 = .ok (.iaload, 1) := by decide +kernel
theorem dX0_fill_123 : decode cX0_fill 123 = .ok (.iconst 1, 1) := by decide +kernel
theorem dX0_fill_124 : decode cX0_fill 124 = .ok (.iload 5, 2) := by decide +kernel
theorem dX0_fill_126 : decode cX0_fill 126 = .ok (.ishl, 1) := by decide +kernel
theorem dX0_fill_127 : decode cX0_fill 127 = .ok (.ior, 1) := by decide +kernel
theorem dX0_fill_128 : decode cX0_fill 128 = .ok (.iastore, 1) := by decide +kernel
theorem dX0_fill_129 : decode cX0_fill 129 = .ok (.iinc 5 1, 3) := by decide +kernel
theorem dX0_fill_132 : decode cX0_fill 132 = .ok (.goto (-79), 3) := by decide +kernel
theorem dX0_fill_135 : decode cX0_fill 135 = .ok (.iinc 4 1, 3) := by decide +kernel
theorem dX0_fill_138 : decode cX0_fill 138 = .ok (.goto (-120), 3) := by decide +kernel
theorem dX0_fill_141 : decode cX0_fill 141 = .ok (.return_, 1) := by decide +kernel
theorem dX0_firstMove_0 : decode cX0_firstMove 0 = .ok (.aload_n 0, 1) := by decide +kernel
theorem dX0_firstMove_1 : decode cX0_firstMove 1 = .ok (.getfield 18, 3) := by decide +kernel
theorem dX0_firstMove_4 : decode cX0_firstMove 4 = .ok (.iload_n 1, 1) := by decide +kernel
theorem dX0_firstMove_5 : decode cX0_firstMove 5 = .ok (.iload_n 3, 1) := by decide +kernel
theorem dX0_firstMove_6 : decode cX0_firstMove 6 = .ok (.invokevirtual 39, 3) := by decide +kernel
theorem dX0_firstMove_9 : decode cX0_firstMove 9 = .ok (.ifCond .eq 5, 3) := by decide +kernel
theorem dX0_firstMove_12 : decode cX0_firstMove 12 = .ok (.iconst 0, 1) := by decide +kernel
theorem dX0_firstMove_13 : decode cX0_firstMove 13 = .ok (.ireturn, 1) := by decide +kernel
theorem dX0_firstMove_14 : decode cX0_firstMove 14 = .ok (.aload_n 0, 1) := by decide +kernel
theorem dX0_firstMove_15 : decode cX0_firstMove 15 = .ok (.getfield 22, 3) := by decide +kernel
theorem dX0_firstMove_18 : decode cX0_firstMove 18 = .ok (.iload_n 2, 1) := by decide +kernel
theorem dX0_firstMove_19 : decode cX0_firstMove 19 = .ok (.iload_n 3, 1) := by decide +kernel
theorem dX0_firstMove_20 : decode cX0_firstMove 20 = .ok (.invokevirtual 39, 3) := by decide +kernel
theorem dX0_firstMove_23 : decode cX0_firstMove 23 = .ok (.ifCond .eq 8, 3) := by decide +kernel
theorem dX0_firstMove_26 : decode cX0_firstMove 26 = .ok (.bipush 32, 2) := by decide +kernel
theorem dX0_firstMove_28 : decode cX0_firstMove 28 = .ok (.goto 4, 3) := by decide +kernel
theorem dX0_firstMove_31 : decode cX0_firstMove 31 = .ok (.iconst (-1), 1) := by decide +kernel
theorem dX0_firstMove_32 : decode cX0_firstMove 32 = .ok (.ireturn, 1) := by decide +kernel
theorem dX0_fought_0 : decode cX0_fought 0 = .ok (.aload_n 0, 1) := by decide +kernel
theorem dX0_fought_1 : decode cX0_fought 1 = .ok (.getfield 18, 3) := by decide +kernel
theorem dX0_fought_4 : decode cX0_fought 4 = .ok (.invokevirtual 47, 3) := by decide +kernel
theorem dX0_fought_7 : decode cX0_fought 7 = .ok (.istore_n 2, 1) := by decide +kernel
theorem dX0_fought_8 : decode cX0_fought 8 = .ok (.aload_n 0, 1) := by decide +kernel
theorem dX0_fought_9 : decode cX0_fought 9 = .ok (.getfield 22, 3) := by decide +kernel
theorem dX0_fought_12 : decode cX0_fought 12 = .ok (.invokevirtual 47, 3) := by decide +kernel
theorem dX0_fought_15 : decode cX0_fought 15 = .ok (.istore_n 3, 1) := by decide +kernel
theorem dX0_fought_16 : decode cX0_fought 16 = .ok (.iconst 0, 1) := by decide +kernel
theorem dX0_fought_17 : decode cX0_fought 17 = .ok (.istore 4, 2) := by decide +kernel
theorem dX0_fought_19 : decode cX0_fought 19 = .ok (.iload 4, 2) := by decide +kernel
theorem dX0_fought_21 : decode cX0_fought 21 = .ok (.bipush 22, 2) := by decide +kernel
theorem dX0_fought_23 : decode cX0_fought 23 = .ok (.if_icmp .ge 93, 3) := by decide +kernel
theorem dX0_fought_26 : decode cX0_fought 26 = .ok (.iload_n 1, 1) := by decide +kernel
theorem dX0_fought_27 : decode cX0_fought 27 = .ok (.iload 4, 2) := by decide +kernel
theorem dX0_fought_29 : decode cX0_fought 29 = .ok (.iadd, 1) := by decide +kernel
theorem dX0_fought_30 : decode cX0_fought 30 = .ok (.iconst 1, 1) := by decide +kernel
theorem dX0_fought_31 : decode cX0_fought 31 = .ok (.iand, 1) := by decide +kernel
theorem dX0_fought_32 : decode cX0_fought 32 = .ok (.istore 5, 2) := by decide +kernel
theorem dX0_fought_34 : decode cX0_fought 34 = .ok (.aload_n 0, 1) := by decide +kernel
theorem dX0_fought_35 : decode cX0_fought 35 = .ok (.iload_n 2, 1) := by decide +kernel
theorem dX0_fought_36 : decode cX0_fought 36 = .ok (.iload_n 3, 1) := by decide +kernel
theorem dX0_fought_37 : decode cX0_fought 37 = .ok (.iload 5, 2) := by decide +kernel
theorem dX0_fought_39 : decode cX0_fought 39 = .ok (.invokevirtual 50, 3) := by decide +kernel
theorem dX0_fought_42 : decode cX0_fought 42 = .ok (.istore 6, 2) := by decide +kernel
theorem dX0_fought_44 : decode cX0_fought 44 = .ok (.iload 6, 2) := by decide +kernel
theorem dX0_fought_46 : decode cX0_fought 46 = .ok (.ifCond .ge 13, 3) := by decide +kernel
theorem dX0_fought_49 : decode cX0_fought 49 = .ok (.aload_n 0, 1) := by decide +kernel
theorem dX0_fought_50 : decode cX0_fought 50 = .ok (.iload_n 2, 1) := by decide +kernel
theorem dX0_fought_51 : decode cX0_fought 51 = .ok (.iload_n 3, 1) := by decide +kernel
theorem dX0_fought_52 : decode cX0_fought 52 = .ok (.iload 5, 2) := by decide +kernel
theorem dX0_fought_54 : decode cX0_fought 54 = .ok (.invokevirtual 53, 3) := by decide +kernel
theorem dX0_fought_57 : decode cX0_fought 57 = .ok (.istore 6, 2) := by decide +kernel
theorem dX0_fought_59 : decode cX0_fought 59 = .ok (.iload 6, 2) := by decide +kernel
theorem dX0_fought_61 : decode cX0_fought 61 = .ok (.ifCond .ge 6, 3) := by decide +kernel
theorem dX0_fought_64 : decode cX0_fought 64 = .ok (.goto 52, 3) := by decide +kernel
theorem dX0_fought_67 : decode cX0_fought 67 = .ok (.iload 6, 2) := by decide +kernel
theorem dX0_fought_69 : decode cX0_fought 69 = .ok (.invokestatic 56, 3) := by decide +kernel
theorem dX0_fought_72 : decode cX0_fought 72 = .ok (.ifCond .ne 22, 3) := by decide +kernel
theorem dX0_fought_75 : decode cX0_fought 75 = .ok (.aload_n 0, 1) := by decide +kernel
theorem dX0_fought_76 : decode cX0_fought 76 = .ok (.getfield 18, 3) := by decide +kernel
theorem dX0_fought_79 : decode cX0_fought 79 = .ok (.iload_n 2, 1) := by decide +kernel
theorem dX0_fought_80 : decode cX0_fought 80 = .ok (.iload 5, 2) := by decide +kernel
theorem dX0_fought_82 : decode cX0_fought 82 = .ok (.iload 6, 2) := by decide +kernel
theorem dX0_fought_84 : decode cX0_fought 84 = .ok (.invokestatic 60, 3) := by decide +kernel
theorem dX0_fought_87 : decode cX0_fought 87 = .ok (.invokevirtual 43, 3) := by decide +kernel
theorem dX0_fought_90 : decode cX0_fought 90 = .ok (.istore_n 2, 1) := by decide +kernel
theorem dX0_fought_91 : decode cX0_fought 91 = .ok (.goto 19, 3) := by decide +kernel
theorem dX0_fought_94 : decode cX0_fought 94 = .ok (.aload_n 0, 1) := by decide +kernel
theorem dX0_fought_95 : decode cX0_fought 95 = .ok (.getfield 22, 3) := by decide +kernel
theorem dX0_fought_98 : decode cX0_fought 98 = .ok (.iload_n 3, 1) := by decide +kernel
theorem dX0_fought_99 : decode cX0_fought 99 = .ok (.iload 5, 2) := by decide +kernel
theorem dX0_fought_101 : decode cX0_fought 101 = .ok (.iload 6, 2) := by decide +kernel
theorem dX0_fought_103 : decode cX0_fought 103 = .ok (.invokestatic 60, 3) := by decide +kernel
theorem dX0_fought_106 : decode cX0_fought 106 = .ok (.invokevirtual 43, 3) := by decide +kernel
theorem dX0_fought_109 : decode cX0_fought 109 = .ok (.istore_n 3, 1) := by decide +kernel
theorem dX0_fought_110 : decode cX0_fought 110 = .ok (.iinc 4 1, 3) := by decide +kernel
theorem dX0_fought_113 : decode cX0_fought 113 = .ok (.goto (-94), 3) := by decide +kernel
theorem dX0_fought_116 : decode cX0_fought 116 = .ok (.iload 4, 2) := by decide +kernel
theorem dX0_fought_118 : decode cX0_fought 118 = .ok (.ireturn, 1) := by decide +kernel
theorem dX0_gameOf_0 : decode cX0_gameOf 0 = .ok (.iload_n 0, 1) := by decide +kernel
theorem dX0_gameOf_1 : decode cX0_gameOf 1 = .ok (.bipush 32, 2) := by decide +kernel
theorem dX0_gameOf_3 : decode cX0_gameOf 3 = .ok (.if_icmp .lt 7, 3) := by decide +kernel
theorem dX0_gameOf_6 : decode cX0_gameOf 6 = .ok (.iconst 1, 1) := by decide +kernel
theorem dX0_gameOf_7 : decode cX0_gameOf 7 = .ok (.goto 4, 3) := by decide +kernel
theorem dX0_gameOf_10 : decode cX0_gameOf 10 = .ok (.iconst 0, 1) := by decide +kernel
theorem dX0_gameOf_11 : decode cX0_gameOf 11 = .ok (.ireturn, 1) := by decide +kernel
theorem dX0_numberOf_0 : decode cX0_numberOf 0 = .ok (.iload_n 0, 1) := by decide +kernel
theorem dX0_numberOf_1 : decode cX0_numberOf 1 = .ok (.bipush 31, 2) := by decide +kernel
theorem dX0_numberOf_3 : decode cX0_numberOf 3 = .ok (.iand, 1) := by decide +kernel
theorem dX0_numberOf_4 : decode cX0_numberOf 4 = .ok (.ireturn, 1) := by decide +kernel
theorem dX0_verdict_0 : decode cX0_verdict 0 = .ok (.iload_n 1, 1) := by decide +kernel
theorem dX0_verdict_1 : decode cX0_verdict 1 = .ok (.ifCond .lt 19, 3) := by decide +kernel
theorem dX0_verdict_4 : decode cX0_verdict 4 = .ok (.iload_n 1, 1) := by decide +kernel
theorem dX0_verdict_5 : decode cX0_verdict 5 = .ok (.bipush 11, 2) := by decide +kernel
theorem dX0_verdict_7 : decode cX0_verdict 7 = .ok (.if_icmp .ge 13, 3) := by decide +kernel
theorem dX0_verdict_10 : decode cX0_verdict 10 = .ok (.iload_n 2, 1) := by decide +kernel
theorem dX0_verdict_11 : decode cX0_verdict 11 = .ok (.ifCond .lt 9, 3) := by decide +kernel
theorem dX0_verdict_14 : decode cX0_verdict 14 = .ok (.iload_n 2, 1) := by decide +kernel
theorem dX0_verdict_15 : decode cX0_verdict 15 = .ok (.bipush 11, 2) := by decide +kernel
theorem dX0_verdict_17 : decode cX0_verdict 17 = .ok (.if_icmp .lt 5, 3) := by decide +kernel
theorem dX0_verdict_20 : decode cX0_verdict 20 = .ok (.iconst 0, 1) := by decide +kernel
theorem dX0_verdict_21 : decode cX0_verdict 21 = .ok (.ireturn, 1) := by decide +kernel
theorem dX0_verdict_22 : decode cX0_verdict 22 = .ok (.aload_n 0, 1) := by decide +kernel
theorem dX0_verdict_23 : decode cX0_verdict 23 = .ok (.getfield 11, 3) := by decide +kernel
theorem dX0_verdict_26 : decode cX0_verdict 26 = .ok (.iload_n 1, 1) := by decide +kernel
theorem dX0_verdict_27 : decode cX0_verdict 27 = .ok (.iaload, 1) := by decide +kernel
theorem dX0_verdict_28 : decode cX0_verdict 28 = .ok (.iload_n 2, 1) := by decide +kernel
theorem dX0_verdict_29 : decode cX0_verdict 29 = .ok (.ishr, 1) := by decide +kernel
theorem dX0_verdict_30 : decode cX0_verdict 30 = .ok (.iconst 1, 1) := by decide +kernel
theorem dX0_verdict_31 : decode cX0_verdict 31 = .ok (.iand, 1) := by decide +kernel
theorem dX0_verdict_32 : decode cX0_verdict 32 = .ok (.ifCond .eq 7, 3) := by decide +kernel
theorem dX0_verdict_35 : decode cX0_verdict 35 = .ok (.iconst 1, 1) := by decide +kernel
theorem dX0_verdict_36 : decode cX0_verdict 36 = .ok (.goto 4, 3) := by decide +kernel
theorem dX0_verdict_39 : decode cX0_verdict 39 = .ok (.iconst 0, 1) := by decide +kernel
theorem dX0_verdict_40 : decode cX0_verdict 40 = .ok (.istore_n 3, 1) := by decide +kernel
theorem dX0_verdict_41 : decode cX0_verdict 41 = .ok (.aload_n 0, 1) := by decide +kernel
theorem dX0_verdict_42 : decode cX0_verdict 42 = .ok (.getfield 15, 3) := by decide +kernel
theorem dX0_verdict_45 : decode cX0_verdict 45 = .ok (.iload_n 1, 1) := by decide +kernel
theorem dX0_verdict_46 : decode cX0_verdict 46 = .ok (.iaload, 1) := by decide +kernel
theorem dX0_verdict_47 : decode cX0_verdict 47 = .ok (.iload_n 2, 1) := by decide +kernel
theorem dX0_verdict_48 : decode cX0_verdict 48 = .ok (.ishr, 1) := by decide +kernel
theorem dX0_verdict_49 : decode cX0_verdict 49 = .ok (.iconst 1, 1) := by decide +kernel
theorem dX0_verdict_50 : decode cX0_verdict 50 = .ok (.iand, 1) := by decide +kernel
theorem dX0_verdict_51 : decode cX0_verdict 51 = .ok (.ifCond .eq 7, 3) := by decide +kernel
theorem dX0_verdict_54 : decode cX0_verdict 54 = .ok (.iconst 1, 1) := by decide +kernel
theorem dX0_verdict_55 : decode cX0_verdict 55 = .ok (.goto 4, 3) := by decide +kernel
theorem dX0_verdict_58 : decode cX0_verdict 58 = .ok (.iconst 0, 1) := by decide +kernel
theorem dX0_verdict_59 : decode cX0_verdict 59 = .ok (.istore 4, 2) := by decide +kernel
theorem dX0_verdict_61 : decode cX0_verdict 61 = .ok (.iload_n 3, 1) := by decide +kernel
theorem dX0_verdict_62 : decode cX0_verdict 62 = .ok (.ifCond .eq 14, 3) := by decide +kernel
theorem dX0_verdict_65 : decode cX0_verdict 65 = .ok (.iload 4, 2) := by decide +kernel
theorem dX0_verdict_67 : decode cX0_verdict 67 = .ok (.ifCond .eq 7, 3) := by decide +kernel
theorem dX0_verdict_70 : decode cX0_verdict 70 = .ok (.iconst 0, 1) := by decide +kernel
theorem dX0_verdict_71 : decode cX0_verdict 71 = .ok (.goto 4, 3) := by decide +kernel
theorem dX0_verdict_74 : decode cX0_verdict 74 = .ok (.iconst 1, 1) := by decide +kernel
theorem dX0_verdict_75 : decode cX0_verdict 75 = .ok (.ireturn, 1) := by decide +kernel
theorem dX0_verdict_76 : decode cX0_verdict 76 = .ok (.iload 4, 2) := by decide +kernel
theorem dX0_verdict_78 : decode cX0_verdict 78 = .ok (.ifCond .eq 7, 3) := by decide +kernel
theorem dX0_verdict_81 : decode cX0_verdict 81 = .ok (.iconst (-1), 1) := by decide +kernel
theorem dX0_verdict_82 : decode cX0_verdict 82 = .ok (.goto 4, 3) := by decide +kernel
theorem dX0_verdict_85 : decode cX0_verdict 85 = .ok (.iconst 2, 1) := by decide +kernel
theorem dX0_verdict_86 : decode cX0_verdict 86 = .ok (.ireturn, 1) := by decide +kernel
/-- X0 canReach (III[I)Z -/
def f_X0_canReach (n : Nat) (p1 : Int) (p2 : Int) (p3 : Int) (p4 : Nat) (mi : Mem) : Option Rz :=
  gtG mi 33 2 fun x1 =>
  isD x1 <|
  isG mi x1 <| cal (f_X1_options n x1 p1 p3 mi) fun x6 m6 =>
  lp (F := Int → Mem → Option Rz) (fun _ _ => none) (fun w14 v6_14 m14 =>
    jn (fun (m58 : Mem) =>
      gtG m58 33 3 fun x59 =>
      gtF m58 33 4 fun x64 =>
      jn (fun (s0_77 : Int) (m77 : Mem) =>
        isD x59 <|
        isG m77 x59 <| cal (f_X1_options n x59 p2 s0_77 m77) fun x77 m77 =>
        jn (fun (s0_108 : Int) (m108 : Mem) =>
          rtZ s0_108 m108
        ) fun (j108 : Int → Mem → Option Rz) =>
        jn (fun (m107 : Mem) =>
          j108 0 m107
        ) fun (j107 : Mem → Option Rz) =>
        if p1 < 0 then (
          j107 m77
        ) else
        lenA m77 p4 fun x89 =>
        if p1 < x89 then (
          ldI m77 p4 p1 fun x96 =>
          if iand x96 x77 = 0 then (
            j107 m77
          ) else
          j108 1 m77
        ) else
        j107 m77
      ) fun (j77 : Int → Mem → Option Rz) =>
      if x64 = 0 then (
        j77 p3 m58
      ) else
      j77 (w32 (1 - p3)) m58
    ) fun (j58 : Mem → Option Rz) =>
    if v6_14 < p1 then (
      lenA m14 p4 fun x24 =>
      if v6_14 < x24 then (
        jn (fun (m52 : Mem) =>
          w14 (w32 (v6_14 + 1)) m52
        ) fun (j52 : Mem → Option Rz) =>
        if iand (ishr x6 v6_14) 1 = 0 then (
          j52 m14
        ) else
        ldI m14 p4 v6_14 fun x42 =>
        if iand (ishr x42 p2) 1 = 0 then (
          j52 m14
        ) else
        rtZ 1 m14
      ) else
      j58 m14
    ) else
    j58 m14
  ) n 0 m6
set_option maxRecDepth 100000 in
set_option maxHeartbeats 4000000 in
theorem s_X0_canReach (l : Launch) (sc : g_S) (E : Mem → g_H) (R : Nat → Prop) (hE : LE E R) (hR : RCL R) (n : Nat)  (p1 : Int) (p2 : Int) (p3 : Int) (p4 : Nat) (hp1 : inR p1) (hp2 : inR p2) (hp3 : inR p3) (hp4 : R p4) (mi : Mem) (r : Rz) (H : f_X0_canReach n p1 p2 p3 p4 mi = some r) : AMet l sc yX0_canReach cX0_canReach 7 (some FieldType.boolean) 1 0 0 [.ref 33, iv p1, iv p2, iv p3, .ref p4] (E mi) (pI E r) := by
  have r33 : R 33 := hR.1 33 (Nat.le_of_ble_eq_true rfl) (Nat.le_of_ble_eq_true rfl)
  unfold f_X0_canReach at H
  refine AMet.of (own := RX0) (by decide +kernel) rfl (Nat.le_of_ble_eq_true rfl) [(0, .ref 33), (1, iv p1), (2, iv p2), (3, iv p3), (4, .ref p4)] rfl (fun D base ad => ?_)
  refine aw_aload_n (pc := 0) dX0_canReach_0 rfl ?_
  refine cx_gtG (pc := 1) hE r33 fl_X0_18 rfl rfl (Nat.le_of_ble_eq_true rfl) dX0_canReach_1 H (fun x1 H => ?_)
  refine aw_iload_n (pc := 4) dX0_canReach_4 rfl ?_
  refine aw_iload_n (pc := 5) dX0_canReach_5 rfl ?_
  refine cx_nn2 H (fun hg6_1 H => ?_)
  refine cx_callG (pc := 6) (P := pI) (dC := 0) (mcC := 0) (msC := 0) [iv p1, iv p3] hE hR.d (fun r1 H1 => s_X1_options l sc E R hE hR.d n x1 p1 p3 hg6_1 hp1 hp3 mi r1 H1) ca_X0_39 ⟨_, rfl, rfl⟩ rfl rfl (Nat.le_of_ble_eq_true rfl) (Nat.le_of_ble_eq_true rfl) (Nat.le_of_ble_eq_true rfl) (Nat.le_of_ble_eq_true rfl) dX0_canReach_6 H (fun x6 m6 v6 hh6 H hp => ?_)
  refine cx_backI hp (fun hx6 => ?_)
  refine aw_istore (pc := 9) [(5, iv x6), (0, .ref 33), (1, iv p1), (2, iv p2), (3, iv p3), (4, .ref p4)] dX0_canReach_9 rfl (by decide) ?_
  refine cx_iconst (pc := 11) dX0_canReach_11 ?_
  refine aw_istore (pc := 12) [(6, iv 0), (5, iv x6), (0, .ref 33), (1, iv p1), (2, iv p2), (3, iv p3), (4, .ref p4)] dX0_canReach_12 rfl (by decide) ?_
  refine AW.sel [2, 3, 4, 5, 6, 1, 0] rfl (lp_ind (bot := fun _ _ => none) (fun (f9 : Int → Mem → Option Rz) => ∀ (v6_14 : Int) (m14 : Mem), inR v6_14 → f9 v6_14 m14 = some r → AW l D base sc RX0 yX0_canReach cX0_canReach 7 (some FieldType.boolean) 1 0 0 ad (E mi) (pI E r) 0 0 (E m14) 14 [(0, .ref 33), (1, iv p1), (2, iv p2), (3, iv p3), (4, .ref p4), (5, iv x6), (6, iv v6_14)] []) (fun _ _ _ h9 => nomatch h9) (fun w14 ih14 v6_14 m14 hv6_14 H => ?_) n _ _ (inR_lit _ rfl) H)
  refine aw_iload (pc := 14) dX0_canReach_14 rfl ?_
  refine aw_iload_n (pc := 16) dX0_canReach_16 rfl ?_
  refine jn_ind (fun (f9 : Mem → Option Rz) => ∀ (m58 : Mem), f9 m58 = some r → AW l D base sc RX0 yX0_canReach cX0_canReach 7 (some FieldType.boolean) 1 0 0 ad (E mi) (pI E r) 0 0 (E m58) 58 [(0, .ref 33), (1, iv p1), (2, iv p2), (3, iv p3), (4, .ref p4)] []) (fun m58 H => ?_) (fun j58 hj58 H => ?_) H
  · -- 58
    refine aw_aload_n (pc := 58) dX0_canReach_58 rfl ?_
    refine cx_gtG (pc := 59) hE r33 fl_X0_22 rfl rfl (Nat.le_of_ble_eq_true rfl) dX0_canReach_59 H (fun x59 H => ?_)
    refine aw_iload_n (pc := 62) dX0_canReach_62 rfl ?_
    refine aw_aload_n (pc := 63) dX0_canReach_63 rfl ?_
    refine cx_gtF (pc := 64) hE r33 fl_X0_25 rfl rfl (Nat.le_of_ble_eq_true rfl) dX0_canReach_64 H (fun x64 hx64 H => ?_)
    refine jn_ind (fun (f9 : Int → Mem → Option Rz) => ∀ (s0_77 : Int) (m77 : Mem), inR s0_77 → f9 s0_77 m77 = some r → AW l D base sc RX0 yX0_canReach cX0_canReach 7 (some FieldType.boolean) 1 0 0 ad (E mi) (pI E r) 0 0 (E m77) 77 [(1, iv p1), (4, .ref p4)] [iv s0_77, iv p2, rv x59]) (fun s0_77 m77 hs0_77 H => ?_) (fun j77 hj77 H => ?_) H
    · -- 77
      refine cx_nn2 H (fun hg77_2 H => ?_)
      refine cx_callG (pc := 77) (P := pI) (dC := 0) (mcC := 0) (msC := 0) [iv p2, iv s0_77] hE hR.d (fun r1 H1 => s_X1_options l sc E R hE hR.d n x59 p2 s0_77 hg77_2 hp2 hs0_77 m77 r1 H1) ca_X0_39 ⟨_, rfl, rfl⟩ rfl rfl (Nat.le_of_ble_eq_true rfl) (Nat.le_of_ble_eq_true rfl) (Nat.le_of_ble_eq_true rfl) (Nat.le_of_ble_eq_true rfl) dX0_canReach_77 H (fun x77 m77 v77 hh77 H hp => ?_)
      refine cx_backI hp (fun hx77 => ?_)
      refine aw_istore (pc := 80) [(6, iv x77), (1, iv p1), (4, .ref p4)] dX0_canReach_80 rfl (by decide) ?_
      refine aw_iload_n (pc := 82) dX0_canReach_82 rfl ?_
      refine jn_ind (fun (f9 : Int → Mem → Option Rz) => ∀ (s0_108 : Int) (m108 : Mem), inR s0_108 → f9 s0_108 m108 = some r → AW l D base sc RX0 yX0_canReach cX0_canReach 7 (some FieldType.boolean) 1 0 0 ad (E mi) (pI E r) 0 0 (E m108) 108 [] [iv s0_108]) (fun s0_108 m108 hs0_108 H => ?_) (fun j108 hj108 H => ?_) H
      · -- 108
        exact cx_zret (pc := 108) rfl (Nat.le_of_ble_eq_true rfl) (Nat.le_of_ble_eq_true rfl) dX0_canReach_108 H
      refine jn_ind (fun (f9 : Mem → Option Rz) => ∀ (m107 : Mem), f9 m107 = some r → AW l D base sc RX0 yX0_canReach cX0_canReach 7 (some FieldType.boolean) 1 0 0 ad (E mi) (pI E r) 0 0 (E m107) 107 [] []) (fun m107 H => ?_) (fun j107 hj107 H => ?_) H
      · -- 107
        refine cx_iconst (pc := 107) dX0_canReach_107 ?_
        exact AW.sel [] rfl (hj108 _ _ (inR_lit _ rfl) H)
      refine cx_if_lt (pc := 83) 107 hp1 dX0_canReach_83 rfl H (fun H => ?_) (fun H => ?_)
      · -- 83: 107
        exact AW.sel [] rfl (hj107 _ H)
      · -- 83: 86
        refine aw_iload_n (pc := 86) dX0_canReach_86 rfl ?_
        refine aw_aload (pc := 87) dX0_canReach_87 rfl ?_
        refine cx_lenA (pc := 89) hE hp4 dX0_canReach_89 H (fun x89 hx89 H => ?_)
        refine cx_icmp_ge (pc := 90) 107 hp1 hx89 dX0_canReach_90 rfl H (fun H => ?_) (fun H => ?_)
        · -- 90: 93
          refine aw_aload (pc := 93) dX0_canReach_93 rfl ?_
          refine aw_iload_n (pc := 95) dX0_canReach_95 rfl ?_
          refine cx_ldI (pc := 96) hE hp4 hp1 dX0_canReach_96 H (fun x96 hx96 H => ?_)
          refine aw_iload (pc := 97) dX0_canReach_97 rfl ?_
          refine cx_iand (pc := 99) dX0_canReach_99 ?_
          refine cx_if_eq (pc := 100) 107 (inR_32 _) dX0_canReach_100 rfl H (fun H => ?_) (fun H => ?_)
          · -- 100: 107
            exact AW.sel [] rfl (hj107 _ H)
          · -- 100: 103
            refine cx_iconst (pc := 103) dX0_canReach_103 ?_
            refine aw_goto (pc := 104) 108 dX0_canReach_104 rfl ?_
            exact AW.sel [] rfl (hj108 _ _ (inR_lit _ rfl) H)
        · -- 90: 107
          exact AW.sel [] rfl (hj107 _ H)
    refine cx_if_eq (pc := 67) 76 hx64 dX0_canReach_67 rfl H (fun H => ?_) (fun H => ?_)
    · -- 67: 76
      refine aw_iload_n (pc := 76) dX0_canReach_76 rfl ?_
      exact AW.sel [1, 4] rfl (hj77 _ _ hp3 H)
    · -- 67: 70
      refine cx_iconst (pc := 70) dX0_canReach_70 ?_
      refine aw_iload_n (pc := 71) dX0_canReach_71 rfl ?_
      refine cx_isub (pc := 72) dX0_canReach_72 ?_
      refine aw_goto (pc := 73) 77 dX0_canReach_73 rfl ?_
      exact AW.sel [1, 4] rfl (hj77 _ _ (inR_w32 _) H)
  refine cx_icmp_ge (pc := 17) 58 hv6_14 hp1 dX0_canReach_17 rfl H (fun H => ?_) (fun H => ?_)
  · -- 17: 20
    refine aw_iload (pc := 20) dX0_canReach_20 rfl ?_
    refine aw_aload (pc := 22) dX0_canReach_22 rfl ?_
    refine cx_lenA (pc := 24) hE hp4 dX0_canReach_24 H (fun x24 hx24 H => ?_)
    refine cx_icmp_ge (pc := 25) 58 hv6_14 hx24 dX0_canReach_25 rfl H (fun H => ?_) (fun H => ?_)
    · -- 25: 28
      refine aw_iload (pc := 28) dX0_canReach_28 rfl ?_
      refine aw_iload (pc := 30) dX0_canReach_30 rfl ?_
      refine cx_ishr (pc := 32) dX0_canReach_32 ?_
      refine cx_iconst (pc := 33) dX0_canReach_33 ?_
      refine cx_iand (pc := 34) dX0_canReach_34 ?_
      refine jn_ind (fun (f9 : Mem → Option Rz) => ∀ (m52 : Mem), f9 m52 = some r → AW l D base sc RX0 yX0_canReach cX0_canReach 7 (some FieldType.boolean) 1 0 0 ad (E mi) (pI E r) 0 0 (E m52) 52 [(0, .ref 33), (1, iv p1), (2, iv p2), (3, iv p3), (4, .ref p4), (5, iv x6), (6, iv v6_14)] []) (fun m52 H => ?_) (fun j52 hj52 H => ?_) H
      · -- 52
        refine cx_iinc (pc := 52) [(6, iv (w32 (v6_14 + 1))), (0, .ref 33), (1, iv p1), (2, iv p2), (3, iv p3), (4, .ref p4), (5, iv x6)] dX0_canReach_52 rfl rfl (by decide) ?_
        refine aw_goto (pc := 55) 14 dX0_canReach_55 rfl ?_
        exact AW.sel [1, 2, 3, 4, 5, 6, 0] rfl (ih14 _ _ (inR_w32 _) H)
      refine cx_if_eq (pc := 35) 52 (inR_32 _) dX0_canReach_35 rfl H (fun H => ?_) (fun H => ?_)
      · -- 35: 52
        exact AW.sel [0, 1, 2, 3, 4, 5, 6] rfl (hj52 _ H)
      · -- 35: 38
        refine aw_aload (pc := 38) dX0_canReach_38 rfl ?_
        refine aw_iload (pc := 40) dX0_canReach_40 rfl ?_
        refine cx_ldI (pc := 42) hE hp4 hv6_14 dX0_canReach_42 H (fun x42 hx42 H => ?_)
        refine aw_iload_n (pc := 43) dX0_canReach_43 rfl ?_
        refine cx_ishr (pc := 44) dX0_canReach_44 ?_
        refine cx_iconst (pc := 45) dX0_canReach_45 ?_
        refine cx_iand (pc := 46) dX0_canReach_46 ?_
        refine cx_if_eq (pc := 47) 52 (inR_32 _) dX0_canReach_47 rfl H (fun H => ?_) (fun H => ?_)
        · -- 47: 52
          exact AW.sel [0, 1, 2, 3, 4, 5, 6] rfl (hj52 _ H)
        · -- 47: 50
          refine cx_iconst (pc := 50) dX0_canReach_50 ?_
          exact cx_zret (pc := 51) rfl (Nat.le_of_ble_eq_true rfl) (Nat.le_of_ble_eq_true rfl) dX0_canReach_51 H
    · -- 25: 58
      exact AW.sel [0, 1, 2, 3, 4] rfl (hj58 _ H)
  · -- 17: 58
    exact AW.sel [0, 1, 2, 3, 4] rfl (hj58 _ H)
/-- X0 fill (LUppityGames$Game;LUppityGames$Game;Z)V -/
def f_X0_fill (n : Nat) (p1 : Nat) (p2 : Nat) (p3 : Int) (mi : Mem) : Option Rz :=
  ptG mi 33 2 p1 fun m2 =>
  ptG m2 33 3 p2 fun m7 =>
  ptZ m7 33 4 p3 fun m12 =>
  lp (F := Int → Mem → Option Rz) (fun _ _ => none) (fun w18 v4_18 m18 =>
    isD p1 <|
    isG m18 p1 <| cal (f_X1_width n p1 m18) fun x21 m21 =>
    jn (fun (m141 : Mem) =>
      rt 0 m141
    ) fun (j141 : Mem → Option Rz) =>
    if v4_18 < x21 then (
      if v4_18 < 11 then (
        stI m21 34 v4_18 0 fun m41 =>
        stI m41 35 v4_18 0 fun m49 =>
        lp (F := Int → Mem → Option Rz) (fun _ _ => none) (fun w53 v5_53 m53 =>
          isD p2 <|
          isG m53 p2 <| cal (f_X1_width n p2 m53) fun x56 m56 =>
          jn (fun (m135 : Mem) =>
            w18 (w32 (v4_18 + 1)) m135
          ) fun (j135 : Mem → Option Rz) =>
          if v5_53 < x56 then (
            if v5_53 < 11 then (
              cal (f_X0_canReach n v4_18 v5_53 1 35 m56) fun x79 m79 =>
              jn (fun (m99 : Mem) =>
                cal (f_X0_canReach n v4_18 v5_53 0 34 m99) fun x109 m109 =>
                jn (fun (m129 : Mem) =>
                  w53 (w32 (v5_53 + 1)) m129
                ) fun (j129 : Mem → Option Rz) =>
                if x109 = 0 then (
                  ldI m109 35 v4_18 fun x122 =>
                  stI m109 35 v4_18 (ior x122 (ishl 1 v5_53)) fun m128 =>
                  j129 m128
                ) else
                j129 m109
              ) fun (j99 : Mem → Option Rz) =>
              if x79 = 0 then (
                ldI m79 34 v4_18 fun x92 =>
                stI m79 34 v4_18 (ior x92 (ishl 1 v5_53)) fun m98 =>
                j99 m98
              ) else
              j99 m79
            ) else
            j135 m56
          ) else
          j135 m56
        ) n 0 m49
      ) else
      j141 m21
    ) else
    j141 m21
  ) n 0 m12
set_option maxRecDepth 100000 in
set_option maxHeartbeats 4000000 in
theorem s_X0_fill (l : Launch) (sc : g_S) (E : Mem → g_H) (R : Nat → Prop) (hE : LE E R) (hR : RCL R) (n : Nat)  (p1 : Nat) (p2 : Nat) (p3 : Int) (hp3 : inR p3) (mi : Mem) (r : Rz) (H : f_X0_fill n p1 p2 p3 mi = some r) : AMet l sc yX0_fill cX0_fill 6 none 2 0 0 [.ref 33, rv p1, rv p2, iv p3] (E mi) (pV E r) := by
  have r33 : R 33 := hR.1 33 (Nat.le_of_ble_eq_true rfl) (Nat.le_of_ble_eq_true rfl)
  have r34 : R 34 := hR.1 34 (Nat.le_of_ble_eq_true rfl) (Nat.le_of_ble_eq_true rfl)
  have r35 : R 35 := hR.1 35 (Nat.le_of_ble_eq_true rfl) (Nat.le_of_ble_eq_true rfl)
  unfold f_X0_fill at H
  refine AMet.of (own := RX0) (by decide +kernel) rfl (by rcases rv_or p1 with ep1 | ⟨_, ep1⟩ <;> rcases rv_or p2 with ep2 | ⟨_, ep2⟩ <;> simp only [ep1, ep2] <;> exact Nat.le_of_ble_eq_true rfl) [(0, .ref 33), (1, rv p1), (2, rv p2), (3, iv p3)] (by rcases rv_or p1 with ep1 | ⟨_, ep1⟩ <;> rcases rv_or p2 with ep2 | ⟨_, ep2⟩ <;> simp only [ep1, ep2] <;> rfl) (fun D base ad => ?_)
  refine aw_aload_n (pc := 0) dX0_fill_0 rfl ?_
  refine cx_aload_n (pc := 1) dX0_fill_1 rfl ?_
  refine cx_ptG (pc := 2) tyX0 hE r33 fl_X0_18 (fun r h => ⟨gty_X0 r h, by cases h; rfl⟩) (fun u => by rcases rv_or u with h | ⟨a, h⟩ <;> rw [h] <;> rfl) rfl rfl (Nat.le_of_ble_eq_true rfl) dX0_fill_2 H (fun m2 H => ?_)
  refine aw_aload_n (pc := 5) dX0_fill_5 rfl ?_
  refine cx_aload_n (pc := 6) dX0_fill_6 rfl ?_
  refine cx_ptG (pc := 7) tyX0 hE r33 fl_X0_22 (fun r h => ⟨gty_X0 r h, by cases h; rfl⟩) (fun u => by rcases rv_or u with h | ⟨a, h⟩ <;> rw [h] <;> rfl) rfl rfl (Nat.le_of_ble_eq_true rfl) dX0_fill_7 H (fun m7 H => ?_)
  refine aw_aload_n (pc := 10) dX0_fill_10 rfl ?_
  refine aw_iload_n (pc := 11) dX0_fill_11 rfl ?_
  refine cx_ptZ (pc := 12) tyX0 hE r33 fl_X0_25 (fun r h => ⟨gty_X0 r h, by cases h; rfl⟩) rfl rfl rfl (Nat.le_of_ble_eq_true rfl) dX0_fill_12 H (fun m12 H => ?_)
  refine cx_iconst (pc := 15) dX0_fill_15 ?_
  refine aw_istore (pc := 16) [(4, iv 0), (0, .ref 33), (1, rv p1), (2, rv p2), (3, iv p3)] dX0_fill_16 rfl (by decide) ?_
  refine AW.sel [1, 2, 3, 0] rfl (lp_ind (bot := fun _ _ => none) (fun (f9 : Int → Mem → Option Rz) => ∀ (v4_18 : Int) (m18 : Mem), inR v4_18 → f9 v4_18 m18 = some r → AW l D base sc RX0 yX0_fill cX0_fill 6 none 2 0 0 ad (E mi) (pV E r) 0 0 (E m18) 18 [(0, .ref 33), (1, rv p1), (2, rv p2), (4, iv v4_18)] []) (fun _ _ _ h9 => nomatch h9) (fun w18 ih18 v4_18 m18 hv4_18 H => ?_) n _ _ (inR_lit _ rfl) H)
  refine aw_iload (pc := 18) dX0_fill_18 rfl ?_
  refine cx_aload_n (pc := 20) dX0_fill_20 rfl ?_
  refine cx_nn0 H (fun hg21_1 H => ?_)
  refine cx_callG (pc := 21) (P := pI) (dC := 0) (mcC := 0) (msC := 0) [] hE hR.d (fun r1 H1 => s_X1_width l sc E R hE hR.d n p1 hg21_1 m18 r1 H1) ca_X0_29 ⟨_, rfl, rfl⟩ rfl rfl (Nat.le_of_ble_eq_true rfl) (Nat.le_of_ble_eq_true rfl) (Nat.le_of_ble_eq_true rfl) (Nat.le_of_ble_eq_true rfl) dX0_fill_21 H (fun x21 m21 v21 hh21 H hp => ?_)
  refine cx_backI hp (fun hx21 => ?_)
  refine jn_ind (fun (f9 : Mem → Option Rz) => ∀ (m141 : Mem), f9 m141 = some r → AW l D base sc RX0 yX0_fill cX0_fill 6 none 2 0 0 ad (E mi) (pV E r) 0 0 (E m141) 141 [] []) (fun m141 H => ?_) (fun j141 hj141 H => ?_) H
  · -- 141
    exact cx_vret (pc := 141) rfl (Nat.le_of_ble_eq_true rfl) (Nat.le_of_ble_eq_true rfl) dX0_fill_141 H
  refine cx_icmp_ge (pc := 24) 141 hv4_18 hx21 dX0_fill_24 rfl H (fun H => ?_) (fun H => ?_)
  · -- 24: 27
    refine aw_iload (pc := 27) dX0_fill_27 rfl ?_
    refine cx_bipush (pc := 29) dX0_fill_29 (by decide) ?_
    refine cx_icmp_ge (pc := 31) 141 hv4_18 (inR_lit _ rfl) dX0_fill_31 rfl H (fun H => ?_) (fun H => ?_)
    · -- 31: 34
      refine aw_aload_n (pc := 34) dX0_fill_34 rfl ?_
      refine cx_gtC (pc := 35) 34 hE r33 fl_X0_11 rfl rfl (Nat.le_of_ble_eq_true rfl) dX0_fill_35 ?_
      refine aw_iload (pc := 38) dX0_fill_38 rfl ?_
      refine cx_iconst (pc := 40) dX0_fill_40 ?_
      refine cx_stI (pc := 41) hE r34 hv4_18 dX0_fill_41 H (fun m41 H => ?_)
      refine aw_aload_n (pc := 42) dX0_fill_42 rfl ?_
      refine cx_gtC (pc := 43) 35 hE r33 fl_X0_15 rfl rfl (Nat.le_of_ble_eq_true rfl) dX0_fill_43 ?_
      refine aw_iload (pc := 46) dX0_fill_46 rfl ?_
      refine cx_iconst (pc := 48) dX0_fill_48 ?_
      refine cx_stI (pc := 49) hE r35 hv4_18 dX0_fill_49 H (fun m49 H => ?_)
      refine cx_iconst (pc := 50) dX0_fill_50 ?_
      refine aw_istore (pc := 51) [(5, iv 0), (0, .ref 33), (1, rv p1), (2, rv p2), (4, iv v4_18)] dX0_fill_51 rfl (by decide) ?_
      refine AW.sel [1, 2, 3, 4, 0] rfl (lp_ind (bot := fun _ _ => none) (fun (f9 : Int → Mem → Option Rz) => ∀ (v5_53 : Int) (m53 : Mem), inR v5_53 → f9 v5_53 m53 = some r → AW l D base sc RX0 yX0_fill cX0_fill 6 none 2 0 0 ad (E mi) (pV E r) 0 0 (E m53) 53 [(0, .ref 33), (1, rv p1), (2, rv p2), (4, iv v4_18), (5, iv v5_53)] []) (fun _ _ _ h9 => nomatch h9) (fun w53 ih53 v5_53 m53 hv5_53 H => ?_) n _ _ (inR_lit _ rfl) H)
      refine aw_iload (pc := 53) dX0_fill_53 rfl ?_
      refine cx_aload_n (pc := 55) dX0_fill_55 rfl ?_
      refine cx_nn0 H (fun hg56_2 H => ?_)
      refine cx_callG (pc := 56) (P := pI) (dC := 0) (mcC := 0) (msC := 0) [] hE hR.d (fun r1 H1 => s_X1_width l sc E R hE hR.d n p2 hg56_2 m53 r1 H1) ca_X0_29 ⟨_, rfl, rfl⟩ rfl rfl (Nat.le_of_ble_eq_true rfl) (Nat.le_of_ble_eq_true rfl) (Nat.le_of_ble_eq_true rfl) (Nat.le_of_ble_eq_true rfl) dX0_fill_56 H (fun x56 m56 v56 hh56 H hp => ?_)
      refine cx_backI hp (fun hx56 => ?_)
      refine jn_ind (fun (f9 : Mem → Option Rz) => ∀ (m135 : Mem), f9 m135 = some r → AW l D base sc RX0 yX0_fill cX0_fill 6 none 2 0 0 ad (E mi) (pV E r) 0 0 (E m135) 135 [(0, .ref 33), (1, rv p1), (2, rv p2), (4, iv v4_18)] []) (fun m135 H => ?_) (fun j135 hj135 H => ?_) H
      · -- 135
        refine cx_iinc (pc := 135) [(4, iv (w32 (v4_18 + 1))), (0, .ref 33), (1, rv p1), (2, rv p2)] dX0_fill_135 rfl rfl (by decide) ?_
        refine aw_goto (pc := 138) 18 dX0_fill_138 rfl ?_
        exact AW.sel [1, 2, 3, 0] rfl (ih18 _ _ (inR_w32 _) H)
      refine cx_icmp_ge (pc := 59) 135 hv5_53 hx56 dX0_fill_59 rfl H (fun H => ?_) (fun H => ?_)
      · -- 59: 62
        refine aw_iload (pc := 62) dX0_fill_62 rfl ?_
        refine cx_bipush (pc := 64) dX0_fill_64 (by decide) ?_
        refine cx_icmp_ge (pc := 66) 135 hv5_53 (inR_lit _ rfl) dX0_fill_66 rfl H (fun H => ?_) (fun H => ?_)
        · -- 66: 69
          refine aw_aload_n (pc := 69) dX0_fill_69 rfl ?_
          refine aw_iload (pc := 70) dX0_fill_70 rfl ?_
          refine aw_iload (pc := 72) dX0_fill_72 rfl ?_
          refine cx_iconst (pc := 74) dX0_fill_74 ?_
          refine aw_aload_n (pc := 75) dX0_fill_75 rfl ?_
          refine cx_gtC (pc := 76) 35 hE r33 fl_X0_15 rfl rfl (Nat.le_of_ble_eq_true rfl) dX0_fill_76 ?_
          refine cx_callV (pc := 79) (P := pI) (dC := 1) (mcC := 0) (msC := 0) [iv v4_18, iv v5_53, iv 1, .ref 35] hE r33 (fun r1 H1 => s_X0_canReach l sc E R hE hR n v4_18 v5_53 1 35 hv4_18 hv5_53 (inR_lit _ rfl) r35 m56 r1 H1) ca_X0_35 rfl ⟨_, rfl, rfl⟩ rfl rfl (Nat.le_of_ble_eq_true rfl) (Nat.le_of_ble_eq_true rfl) (Nat.le_of_ble_eq_true rfl) (Nat.le_of_ble_eq_true rfl) dX0_fill_79 H (fun x79 m79 v79 hh79 H hp => ?_)
          refine cx_backI hp (fun hx79 => ?_)
          refine jn_ind (fun (f9 : Mem → Option Rz) => ∀ (m99 : Mem), f9 m99 = some r → AW l D base sc RX0 yX0_fill cX0_fill 6 none 2 0 0 ad (E mi) (pV E r) 0 0 (E m99) 99 [(0, .ref 33), (1, rv p1), (2, rv p2), (4, iv v4_18), (5, iv v5_53)] []) (fun m99 H => ?_) (fun j99 hj99 H => ?_) H
          · -- 99
            refine aw_aload_n (pc := 99) dX0_fill_99 rfl ?_
            refine aw_iload (pc := 100) dX0_fill_100 rfl ?_
            refine aw_iload (pc := 102) dX0_fill_102 rfl ?_
            refine cx_iconst (pc := 104) dX0_fill_104 ?_
            refine aw_aload_n (pc := 105) dX0_fill_105 rfl ?_
            refine cx_gtC (pc := 106) 34 hE r33 fl_X0_11 rfl rfl (Nat.le_of_ble_eq_true rfl) dX0_fill_106 ?_
            refine cx_callV (pc := 109) (P := pI) (dC := 1) (mcC := 0) (msC := 0) [iv v4_18, iv v5_53, iv 0, .ref 34] hE r33 (fun r1 H1 => s_X0_canReach l sc E R hE hR n v4_18 v5_53 0 34 hv4_18 hv5_53 (inR_lit _ rfl) r34 m99 r1 H1) ca_X0_35 rfl ⟨_, rfl, rfl⟩ rfl rfl (Nat.le_of_ble_eq_true rfl) (Nat.le_of_ble_eq_true rfl) (Nat.le_of_ble_eq_true rfl) (Nat.le_of_ble_eq_true rfl) dX0_fill_109 H (fun x109 m109 v109 hh109 H hp => ?_)
            refine cx_backI hp (fun hx109 => ?_)
            refine jn_ind (fun (f9 : Mem → Option Rz) => ∀ (m129 : Mem), f9 m129 = some r → AW l D base sc RX0 yX0_fill cX0_fill 6 none 2 0 0 ad (E mi) (pV E r) 0 0 (E m129) 129 [(0, .ref 33), (1, rv p1), (2, rv p2), (4, iv v4_18), (5, iv v5_53)] []) (fun m129 H => ?_) (fun j129 hj129 H => ?_) H
            · -- 129
              refine cx_iinc (pc := 129) [(5, iv (w32 (v5_53 + 1))), (0, .ref 33), (1, rv p1), (2, rv p2), (4, iv v4_18)] dX0_fill_129 rfl rfl (by decide) ?_
              refine aw_goto (pc := 132) 53 dX0_fill_132 rfl ?_
              exact AW.sel [1, 2, 3, 4, 0] rfl (ih53 _ _ (inR_w32 _) H)
            refine cx_if_ne (pc := 112) 129 hx109 dX0_fill_112 rfl H (fun H => ?_) (fun H => ?_)
            · -- 112: 115
              refine aw_aload_n (pc := 115) dX0_fill_115 rfl ?_
              refine cx_gtC (pc := 116) 35 hE r33 fl_X0_15 rfl rfl (Nat.le_of_ble_eq_true rfl) dX0_fill_116 ?_
              refine aw_iload (pc := 119) dX0_fill_119 rfl ?_
              refine aw_dup2 (pc := 121) dX0_fill_121 rfl rfl ?_
              refine cx_ldI (pc := 122) hE r35 hv4_18 dX0_fill_122 H (fun x122 hx122 H => ?_)
              refine cx_iconst (pc := 123) dX0_fill_123 ?_
              refine aw_iload (pc := 124) dX0_fill_124 rfl ?_
              refine cx_ishl (pc := 126) dX0_fill_126 ?_
              refine cx_ior (pc := 127) dX0_fill_127 ?_
              refine cx_stI (pc := 128) hE r35 hv4_18 dX0_fill_128 H (fun m128 H => ?_)
              exact AW.sel [0, 1, 2, 3, 4] rfl (hj129 _ H)
            · -- 112: 129
              exact AW.sel [0, 1, 2, 3, 4] rfl (hj129 _ H)
          refine cx_if_ne (pc := 82) 99 hx79 dX0_fill_82 rfl H (fun H => ?_) (fun H => ?_)
          · -- 82: 85
            refine aw_aload_n (pc := 85) dX0_fill_85 rfl ?_
            refine cx_gtC (pc := 86) 34 hE r33 fl_X0_11 rfl rfl (Nat.le_of_ble_eq_true rfl) dX0_fill_86 ?_
            refine aw_iload (pc := 89) dX0_fill_89 rfl ?_
            refine aw_dup2 (pc := 91) dX0_fill_91 rfl rfl ?_
            refine cx_ldI (pc := 92) hE r34 hv4_18 dX0_fill_92 H (fun x92 hx92 H => ?_)
            refine cx_iconst (pc := 93) dX0_fill_93 ?_
            refine aw_iload (pc := 94) dX0_fill_94 rfl ?_
            refine cx_ishl (pc := 96) dX0_fill_96 ?_
            refine cx_ior (pc := 97) dX0_fill_97 ?_
            refine cx_stI (pc := 98) hE r34 hv4_18 dX0_fill_98 H (fun m98 H => ?_)
            exact AW.sel [0, 1, 2, 3, 4] rfl (hj99 _ H)
          · -- 82: 99
            exact AW.sel [0, 1, 2, 3, 4] rfl (hj99 _ H)
        · -- 66: 135
          exact AW.sel [0, 1, 2, 3] rfl (hj135 _ H)
      · -- 59: 135
        exact AW.sel [0, 1, 2, 3] rfl (hj135 _ H)
    · -- 31: 141
      exact AW.sel [] rfl (hj141 _ H)
  · -- 24: 141
    exact AW.sel [] rfl (hj141 _ H)
/-- X0 verdict (II)I -/
def f_X0_verdict (n : Nat) (p1 : Int) (p2 : Int) (mi : Mem) : Option Rz :=
  jn (fun (m20 : Mem) =>
    rt 0 m20
  ) fun (j20 : Mem → Option Rz) =>
  if p1 < 0 then (
    j20 mi
  ) else
  if p1 < 11 then (
    if p2 < 0 then (
      j20 mi
    ) else
    if p2 < 11 then (
      ldI mi 34 p1 fun x27 =>
      jn (fun (s0_40 : Int) (m40 : Mem) =>
        ldI m40 35 p1 fun x46 =>
        jn (fun (s0_59 : Int) (m59 : Mem) =>
          if s0_40 = 0 then (
            jn (fun (s0_86 : Int) (m86 : Mem) =>
              rt s0_86 m86
            ) fun (j86 : Int → Mem → Option Rz) =>
            if s0_59 = 0 then (
              j86 2 m59
            ) else
            j86 (-1) m59
          ) else
          jn (fun (s0_75 : Int) (m75 : Mem) =>
            rt s0_75 m75
          ) fun (j75 : Int → Mem → Option Rz) =>
          if s0_59 = 0 then (
            j75 1 m59
          ) else
          j75 0 m59
        ) fun (j59 : Int → Mem → Option Rz) =>
        if iand (ishr x46 p2) 1 = 0 then (
          j59 0 m40
        ) else
        j59 1 m40
      ) fun (j40 : Int → Mem → Option Rz) =>
      if iand (ishr x27 p2) 1 = 0 then (
        j40 0 mi
      ) else
      j40 1 mi
    ) else
    j20 mi
  ) else
  j20 mi
set_option maxRecDepth 100000 in
set_option maxHeartbeats 4000000 in
theorem s_X0_verdict (l : Launch) (sc : g_S) (E : Mem → g_H) (R : Nat → Prop) (hE : LE E R) (hR : RCL R) (n : Nat)  (p1 : Int) (p2 : Int) (hp1 : inR p1) (hp2 : inR p2) (mi : Mem) (r : Rz) (H : f_X0_verdict n p1 p2 mi = some r) : AMet l sc yX0_verdict cX0_verdict 5 (some FieldType.int) 0 0 0 [.ref 33, iv p1, iv p2] (E mi) (pI E r) := by
  have r33 : R 33 := hR.1 33 (Nat.le_of_ble_eq_true rfl) (Nat.le_of_ble_eq_true rfl)
  have r34 : R 34 := hR.1 34 (Nat.le_of_ble_eq_true rfl) (Nat.le_of_ble_eq_true rfl)
  have r35 : R 35 := hR.1 35 (Nat.le_of_ble_eq_true rfl) (Nat.le_of_ble_eq_true rfl)
  unfold f_X0_verdict at H
  refine AMet.of (own := RX0) (by decide +kernel) rfl (Nat.le_of_ble_eq_true rfl) [(0, .ref 33), (1, iv p1), (2, iv p2)] rfl (fun D base ad => ?_)
  refine aw_iload_n (pc := 0) dX0_verdict_0 rfl ?_
  refine jn_ind (fun (f9 : Mem → Option Rz) => ∀ (m20 : Mem), f9 m20 = some r → AW l D base sc RX0 yX0_verdict cX0_verdict 5 (some FieldType.int) 0 0 0 ad (E mi) (pI E r) 0 0 (E m20) 20 [] []) (fun m20 H => ?_) (fun j20 hj20 H => ?_) H
  · -- 20
    refine cx_iconst (pc := 20) dX0_verdict_20 ?_
    exact cx_iret (pc := 21) (inR_lit _ rfl) rfl (Nat.le_of_ble_eq_true rfl) (Nat.le_of_ble_eq_true rfl) dX0_verdict_21 H
  refine cx_if_lt (pc := 1) 20 hp1 dX0_verdict_1 rfl H (fun H => ?_) (fun H => ?_)
  · -- 1: 20
    exact AW.sel [] rfl (hj20 _ H)
  · -- 1: 4
    refine aw_iload_n (pc := 4) dX0_verdict_4 rfl ?_
    refine cx_bipush (pc := 5) dX0_verdict_5 (by decide) ?_
    refine cx_icmp_ge (pc := 7) 20 hp1 (inR_lit _ rfl) dX0_verdict_7 rfl H (fun H => ?_) (fun H => ?_)
    · -- 7: 10
      refine aw_iload_n (pc := 10) dX0_verdict_10 rfl ?_
      refine cx_if_lt (pc := 11) 20 hp2 dX0_verdict_11 rfl H (fun H => ?_) (fun H => ?_)
      · -- 11: 20
        exact AW.sel [] rfl (hj20 _ H)
      · -- 11: 14
        refine aw_iload_n (pc := 14) dX0_verdict_14 rfl ?_
        refine cx_bipush (pc := 15) dX0_verdict_15 (by decide) ?_
        refine cx_icmp_lt (pc := 17) 22 hp2 (inR_lit _ rfl) dX0_verdict_17 rfl H (fun H => ?_) (fun H => ?_)
        · -- 17: 22
          refine aw_aload_n (pc := 22) dX0_verdict_22 rfl ?_
          refine cx_gtC (pc := 23) 34 hE r33 fl_X0_11 rfl rfl (Nat.le_of_ble_eq_true rfl) dX0_verdict_23 ?_
          refine aw_iload_n (pc := 26) dX0_verdict_26 rfl ?_
          refine cx_ldI (pc := 27) hE r34 hp1 dX0_verdict_27 H (fun x27 hx27 H => ?_)
          refine aw_iload_n (pc := 28) dX0_verdict_28 rfl ?_
          refine cx_ishr (pc := 29) dX0_verdict_29 ?_
          refine cx_iconst (pc := 30) dX0_verdict_30 ?_
          refine cx_iand (pc := 31) dX0_verdict_31 ?_
          refine jn_ind (fun (f9 : Int → Mem → Option Rz) => ∀ (s0_40 : Int) (m40 : Mem), inR s0_40 → f9 s0_40 m40 = some r → AW l D base sc RX0 yX0_verdict cX0_verdict 5 (some FieldType.int) 0 0 0 ad (E mi) (pI E r) 0 0 (E m40) 40 [(0, .ref 33), (1, iv p1), (2, iv p2)] [iv s0_40]) (fun s0_40 m40 hs0_40 H => ?_) (fun j40 hj40 H => ?_) H
          · -- 40
            refine aw_istore_n (pc := 40) [(3, iv s0_40), (0, .ref 33), (1, iv p1), (2, iv p2)] dX0_verdict_40 rfl (by decide) ?_
            refine aw_aload_n (pc := 41) dX0_verdict_41 rfl ?_
            refine cx_gtC (pc := 42) 35 hE r33 fl_X0_15 rfl rfl (Nat.le_of_ble_eq_true rfl) dX0_verdict_42 ?_
            refine aw_iload_n (pc := 45) dX0_verdict_45 rfl ?_
            refine cx_ldI (pc := 46) hE r35 hp1 dX0_verdict_46 H (fun x46 hx46 H => ?_)
            refine aw_iload_n (pc := 47) dX0_verdict_47 rfl ?_
            refine cx_ishr (pc := 48) dX0_verdict_48 ?_
            refine cx_iconst (pc := 49) dX0_verdict_49 ?_
            refine cx_iand (pc := 50) dX0_verdict_50 ?_
            refine jn_ind (fun (f9 : Int → Mem → Option Rz) => ∀ (s0_59 : Int) (m59 : Mem), inR s0_59 → f9 s0_59 m59 = some r → AW l D base sc RX0 yX0_verdict cX0_verdict 5 (some FieldType.int) 0 0 0 ad (E mi) (pI E r) 0 0 (E m59) 59 [(3, iv s0_40)] [iv s0_59]) (fun s0_59 m59 hs0_59 H => ?_) (fun j59 hj59 H => ?_) H
            · -- 59
              refine aw_istore (pc := 59) [(4, iv s0_59), (3, iv s0_40)] dX0_verdict_59 rfl (by decide) ?_
              refine aw_iload_n (pc := 61) dX0_verdict_61 rfl ?_
              refine cx_if_eq (pc := 62) 76 hs0_40 dX0_verdict_62 rfl H (fun H => ?_) (fun H => ?_)
              · -- 62: 76
                refine aw_iload (pc := 76) dX0_verdict_76 rfl ?_
                refine jn_ind (fun (f9 : Int → Mem → Option Rz) => ∀ (s0_86 : Int) (m86 : Mem), inR s0_86 → f9 s0_86 m86 = some r → AW l D base sc RX0 yX0_verdict cX0_verdict 5 (some FieldType.int) 0 0 0 ad (E mi) (pI E r) 0 0 (E m86) 86 [] [iv s0_86]) (fun s0_86 m86 hs0_86 H => ?_) (fun j86 hj86 H => ?_) H
                · -- 86
                  exact cx_iret (pc := 86) hs0_86 rfl (Nat.le_of_ble_eq_true rfl) (Nat.le_of_ble_eq_true rfl) dX0_verdict_86 H
                refine cx_if_eq (pc := 78) 85 hs0_59 dX0_verdict_78 rfl H (fun H => ?_) (fun H => ?_)
                · -- 78: 85
                  refine cx_iconst (pc := 85) dX0_verdict_85 ?_
                  exact AW.sel [] rfl (hj86 _ _ (inR_lit _ rfl) H)
                · -- 78: 81
                  refine cx_iconst (pc := 81) dX0_verdict_81 ?_
                  refine aw_goto (pc := 82) 86 dX0_verdict_82 rfl ?_
                  exact AW.sel [] rfl (hj86 _ _ (inR_lit _ rfl) H)
              · -- 62: 65
                refine aw_iload (pc := 65) dX0_verdict_65 rfl ?_
                refine jn_ind (fun (f9 : Int → Mem → Option Rz) => ∀ (s0_75 : Int) (m75 : Mem), inR s0_75 → f9 s0_75 m75 = some r → AW l D base sc RX0 yX0_verdict cX0_verdict 5 (some FieldType.int) 0 0 0 ad (E mi) (pI E r) 0 0 (E m75) 75 [] [iv s0_75]) (fun s0_75 m75 hs0_75 H => ?_) (fun j75 hj75 H => ?_) H
                · -- 75
                  exact cx_iret (pc := 75) hs0_75 rfl (Nat.le_of_ble_eq_true rfl) (Nat.le_of_ble_eq_true rfl) dX0_verdict_75 H
                refine cx_if_eq (pc := 67) 74 hs0_59 dX0_verdict_67 rfl H (fun H => ?_) (fun H => ?_)
                · -- 67: 74
                  refine cx_iconst (pc := 74) dX0_verdict_74 ?_
                  exact AW.sel [] rfl (hj75 _ _ (inR_lit _ rfl) H)
                · -- 67: 70
                  refine cx_iconst (pc := 70) dX0_verdict_70 ?_
                  refine aw_goto (pc := 71) 75 dX0_verdict_71 rfl ?_
                  exact AW.sel [] rfl (hj75 _ _ (inR_lit _ rfl) H)
            refine cx_if_eq (pc := 51) 58 (inR_32 _) dX0_verdict_51 rfl H (fun H => ?_) (fun H => ?_)
            · -- 51: 58
              refine cx_iconst (pc := 58) dX0_verdict_58 ?_
              exact AW.sel [0] rfl (hj59 _ _ (inR_lit _ rfl) H)
            · -- 51: 54
              refine cx_iconst (pc := 54) dX0_verdict_54 ?_
              refine aw_goto (pc := 55) 59 dX0_verdict_55 rfl ?_
              exact AW.sel [0] rfl (hj59 _ _ (inR_lit _ rfl) H)
          refine cx_if_eq (pc := 32) 39 (inR_32 _) dX0_verdict_32 rfl H (fun H => ?_) (fun H => ?_)
          · -- 32: 39
            refine cx_iconst (pc := 39) dX0_verdict_39 ?_
            exact AW.sel [0, 1, 2] rfl (hj40 _ _ (inR_lit _ rfl) H)
          · -- 32: 35
            refine cx_iconst (pc := 35) dX0_verdict_35 ?_
            refine aw_goto (pc := 36) 40 dX0_verdict_36 rfl ?_
            exact AW.sel [0, 1, 2] rfl (hj40 _ _ (inR_lit _ rfl) H)
        · -- 17: 20
          exact AW.sel [] rfl (hj20 _ H)
    · -- 7: 20
      exact AW.sel [] rfl (hj20 _ H)
/-- X0 gameOf (I)I -/
def f_X0_gameOf (n : Nat) (p0 : Int) (mi : Mem) : Option Rz :=
  jn (fun (s0_11 : Int) (m11 : Mem) =>
    rt s0_11 m11
  ) fun (j11 : Int → Mem → Option Rz) =>
  if p0 < 32 then (
    j11 0 mi
  ) else
  j11 1 mi
set_option maxRecDepth 100000 in
set_option maxHeartbeats 4000000 in
theorem s_X0_gameOf (l : Launch) (sc : g_S) (E : Mem → g_H) (R : Nat → Prop) (hE : LE E R) (hR : RCL R) (n : Nat)  (p0 : Int) (hp0 : inR p0) (mi : Mem) (r : Rz) (H : f_X0_gameOf n p0 mi = some r) : AMet l sc yX0_gameOf cX0_gameOf 1 (some FieldType.int) 0 0 0 [iv p0] (E mi) (pI E r) := by
  unfold f_X0_gameOf at H
  refine AMet.of (own := RX0) (by decide +kernel) rfl (Nat.le_of_ble_eq_true rfl) [(0, iv p0)] rfl (fun D base ad => ?_)
  refine aw_iload_n (pc := 0) dX0_gameOf_0 rfl ?_
  refine cx_bipush (pc := 1) dX0_gameOf_1 (by decide) ?_
  refine jn_ind (fun (f9 : Int → Mem → Option Rz) => ∀ (s0_11 : Int) (m11 : Mem), inR s0_11 → f9 s0_11 m11 = some r → AW l D base sc RX0 yX0_gameOf cX0_gameOf 1 (some FieldType.int) 0 0 0 ad (E mi) (pI E r) 0 0 (E m11) 11 [] [iv s0_11]) (fun s0_11 m11 hs0_11 H => ?_) (fun j11 hj11 H => ?_) H
  · -- 11
    exact cx_iret (pc := 11) hs0_11 rfl (Nat.le_of_ble_eq_true rfl) (Nat.le_of_ble_eq_true rfl) dX0_gameOf_11 H
  refine cx_icmp_lt (pc := 3) 10 hp0 (inR_lit _ rfl) dX0_gameOf_3 rfl H (fun H => ?_) (fun H => ?_)
  · -- 3: 10
    refine cx_iconst (pc := 10) dX0_gameOf_10 ?_
    exact AW.sel [] rfl (hj11 _ _ (inR_lit _ rfl) H)
  · -- 3: 6
    refine cx_iconst (pc := 6) dX0_gameOf_6 ?_
    refine aw_goto (pc := 7) 11 dX0_gameOf_7 rfl ?_
    exact AW.sel [] rfl (hj11 _ _ (inR_lit _ rfl) H)
/-- X0 numberOf (I)I -/
def f_X0_numberOf (n : Nat) (p0 : Int) (mi : Mem) : Option Rz :=
  rt (iand p0 31) mi
set_option maxRecDepth 100000 in
set_option maxHeartbeats 4000000 in
theorem s_X0_numberOf (l : Launch) (sc : g_S) (E : Mem → g_H) (R : Nat → Prop) (hE : LE E R) (hR : RCL R) (n : Nat)  (p0 : Int) (hp0 : inR p0) (mi : Mem) (r : Rz) (H : f_X0_numberOf n p0 mi = some r) : AMet l sc yX0_numberOf cX0_numberOf 1 (some FieldType.int) 0 0 0 [iv p0] (E mi) (pI E r) := by
  unfold f_X0_numberOf at H
  refine AMet.of (own := RX0) (by decide +kernel) rfl (Nat.le_of_ble_eq_true rfl) [(0, iv p0)] rfl (fun D base ad => ?_)
  refine aw_iload_n (pc := 0) dX0_numberOf_0 rfl ?_
  refine cx_bipush (pc := 1) dX0_numberOf_1 (by decide) ?_
  refine cx_iand (pc := 3) dX0_numberOf_3 ?_
  exact cx_iret (pc := 4) (inR_32 _) rfl (Nat.le_of_ble_eq_true rfl) (Nat.le_of_ble_eq_true rfl) dX0_numberOf_4 H
/-- X0 bestMove (III)I -/
def f_X0_bestMove (n : Nat) (p1 : Int) (p2 : Int) (p3 : Int) (mi : Mem) : Option Rz :=
  jn (fun (s0_15 : Nat) (m15 : Mem) =>
    lp (F := Int → Mem → Option Rz) (fun _ _ => none) (fun w20 v5_20 m20 =>
      if v5_20 < 11 then (
        gtG m20 33 2 fun x28 =>
        isD x28 <|
        isG m20 x28 <| cal (f_X1_numbered n x28 p1 p3 v5_20 m20) fun x35 m35 =>
        jn (fun (m68 : Mem) =>
          w20 (w32 (v5_20 + 1)) m68
        ) fun (j68 : Mem → Option Rz) =>
        if x35 < 0 then (
          j68 m35
        ) else
        lenA m35 s0_15 fun x49 =>
        if x35 < x49 then (
          ldI m35 s0_15 x35 fun x57 =>
          if iand (ishr x57 p2) 1 = 0 then (
            j68 m35
          ) else
          rt v5_20 m35
        ) else
        j68 m35
      ) else
      lp (F := Int → Mem → Option Rz) (fun _ _ => none) (fun w77 v5_77 m77 =>
        if v5_77 < 11 then (
          gtG m77 33 3 fun x85 =>
          isD x85 <|
          isG m77 x85 <| cal (f_X1_numbered n x85 p2 p3 v5_77 m77) fun x92 m92 =>
          jn (fun (m131 : Mem) =>
            w77 (w32 (v5_77 + 1)) m131
          ) fun (j131 : Mem → Option Rz) =>
          if x92 < 0 then (
            j131 m92
          ) else
          if p1 < 0 then (
            j131 m92
          ) else
          lenA m92 s0_15 fun x109 =>
          if p1 < x109 then (
            ldI m92 s0_15 p1 fun x116 =>
            if iand (ishr x116 x92) 1 = 0 then (
              j131 m92
            ) else
            rt (w32 (32 + v5_77)) m92
          ) else
          j131 m92
        ) else
        rt (-1) m77
      ) n 0 m20
    ) n 0 m15
  ) fun (j15 : Nat → Mem → Option Rz) =>
  if p3 = 0 then (
    j15 34 mi
  ) else
  j15 35 mi
set_option maxRecDepth 100000 in
set_option maxHeartbeats 4000000 in
theorem s_X0_bestMove (l : Launch) (sc : g_S) (E : Mem → g_H) (R : Nat → Prop) (hE : LE E R) (hR : RCL R) (n : Nat)  (p1 : Int) (p2 : Int) (p3 : Int) (hp1 : inR p1) (hp2 : inR p2) (hp3 : inR p3) (mi : Mem) (r : Rz) (H : f_X0_bestMove n p1 p2 p3 mi = some r) : AMet l sc yX0_bestMove cX0_bestMove 7 (some FieldType.int) 3 0 0 [.ref 33, iv p1, iv p2, iv p3] (E mi) (pI E r) := by
  have r33 : R 33 := hR.1 33 (Nat.le_of_ble_eq_true rfl) (Nat.le_of_ble_eq_true rfl)
  have r34 : R 34 := hR.1 34 (Nat.le_of_ble_eq_true rfl) (Nat.le_of_ble_eq_true rfl)
  have r35 : R 35 := hR.1 35 (Nat.le_of_ble_eq_true rfl) (Nat.le_of_ble_eq_true rfl)
  unfold f_X0_bestMove at H
  refine AMet.of (own := RX0) (by decide +kernel) rfl (Nat.le_of_ble_eq_true rfl) [(0, .ref 33), (1, iv p1), (2, iv p2), (3, iv p3)] rfl (fun D base ad => ?_)
  refine aw_iload_n (pc := 0) dX0_bestMove_0 rfl ?_
  refine jn_ind (fun (f9 : Nat → Mem → Option Rz) => ∀ (s0_15 : Nat) (m15 : Mem), R s0_15 → f9 s0_15 m15 = some r → AW l D base sc RX0 yX0_bestMove cX0_bestMove 7 (some FieldType.int) 3 0 0 ad (E mi) (pI E r) 0 0 (E m15) 15 [(0, .ref 33), (1, iv p1), (2, iv p2), (3, iv p3)] [.ref s0_15]) (fun s0_15 m15 hs0_15 H => ?_) (fun j15 hj15 H => ?_) H
  · -- 15
    refine aw_astore (pc := 15) [(4, .ref s0_15), (0, .ref 33), (1, iv p1), (2, iv p2), (3, iv p3)] dX0_bestMove_15 rfl (by decide) ?_
    refine cx_iconst (pc := 17) dX0_bestMove_17 ?_
    refine aw_istore (pc := 18) [(5, iv 0), (4, .ref s0_15), (0, .ref 33), (1, iv p1), (2, iv p2), (3, iv p3)] dX0_bestMove_18 rfl (by decide) ?_
    refine AW.sel [2, 3, 4, 5, 1, 0] rfl (lp_ind (bot := fun _ _ => none) (fun (f9 : Int → Mem → Option Rz) => ∀ (v5_20 : Int) (m20 : Mem), inR v5_20 → f9 v5_20 m20 = some r → AW l D base sc RX0 yX0_bestMove cX0_bestMove 7 (some FieldType.int) 3 0 0 ad (E mi) (pI E r) 0 0 (E m20) 20 [(0, .ref 33), (1, iv p1), (2, iv p2), (3, iv p3), (4, .ref s0_15), (5, iv v5_20)] []) (fun _ _ _ h9 => nomatch h9) (fun w20 ih20 v5_20 m20 hv5_20 H => ?_) n _ _ (inR_lit _ rfl) H)
    refine aw_iload (pc := 20) dX0_bestMove_20 rfl ?_
    refine cx_bipush (pc := 22) dX0_bestMove_22 (by decide) ?_
    refine cx_icmp_ge (pc := 24) 74 hv5_20 (inR_lit _ rfl) dX0_bestMove_24 rfl H (fun H => ?_) (fun H => ?_)
    · -- 24: 27
      refine aw_aload_n (pc := 27) dX0_bestMove_27 rfl ?_
      refine cx_gtG (pc := 28) hE r33 fl_X0_18 rfl rfl (Nat.le_of_ble_eq_true rfl) dX0_bestMove_28 H (fun x28 H => ?_)
      refine aw_iload_n (pc := 31) dX0_bestMove_31 rfl ?_
      refine aw_iload_n (pc := 32) dX0_bestMove_32 rfl ?_
      refine aw_iload (pc := 33) dX0_bestMove_33 rfl ?_
      refine cx_nn3 H (fun hg35_1 H => ?_)
      refine cx_callG (pc := 35) (P := pI) (dC := 2) (mcC := 0) (msC := 0) [iv p1, iv p3, iv v5_20] hE hR.d (fun r1 H1 => s_X1_numbered l sc E R hE hR.d n x28 p1 p3 v5_20 hg35_1 hp1 hp3 hv5_20 m20 r1 H1) ca_X0_43 ⟨_, rfl, rfl⟩ rfl rfl (Nat.le_of_ble_eq_true rfl) (Nat.le_of_ble_eq_true rfl) (Nat.le_of_ble_eq_true rfl) (Nat.le_of_ble_eq_true rfl) dX0_bestMove_35 H (fun x35 m35 v35 hh35 H hp => ?_)
      refine cx_backI hp (fun hx35 => ?_)
      refine aw_istore (pc := 38) [(6, iv x35), (0, .ref 33), (1, iv p1), (2, iv p2), (3, iv p3), (4, .ref s0_15), (5, iv v5_20)] dX0_bestMove_38 rfl (by decide) ?_
      refine aw_iload (pc := 40) dX0_bestMove_40 rfl ?_
      refine jn_ind (fun (f9 : Mem → Option Rz) => ∀ (m68 : Mem), f9 m68 = some r → AW l D base sc RX0 yX0_bestMove cX0_bestMove 7 (some FieldType.int) 3 0 0 ad (E mi) (pI E r) 0 0 (E m68) 68 [(0, .ref 33), (1, iv p1), (2, iv p2), (3, iv p3), (4, .ref s0_15), (5, iv v5_20)] []) (fun m68 H => ?_) (fun j68 hj68 H => ?_) H
      · -- 68
        refine cx_iinc (pc := 68) [(5, iv (w32 (v5_20 + 1))), (0, .ref 33), (1, iv p1), (2, iv p2), (3, iv p3), (4, .ref s0_15)] dX0_bestMove_68 rfl rfl (by decide) ?_
        refine aw_goto (pc := 71) 20 dX0_bestMove_71 rfl ?_
        exact AW.sel [1, 2, 3, 4, 5, 0] rfl (ih20 _ _ (inR_w32 _) H)
      refine cx_if_lt (pc := 42) 68 hx35 dX0_bestMove_42 rfl H (fun H => ?_) (fun H => ?_)
      · -- 42: 68
        exact AW.sel [1, 2, 3, 4, 5, 6] rfl (hj68 _ H)
      · -- 42: 45
        refine aw_iload (pc := 45) dX0_bestMove_45 rfl ?_
        refine aw_aload (pc := 47) dX0_bestMove_47 rfl ?_
        refine cx_lenA (pc := 49) hE hs0_15 dX0_bestMove_49 H (fun x49 hx49 H => ?_)
        refine cx_icmp_ge (pc := 50) 68 hx35 hx49 dX0_bestMove_50 rfl H (fun H => ?_) (fun H => ?_)
        · -- 50: 53
          refine aw_aload (pc := 53) dX0_bestMove_53 rfl ?_
          refine aw_iload (pc := 55) dX0_bestMove_55 rfl ?_
          refine cx_ldI (pc := 57) hE hs0_15 hx35 dX0_bestMove_57 H (fun x57 hx57 H => ?_)
          refine aw_iload_n (pc := 58) dX0_bestMove_58 rfl ?_
          refine cx_ishr (pc := 59) dX0_bestMove_59 ?_
          refine cx_iconst (pc := 60) dX0_bestMove_60 ?_
          refine cx_iand (pc := 61) dX0_bestMove_61 ?_
          refine cx_if_eq (pc := 62) 68 (inR_32 _) dX0_bestMove_62 rfl H (fun H => ?_) (fun H => ?_)
          · -- 62: 68
            exact AW.sel [1, 2, 3, 4, 5, 6] rfl (hj68 _ H)
          · -- 62: 65
            refine aw_iload (pc := 65) dX0_bestMove_65 rfl ?_
            exact cx_iret (pc := 67) hv5_20 rfl (Nat.le_of_ble_eq_true rfl) (Nat.le_of_ble_eq_true rfl) dX0_bestMove_67 H
        · -- 50: 68
          exact AW.sel [1, 2, 3, 4, 5, 6] rfl (hj68 _ H)
    · -- 24: 74
      refine cx_iconst (pc := 74) dX0_bestMove_74 ?_
      refine aw_istore (pc := 75) [(5, iv 0), (0, .ref 33), (1, iv p1), (2, iv p2), (3, iv p3), (4, .ref s0_15)] dX0_bestMove_75 rfl (by decide) ?_
      refine AW.sel [1, 2, 3, 4, 5, 0] rfl (lp_ind (bot := fun _ _ => none) (fun (f9 : Int → Mem → Option Rz) => ∀ (v5_77 : Int) (m77 : Mem), inR v5_77 → f9 v5_77 m77 = some r → AW l D base sc RX0 yX0_bestMove cX0_bestMove 7 (some FieldType.int) 3 0 0 ad (E mi) (pI E r) 0 0 (E m77) 77 [(0, .ref 33), (1, iv p1), (2, iv p2), (3, iv p3), (4, .ref s0_15), (5, iv v5_77)] []) (fun _ _ _ h9 => nomatch h9) (fun w77 ih77 v5_77 m77 hv5_77 H => ?_) n _ _ (inR_lit _ rfl) H)
      refine aw_iload (pc := 77) dX0_bestMove_77 rfl ?_
      refine cx_bipush (pc := 79) dX0_bestMove_79 (by decide) ?_
      refine cx_icmp_ge (pc := 81) 137 hv5_77 (inR_lit _ rfl) dX0_bestMove_81 rfl H (fun H => ?_) (fun H => ?_)
      · -- 81: 84
        refine aw_aload_n (pc := 84) dX0_bestMove_84 rfl ?_
        refine cx_gtG (pc := 85) hE r33 fl_X0_22 rfl rfl (Nat.le_of_ble_eq_true rfl) dX0_bestMove_85 H (fun x85 H => ?_)
        refine aw_iload_n (pc := 88) dX0_bestMove_88 rfl ?_
        refine aw_iload_n (pc := 89) dX0_bestMove_89 rfl ?_
        refine aw_iload (pc := 90) dX0_bestMove_90 rfl ?_
        refine cx_nn3 H (fun hg92_2 H => ?_)
        refine cx_callG (pc := 92) (P := pI) (dC := 2) (mcC := 0) (msC := 0) [iv p2, iv p3, iv v5_77] hE hR.d (fun r1 H1 => s_X1_numbered l sc E R hE hR.d n x85 p2 p3 v5_77 hg92_2 hp2 hp3 hv5_77 m77 r1 H1) ca_X0_43 ⟨_, rfl, rfl⟩ rfl rfl (Nat.le_of_ble_eq_true rfl) (Nat.le_of_ble_eq_true rfl) (Nat.le_of_ble_eq_true rfl) (Nat.le_of_ble_eq_true rfl) dX0_bestMove_92 H (fun x92 m92 v92 hh92 H hp => ?_)
        refine cx_backI hp (fun hx92 => ?_)
        refine aw_istore (pc := 95) [(6, iv x92), (0, .ref 33), (1, iv p1), (2, iv p2), (3, iv p3), (4, .ref s0_15), (5, iv v5_77)] dX0_bestMove_95 rfl (by decide) ?_
        refine aw_iload (pc := 97) dX0_bestMove_97 rfl ?_
        refine jn_ind (fun (f9 : Mem → Option Rz) => ∀ (m131 : Mem), f9 m131 = some r → AW l D base sc RX0 yX0_bestMove cX0_bestMove 7 (some FieldType.int) 3 0 0 ad (E mi) (pI E r) 0 0 (E m131) 131 [(0, .ref 33), (1, iv p1), (2, iv p2), (3, iv p3), (4, .ref s0_15), (5, iv v5_77)] []) (fun m131 H => ?_) (fun j131 hj131 H => ?_) H
        · -- 131
          refine cx_iinc (pc := 131) [(5, iv (w32 (v5_77 + 1))), (0, .ref 33), (1, iv p1), (2, iv p2), (3, iv p3), (4, .ref s0_15)] dX0_bestMove_131 rfl rfl (by decide) ?_
          refine aw_goto (pc := 134) 77 dX0_bestMove_134 rfl ?_
          exact AW.sel [1, 2, 3, 4, 5, 0] rfl (ih77 _ _ (inR_w32 _) H)
        refine cx_if_lt (pc := 99) 131 hx92 dX0_bestMove_99 rfl H (fun H => ?_) (fun H => ?_)
        · -- 99: 131
          exact AW.sel [1, 2, 3, 4, 5, 6] rfl (hj131 _ H)
        · -- 99: 102
          refine aw_iload_n (pc := 102) dX0_bestMove_102 rfl ?_
          refine cx_if_lt (pc := 103) 131 hp1 dX0_bestMove_103 rfl H (fun H => ?_) (fun H => ?_)
          · -- 103: 131
            exact AW.sel [1, 2, 3, 4, 5, 6] rfl (hj131 _ H)
          · -- 103: 106
            refine aw_iload_n (pc := 106) dX0_bestMove_106 rfl ?_
            refine aw_aload (pc := 107) dX0_bestMove_107 rfl ?_
            refine cx_lenA (pc := 109) hE hs0_15 dX0_bestMove_109 H (fun x109 hx109 H => ?_)
            refine cx_icmp_ge (pc := 110) 131 hp1 hx109 dX0_bestMove_110 rfl H (fun H => ?_) (fun H => ?_)
            · -- 110: 113
              refine aw_aload (pc := 113) dX0_bestMove_113 rfl ?_
              refine aw_iload_n (pc := 115) dX0_bestMove_115 rfl ?_
              refine cx_ldI (pc := 116) hE hs0_15 hp1 dX0_bestMove_116 H (fun x116 hx116 H => ?_)
              refine aw_iload (pc := 117) dX0_bestMove_117 rfl ?_
              refine cx_ishr (pc := 119) dX0_bestMove_119 ?_
              refine cx_iconst (pc := 120) dX0_bestMove_120 ?_
              refine cx_iand (pc := 121) dX0_bestMove_121 ?_
              refine cx_if_eq (pc := 122) 131 (inR_32 _) dX0_bestMove_122 rfl H (fun H => ?_) (fun H => ?_)
              · -- 122: 131
                exact AW.sel [1, 2, 3, 4, 5, 6] rfl (hj131 _ H)
              · -- 122: 125
                refine cx_bipush (pc := 125) dX0_bestMove_125 (by decide) ?_
                refine aw_iload (pc := 127) dX0_bestMove_127 rfl ?_
                refine cx_iadd (pc := 129) dX0_bestMove_129 ?_
                exact cx_iret (pc := 130) (inR_w32 _) rfl (Nat.le_of_ble_eq_true rfl) (Nat.le_of_ble_eq_true rfl) dX0_bestMove_130 H
            · -- 110: 131
              exact AW.sel [1, 2, 3, 4, 5, 6] rfl (hj131 _ H)
      · -- 81: 137
        refine cx_iconst (pc := 137) dX0_bestMove_137 ?_
        exact cx_iret (pc := 138) (inR_lit _ rfl) rfl (Nat.le_of_ble_eq_true rfl) (Nat.le_of_ble_eq_true rfl) dX0_bestMove_138 H
  refine cx_if_ne (pc := 1) 11 hp3 dX0_bestMove_1 rfl H (fun H => ?_) (fun H => ?_)
  · -- 1: 4
    refine aw_aload_n (pc := 4) dX0_bestMove_4 rfl ?_
    refine cx_gtC (pc := 5) 34 hE r33 fl_X0_11 rfl rfl (Nat.le_of_ble_eq_true rfl) dX0_bestMove_5 ?_
    refine aw_goto (pc := 8) 15 dX0_bestMove_8 rfl ?_
    exact AW.sel [0, 1, 2, 3] rfl (hj15 _ _ r34 H)
  · -- 1: 11
    refine aw_aload_n (pc := 11) dX0_bestMove_11 rfl ?_
    refine cx_gtC (pc := 12) 35 hE r33 fl_X0_15 rfl rfl (Nat.le_of_ble_eq_true rfl) dX0_bestMove_12 ?_
    exact AW.sel [0, 1, 2, 3] rfl (hj15 _ _ r35 H)
/-- X0 firstMove (III)I -/
def f_X0_firstMove (n : Nat) (p1 : Int) (p2 : Int) (p3 : Int) (mi : Mem) : Option Rz :=
  gtG mi 33 2 fun x1 =>
  isD x1 <|
  isG mi x1 <| cal (f_X1_options n x1 p1 p3 mi) fun x6 m6 =>
  if x6 = 0 then (
    gtG m6 33 3 fun x15 =>
    isD x15 <|
    isG m6 x15 <| cal (f_X1_options n x15 p2 p3 m6) fun x20 m20 =>
    jn (fun (s0_32 : Int) (m32 : Mem) =>
      rt s0_32 m32
    ) fun (j32 : Int → Mem → Option Rz) =>
    if x20 = 0 then (
      j32 (-1) m20
    ) else
    j32 32 m20
  ) else
  rt 0 m6
set_option maxRecDepth 100000 in
set_option maxHeartbeats 4000000 in
theorem s_X0_firstMove (l : Launch) (sc : g_S) (E : Mem → g_H) (R : Nat → Prop) (hE : LE E R) (hR : RCL R) (n : Nat)  (p1 : Int) (p2 : Int) (p3 : Int) (hp1 : inR p1) (hp2 : inR p2) (hp3 : inR p3) (mi : Mem) (r : Rz) (H : f_X0_firstMove n p1 p2 p3 mi = some r) : AMet l sc yX0_firstMove cX0_firstMove 4 (some FieldType.int) 1 0 0 [.ref 33, iv p1, iv p2, iv p3] (E mi) (pI E r) := by
  have r33 : R 33 := hR.1 33 (Nat.le_of_ble_eq_true rfl) (Nat.le_of_ble_eq_true rfl)
  unfold f_X0_firstMove at H
  refine AMet.of (own := RX0) (by decide +kernel) rfl (Nat.le_of_ble_eq_true rfl) [(0, .ref 33), (1, iv p1), (2, iv p2), (3, iv p3)] rfl (fun D base ad => ?_)
  refine aw_aload_n (pc := 0) dX0_firstMove_0 rfl ?_
  refine cx_gtG (pc := 1) hE r33 fl_X0_18 rfl rfl (Nat.le_of_ble_eq_true rfl) dX0_firstMove_1 H (fun x1 H => ?_)
  refine aw_iload_n (pc := 4) dX0_firstMove_4 rfl ?_
  refine aw_iload_n (pc := 5) dX0_firstMove_5 rfl ?_
  refine cx_nn2 H (fun hg6_1 H => ?_)
  refine cx_callG (pc := 6) (P := pI) (dC := 0) (mcC := 0) (msC := 0) [iv p1, iv p3] hE hR.d (fun r1 H1 => s_X1_options l sc E R hE hR.d n x1 p1 p3 hg6_1 hp1 hp3 mi r1 H1) ca_X0_39 ⟨_, rfl, rfl⟩ rfl rfl (Nat.le_of_ble_eq_true rfl) (Nat.le_of_ble_eq_true rfl) (Nat.le_of_ble_eq_true rfl) (Nat.le_of_ble_eq_true rfl) dX0_firstMove_6 H (fun x6 m6 v6 hh6 H hp => ?_)
  refine cx_backI hp (fun hx6 => ?_)
  refine cx_if_eq (pc := 9) 14 hx6 dX0_firstMove_9 rfl H (fun H => ?_) (fun H => ?_)
  · -- 9: 14
    refine aw_aload_n (pc := 14) dX0_firstMove_14 rfl ?_
    refine cx_gtG (pc := 15) hE r33 fl_X0_22 rfl rfl (Nat.le_of_ble_eq_true rfl) dX0_firstMove_15 H (fun x15 H => ?_)
    refine aw_iload_n (pc := 18) dX0_firstMove_18 rfl ?_
    refine aw_iload_n (pc := 19) dX0_firstMove_19 rfl ?_
    refine cx_nn2 H (fun hg20_2 H => ?_)
    refine cx_callG (pc := 20) (P := pI) (dC := 0) (mcC := 0) (msC := 0) [iv p2, iv p3] hE hR.d (fun r1 H1 => s_X1_options l sc E R hE hR.d n x15 p2 p3 hg20_2 hp2 hp3 m6 r1 H1) ca_X0_39 ⟨_, rfl, rfl⟩ rfl rfl (Nat.le_of_ble_eq_true rfl) (Nat.le_of_ble_eq_true rfl) (Nat.le_of_ble_eq_true rfl) (Nat.le_of_ble_eq_true rfl) dX0_firstMove_20 H (fun x20 m20 v20 hh20 H hp => ?_)
    refine cx_backI hp (fun hx20 => ?_)
    refine jn_ind (fun (f9 : Int → Mem → Option Rz) => ∀ (s0_32 : Int) (m32 : Mem), inR s0_32 → f9 s0_32 m32 = some r → AW l D base sc RX0 yX0_firstMove cX0_firstMove 4 (some FieldType.int) 1 0 0 ad (E mi) (pI E r) 0 0 (E m32) 32 [] [iv s0_32]) (fun s0_32 m32 hs0_32 H => ?_) (fun j32 hj32 H => ?_) H
    · -- 32
      exact cx_iret (pc := 32) hs0_32 rfl (Nat.le_of_ble_eq_true rfl) (Nat.le_of_ble_eq_true rfl) dX0_firstMove_32 H
    refine cx_if_eq (pc := 23) 31 hx20 dX0_firstMove_23 rfl H (fun H => ?_) (fun H => ?_)
    · -- 23: 31
      refine cx_iconst (pc := 31) dX0_firstMove_31 ?_
      exact AW.sel [] rfl (hj32 _ _ (inR_lit _ rfl) H)
    · -- 23: 26
      refine cx_bipush (pc := 26) dX0_firstMove_26 (by decide) ?_
      refine aw_goto (pc := 28) 32 dX0_firstMove_28 rfl ?_
      exact AW.sel [] rfl (hj32 _ _ (inR_lit _ rfl) H)
  · -- 9: 12
    refine cx_iconst (pc := 12) dX0_firstMove_12 ?_
    exact cx_iret (pc := 13) (inR_lit _ rfl) rfl (Nat.le_of_ble_eq_true rfl) (Nat.le_of_ble_eq_true rfl) dX0_firstMove_13 H
/-- X0 fought (I)I -/
def f_X0_fought (n : Nat) (p1 : Int) (mi : Mem) : Option Rz :=
  gtG mi 33 2 fun x1 =>
  isD x1 <|
  isG mi x1 <| cal (f_X1_top n x1 mi) fun x4 m4 =>
  gtG m4 33 3 fun x9 =>
  isD x9 <|
  isG m4 x9 <| cal (f_X1_top n x9 m4) fun x12 m12 =>
  lp (F := Int → Int → Int → Mem → Option Rz) (fun _ _ _ _ => none) (fun w19 v2_19 v3_19 v4_19 m19 =>
    jn (fun (m116 : Mem) =>
      rt v4_19 m116
    ) fun (j116 : Mem → Option Rz) =>
    if v4_19 < 22 then (
      nm (iand (w32 (p1 + v4_19)) 1) fun z32 =>
      cal (f_X0_bestMove n v2_19 v3_19 z32 m19) fun x39 m39 =>
      jn (fun (v6_59 : Int) (m59 : Mem) =>
        if v6_59 < 0 then (
          j116 m59
        ) else
        cal (f_X0_gameOf n v6_59 m59) fun x69 m69 =>
        jn (fun (v2_110 : Int) (v3_110 : Int) (m110 : Mem) =>
          w19 v2_110 v3_110 (w32 (v4_19 + 1)) m110
        ) fun (j110 : Int → Int → Mem → Option Rz) =>
        if x69 = 0 then (
          gtG m69 33 2 fun x76 =>
          cal (f_X0_numberOf n v6_59 m69) fun x84 m84 =>
          isD x76 <|
          isG m84 x76 <| cal (f_X1_numbered n x76 v2_19 z32 x84 m84) fun x87 m87 =>
          j110 x87 v3_19 m87
        ) else
        gtG m69 33 3 fun x95 =>
        cal (f_X0_numberOf n v6_59 m69) fun x103 m103 =>
        isD x95 <|
        isG m103 x95 <| cal (f_X1_numbered n x95 v3_19 z32 x103 m103) fun x106 m106 =>
        j110 v2_19 x106 m106
      ) fun (j59 : Int → Mem → Option Rz) =>
      if x39 < 0 then (
        cal (f_X0_firstMove n v2_19 v3_19 z32 m39) fun x54 m54 =>
        j59 x54 m54
      ) else
      j59 x39 m39
    ) else
    j116 m19
  ) n x4 x12 0 m12
set_option maxRecDepth 100000 in
set_option maxHeartbeats 4000000 in
theorem s_X0_fought (l : Launch) (sc : g_S) (E : Mem → g_H) (R : Nat → Prop) (hE : LE E R) (hR : RCL R) (n : Nat)  (p1 : Int) (hp1 : inR p1) (mi : Mem) (r : Rz) (H : f_X0_fought n p1 mi = some r) : AMet l sc yX0_fought cX0_fought 7 (some FieldType.int) 4 0 0 [.ref 33, iv p1] (E mi) (pI E r) := by
  have r33 : R 33 := hR.1 33 (Nat.le_of_ble_eq_true rfl) (Nat.le_of_ble_eq_true rfl)
  unfold f_X0_fought at H
  refine AMet.of (own := RX0) (by decide +kernel) rfl (Nat.le_of_ble_eq_true rfl) [(0, .ref 33), (1, iv p1)] rfl (fun D base ad => ?_)
  refine aw_aload_n (pc := 0) dX0_fought_0 rfl ?_
  refine cx_gtG (pc := 1) hE r33 fl_X0_18 rfl rfl (Nat.le_of_ble_eq_true rfl) dX0_fought_1 H (fun x1 H => ?_)
  refine cx_nn0 H (fun hg4_1 H => ?_)
  refine cx_callG (pc := 4) (P := pI) (dC := 0) (mcC := 0) (msC := 0) [] hE hR.d (fun r1 H1 => s_X1_top l sc E R hE hR.d n x1 hg4_1 mi r1 H1) ca_X0_47 ⟨_, rfl, rfl⟩ rfl rfl (Nat.le_of_ble_eq_true rfl) (Nat.le_of_ble_eq_true rfl) (Nat.le_of_ble_eq_true rfl) (Nat.le_of_ble_eq_true rfl) dX0_fought_4 H (fun x4 m4 v4 hh4 H hp => ?_)
  refine cx_backI hp (fun hx4 => ?_)
  refine aw_istore_n (pc := 7) [(2, iv x4), (0, .ref 33), (1, iv p1)] dX0_fought_7 rfl (by decide) ?_
  refine aw_aload_n (pc := 8) dX0_fought_8 rfl ?_
  refine cx_gtG (pc := 9) hE r33 fl_X0_22 rfl rfl (Nat.le_of_ble_eq_true rfl) dX0_fought_9 H (fun x9 H => ?_)
  refine cx_nn0 H (fun hg12_2 H => ?_)
  refine cx_callG (pc := 12) (P := pI) (dC := 0) (mcC := 0) (msC := 0) [] hE hR.d (fun r1 H1 => s_X1_top l sc E R hE hR.d n x9 hg12_2 m4 r1 H1) ca_X0_47 ⟨_, rfl, rfl⟩ rfl rfl (Nat.le_of_ble_eq_true rfl) (Nat.le_of_ble_eq_true rfl) (Nat.le_of_ble_eq_true rfl) (Nat.le_of_ble_eq_true rfl) dX0_fought_12 H (fun x12 m12 v12 hh12 H hp => ?_)
  refine cx_backI hp (fun hx12 => ?_)
  refine aw_istore_n (pc := 15) [(3, iv x12), (2, iv x4), (0, .ref 33), (1, iv p1)] dX0_fought_15 rfl (by decide) ?_
  refine cx_iconst (pc := 16) dX0_fought_16 ?_
  refine aw_istore (pc := 17) [(4, iv 0), (3, iv x12), (2, iv x4), (0, .ref 33), (1, iv p1)] dX0_fought_17 rfl (by decide) ?_
  refine AW.sel [3, 4, 2, 1, 0] rfl (lp_ind (bot := fun _ _ _ _ => none) (fun (f9 : Int → Int → Int → Mem → Option Rz) => ∀ (v2_19 : Int) (v3_19 : Int) (v4_19 : Int) (m19 : Mem), inR v2_19 → inR v3_19 → inR v4_19 → f9 v2_19 v3_19 v4_19 m19 = some r → AW l D base sc RX0 yX0_fought cX0_fought 7 (some FieldType.int) 4 0 0 ad (E mi) (pI E r) 0 0 (E m19) 19 [(0, .ref 33), (1, iv p1), (2, iv v2_19), (3, iv v3_19), (4, iv v4_19)] []) (fun _ _ _ _ _ _ _ h9 => nomatch h9) (fun w19 ih19 v2_19 v3_19 v4_19 m19 hv2_19 hv3_19 hv4_19 H => ?_) n _ _ _ _ hx4 hx12 (inR_lit _ rfl) H)
  refine aw_iload (pc := 19) dX0_fought_19 rfl ?_
  refine cx_bipush (pc := 21) dX0_fought_21 (by decide) ?_
  refine jn_ind (fun (f9 : Mem → Option Rz) => ∀ (m116 : Mem), f9 m116 = some r → AW l D base sc RX0 yX0_fought cX0_fought 7 (some FieldType.int) 4 0 0 ad (E mi) (pI E r) 0 0 (E m116) 116 [(4, iv v4_19)] []) (fun m116 H => ?_) (fun j116 hj116 H => ?_) H
  · -- 116
    refine aw_iload (pc := 116) dX0_fought_116 rfl ?_
    exact cx_iret (pc := 118) hv4_19 rfl (Nat.le_of_ble_eq_true rfl) (Nat.le_of_ble_eq_true rfl) dX0_fought_118 H
  refine cx_icmp_ge (pc := 23) 116 hv4_19 (inR_lit _ rfl) dX0_fought_23 rfl H (fun H => ?_) (fun H => ?_)
  · -- 23: 26
    refine aw_iload_n (pc := 26) dX0_fought_26 rfl ?_
    refine aw_iload (pc := 27) dX0_fought_27 rfl ?_
    refine cx_iadd (pc := 29) dX0_fought_29 ?_
    refine cx_iconst (pc := 30) dX0_fought_30 ?_
    refine cx_iand (pc := 31) dX0_fought_31 ?_
    refine cx_nm (inR_32 _) H (fun z32 hz32 H => ?_)
    refine aw_istore (pc := 32) [(5, iv z32), (0, .ref 33), (1, iv p1), (2, iv v2_19), (3, iv v3_19), (4, iv v4_19)] dX0_fought_32 rfl (by decide) ?_
    refine aw_aload_n (pc := 34) dX0_fought_34 rfl ?_
    refine aw_iload_n (pc := 35) dX0_fought_35 rfl ?_
    refine aw_iload_n (pc := 36) dX0_fought_36 rfl ?_
    refine aw_iload (pc := 37) dX0_fought_37 rfl ?_
    refine cx_callV (pc := 39) (P := pI) (dC := 3) (mcC := 0) (msC := 0) [iv v2_19, iv v3_19, iv z32] hE r33 (fun r1 H1 => s_X0_bestMove l sc E R hE hR n v2_19 v3_19 z32 hv2_19 hv3_19 hz32 m19 r1 H1) ca_X0_50 rfl ⟨_, rfl, rfl⟩ rfl rfl (Nat.le_of_ble_eq_true rfl) (Nat.le_of_ble_eq_true rfl) (Nat.le_of_ble_eq_true rfl) (Nat.le_of_ble_eq_true rfl) dX0_fought_39 H (fun x39 m39 v39 hh39 H hp => ?_)
    refine cx_backI hp (fun hx39 => ?_)
    refine aw_istore (pc := 42) [(6, iv x39), (5, iv z32), (0, .ref 33), (1, iv p1), (2, iv v2_19), (3, iv v3_19), (4, iv v4_19)] dX0_fought_42 rfl (by decide) ?_
    refine aw_iload (pc := 44) dX0_fought_44 rfl ?_
    refine jn_ind (fun (f9 : Int → Mem → Option Rz) => ∀ (v6_59 : Int) (m59 : Mem), inR v6_59 → f9 v6_59 m59 = some r → AW l D base sc RX0 yX0_fought cX0_fought 7 (some FieldType.int) 4 0 0 ad (E mi) (pI E r) 0 0 (E m59) 59 [(0, .ref 33), (1, iv p1), (2, iv v2_19), (3, iv v3_19), (4, iv v4_19), (5, iv z32), (6, iv v6_59)] []) (fun v6_59 m59 hv6_59 H => ?_) (fun j59 hj59 H => ?_) H
    · -- 59
      refine aw_iload (pc := 59) dX0_fought_59 rfl ?_
      refine cx_if_ge (pc := 61) 67 hv6_59 dX0_fought_61 rfl H (fun H => ?_) (fun H => ?_)
      · -- 61: 64
        refine aw_goto (pc := 64) 116 dX0_fought_64 rfl ?_
        exact AW.sel [4] rfl (hj116 _ H)
      · -- 61: 67
        refine aw_iload (pc := 67) dX0_fought_67 rfl ?_
        refine cx_callS (pc := 69) (P := pI) (dC := 0) (mcC := 0) (msC := 0) [iv v6_59] (fun r1 H1 => s_X0_gameOf l sc E R hE hR n v6_59 hv6_59 m59 r1 H1) ca_X0_56 rfl rfl (Nat.le_of_ble_eq_true rfl) (Nat.le_of_ble_eq_true rfl) (Nat.le_of_ble_eq_true rfl) (Nat.le_of_ble_eq_true rfl) dX0_fought_69 H (fun x69 m69 v69 hh69 H hp => ?_)
        refine cx_backI hp (fun hx69 => ?_)
        refine jn_ind (fun (f9 : Int → Int → Mem → Option Rz) => ∀ (v2_110 : Int) (v3_110 : Int) (m110 : Mem), inR v2_110 → inR v3_110 → f9 v2_110 v3_110 m110 = some r → AW l D base sc RX0 yX0_fought cX0_fought 7 (some FieldType.int) 4 0 0 ad (E mi) (pI E r) 0 0 (E m110) 110 [(0, .ref 33), (1, iv p1), (2, iv v2_110), (3, iv v3_110), (4, iv v4_19)] []) (fun v2_110 v3_110 m110 hv2_110 hv3_110 H => ?_) (fun j110 hj110 H => ?_) H
        · -- 110
          refine cx_iinc (pc := 110) [(4, iv (w32 (v4_19 + 1))), (0, .ref 33), (1, iv p1), (2, iv v2_110), (3, iv v3_110)] dX0_fought_110 rfl rfl (by decide) ?_
          refine aw_goto (pc := 113) 19 dX0_fought_113 rfl ?_
          exact AW.sel [1, 2, 3, 4, 0] rfl (ih19 _ _ _ _ hv2_110 hv3_110 (inR_w32 _) H)
        refine cx_if_ne (pc := 72) 94 hx69 dX0_fought_72 rfl H (fun H => ?_) (fun H => ?_)
        · -- 72: 75
          refine aw_aload_n (pc := 75) dX0_fought_75 rfl ?_
          refine cx_gtG (pc := 76) hE r33 fl_X0_18 rfl rfl (Nat.le_of_ble_eq_true rfl) dX0_fought_76 H (fun x76 H => ?_)
          refine aw_iload_n (pc := 79) dX0_fought_79 rfl ?_
          refine aw_iload (pc := 80) dX0_fought_80 rfl ?_
          refine aw_iload (pc := 82) dX0_fought_82 rfl ?_
          refine cx_callS (pc := 84) (P := pI) (dC := 0) (mcC := 0) (msC := 0) [iv v6_59] (fun r1 H1 => s_X0_numberOf l sc E R hE hR n v6_59 hv6_59 m69 r1 H1) ca_X0_60 rfl rfl (Nat.le_of_ble_eq_true rfl) (Nat.le_of_ble_eq_true rfl) (Nat.le_of_ble_eq_true rfl) (Nat.le_of_ble_eq_true rfl) dX0_fought_84 H (fun x84 m84 v84 hh84 H hp => ?_)
          refine cx_backI hp (fun hx84 => ?_)
          refine cx_nn3 H (fun hg87_3 H => ?_)
          refine cx_callG (pc := 87) (P := pI) (dC := 2) (mcC := 0) (msC := 0) [iv v2_19, iv z32, iv x84] hE hR.d (fun r1 H1 => s_X1_numbered l sc E R hE hR.d n x76 v2_19 z32 x84 hg87_3 hv2_19 hz32 hx84 m84 r1 H1) ca_X0_43 ⟨_, rfl, rfl⟩ rfl rfl (Nat.le_of_ble_eq_true rfl) (Nat.le_of_ble_eq_true rfl) (Nat.le_of_ble_eq_true rfl) (Nat.le_of_ble_eq_true rfl) dX0_fought_87 H (fun x87 m87 v87 hh87 H hp => ?_)
          refine cx_backI hp (fun hx87 => ?_)
          refine aw_istore_n (pc := 90) [(2, iv x87), (0, .ref 33), (1, iv p1), (3, iv v3_19), (4, iv v4_19), (5, iv z32), (6, iv v6_59)] dX0_fought_90 rfl (by decide) ?_
          refine aw_goto (pc := 91) 110 dX0_fought_91 rfl ?_
          exact AW.sel [1, 2, 0, 3, 4] rfl (hj110 _ _ _ hx87 hv3_19 H)
        · -- 72: 94
          refine aw_aload_n (pc := 94) dX0_fought_94 rfl ?_
          refine cx_gtG (pc := 95) hE r33 fl_X0_22 rfl rfl (Nat.le_of_ble_eq_true rfl) dX0_fought_95 H (fun x95 H => ?_)
          refine aw_iload_n (pc := 98) dX0_fought_98 rfl ?_
          refine aw_iload (pc := 99) dX0_fought_99 rfl ?_
          refine aw_iload (pc := 101) dX0_fought_101 rfl ?_
          refine cx_callS (pc := 103) (P := pI) (dC := 0) (mcC := 0) (msC := 0) [iv v6_59] (fun r1 H1 => s_X0_numberOf l sc E R hE hR n v6_59 hv6_59 m69 r1 H1) ca_X0_60 rfl rfl (Nat.le_of_ble_eq_true rfl) (Nat.le_of_ble_eq_true rfl) (Nat.le_of_ble_eq_true rfl) (Nat.le_of_ble_eq_true rfl) dX0_fought_103 H (fun x103 m103 v103 hh103 H hp => ?_)
          refine cx_backI hp (fun hx103 => ?_)
          refine cx_nn3 H (fun hg106_4 H => ?_)
          refine cx_callG (pc := 106) (P := pI) (dC := 2) (mcC := 0) (msC := 0) [iv v3_19, iv z32, iv x103] hE hR.d (fun r1 H1 => s_X1_numbered l sc E R hE hR.d n x95 v3_19 z32 x103 hg106_4 hv3_19 hz32 hx103 m103 r1 H1) ca_X0_43 ⟨_, rfl, rfl⟩ rfl rfl (Nat.le_of_ble_eq_true rfl) (Nat.le_of_ble_eq_true rfl) (Nat.le_of_ble_eq_true rfl) (Nat.le_of_ble_eq_true rfl) dX0_fought_106 H (fun x106 m106 v106 hh106 H hp => ?_)
          refine cx_backI hp (fun hx106 => ?_)
          refine aw_istore_n (pc := 109) [(3, iv x106), (0, .ref 33), (1, iv p1), (2, iv v2_19), (4, iv v4_19), (5, iv z32), (6, iv v6_59)] dX0_fought_109 rfl (by decide) ?_
          exact AW.sel [1, 2, 3, 0, 4] rfl (hj110 _ _ _ hv2_19 hx106 H)
    refine cx_if_ge (pc := 46) 59 hx39 dX0_fought_46 rfl H (fun H => ?_) (fun H => ?_)
    · -- 46: 49
      refine aw_aload_n (pc := 49) dX0_fought_49 rfl ?_
      refine aw_iload_n (pc := 50) dX0_fought_50 rfl ?_
      refine aw_iload_n (pc := 51) dX0_fought_51 rfl ?_
      refine aw_iload (pc := 52) dX0_fought_52 rfl ?_
      refine cx_callV (pc := 54) (P := pI) (dC := 1) (mcC := 0) (msC := 0) [iv v2_19, iv v3_19, iv z32] hE r33 (fun r1 H1 => s_X0_firstMove l sc E R hE hR n v2_19 v3_19 z32 hv2_19 hv3_19 hz32 m39 r1 H1) ca_X0_53 rfl ⟨_, rfl, rfl⟩ rfl rfl (Nat.le_of_ble_eq_true rfl) (Nat.le_of_ble_eq_true rfl) (Nat.le_of_ble_eq_true rfl) (Nat.le_of_ble_eq_true rfl) dX0_fought_54 H (fun x54 m54 v54 hh54 H hp => ?_)
      refine cx_backI hp (fun hx54 => ?_)
      refine aw_istore (pc := 57) [(6, iv x54), (5, iv z32), (0, .ref 33), (1, iv p1), (2, iv v2_19), (3, iv v3_19), (4, iv v4_19)] dX0_fought_57 rfl (by decide) ?_
      exact AW.sel [2, 3, 4, 5, 6, 1, 0] rfl (hj59 _ _ hx54 H)
    · -- 46: 59
      exact AW.sel [2, 3, 4, 5, 6, 1, 0] rfl (hj59 _ _ hx39 H)
  · -- 23: 116
    exact AW.sel [4] rfl (hj116 _ H)
theorem dX4_dayOf_0 : decode cX4_dayOf 0 = .ok (.iconst (-1), 1) := by decide +kernel
theorem dX4_dayOf_1 : decode cX4_dayOf 1 = .ok (.istore_n 2, 1) := by decide +kernel
theorem dX4_dayOf_2 : decode cX4_dayOf 2 = .ok (.iconst 0, 1) := by decide +kernel
theorem dX4_dayOf_3 : decode cX4_dayOf 3 = .ok (.istore_n 3, 1) := by decide +kernel
theorem dX4_dayOf_4 : decode cX4_dayOf 4 = .ok (.iload_n 3, 1) := by decide +kernel
theorem dX4_dayOf_5 : decode cX4_dayOf 5 = .ok (.iload_n 1, 1) := by decide +kernel
theorem dX4_dayOf_6 : decode cX4_dayOf 6 = .ok (.if_icmp .ge 49, 3) := by decide +kernel
theorem dX4_dayOf_9 : decode cX4_dayOf 9 = .ok (.iload_n 1, 1) := by decide +kernel
theorem dX4_dayOf_10 : decode cX4_dayOf 10 = .ok (.aload_n 0, 1) := by decide +kernel
theorem dX4_dayOf_11 : decode cX4_dayOf 11 = .ok (.getfield 21, 3) := by decide +kernel
theorem dX4_dayOf_14 : decode cX4_dayOf 14 = .ok (.arraylength, 1) := by decide +kernel
theorem dX4_dayOf_15 : decode cX4_dayOf 15 = .ok (.if_icmp .ge 40, 3) := by decide +kernel
theorem dX4_dayOf_18 : decode cX4_dayOf 18 = .ok (.aload_n 0, 1) := by decide +kernel
theorem dX4_dayOf_19 : decode cX4_dayOf 19 = .ok (.getfield 15, 3) := by decide +kernel
theorem dX4_dayOf_22 : decode cX4_dayOf 22 = .ok (.iload_n 1, 1) := by decide +kernel
theorem dX4_dayOf_23 : decode cX4_dayOf 23 = .ok (.iaload, 1) := by decide +kernel
theorem dX4_dayOf_24 : decode cX4_dayOf 24 = .ok (.aload_n 0, 1) := by decide +kernel
theorem dX4_dayOf_25 : decode cX4_dayOf 25 = .ok (.getfield 18, 3) := by decide +kernel
theorem dX4_dayOf_28 : decode cX4_dayOf 28 = .ok (.iload_n 1, 1) := by decide +kernel
theorem dX4_dayOf_29 : decode cX4_dayOf 29 = .ok (.iaload, 1) := by decide +kernel
theorem dX4_dayOf_30 : decode cX4_dayOf 30 = .ok (.ior, 1) := by decide +kernel
theorem dX4_dayOf_31 : decode cX4_dayOf 31 = .ok (.iload_n 3, 1) := by decide +kernel
theorem dX4_dayOf_32 : decode cX4_dayOf 32 = .ok (.ishr, 1) := by decide +kernel
theorem dX4_dayOf_33 : decode cX4_dayOf 33 = .ok (.iconst 1, 1) := by decide +kernel
theorem dX4_dayOf_34 : decode cX4_dayOf 34 = .ok (.iand, 1) := by decide +kernel
theorem dX4_dayOf_35 : decode cX4_dayOf 35 = .ok (.ifCond .eq 14, 3) := by decide +kernel
theorem dX4_dayOf_38 : decode cX4_dayOf 38 = .ok (.iload_n 2, 1) := by decide +kernel
theorem dX4_dayOf_39 : decode cX4_dayOf 39 = .ok (.aload_n 0, 1) := by decide +kernel
theorem dX4_dayOf_40 : decode cX4_dayOf 40 = .ok (.getfield 21, 3) := by decide +kernel
theorem dX4_dayOf_43 : decode cX4_dayOf 43 = .ok (.iload_n 3, 1) := by decide +kernel
theorem dX4_dayOf_44 : decode cX4_dayOf 44 = .ok (.iaload, 1) := by decide +kernel
theorem dX4_dayOf_45 : decode cX4_dayOf 45 = .ok (.invokestatic 80, 3) := by decide +kernel
theorem dX4_dayOf_48 : decode cX4_dayOf 48 = .ok (.istore_n 2, 1) := by decide +kernel
theorem dX4_dayOf_49 : decode cX4_dayOf 49 = .ok (.iinc 3 1, 3) := by decide +kernel
theorem dX4_dayOf_52 : decode cX4_dayOf 52 = .ok (.goto (-48), 3) := by decide +kernel
theorem dX4_dayOf_55 : decode cX4_dayOf 55 = .ok (.iload_n 2, 1) := by decide +kernel
theorem dX4_dayOf_56 : decode cX4_dayOf 56 = .ok (.iconst 1, 1) := by decide +kernel
theorem dX4_dayOf_57 : decode cX4_dayOf 57 = .ok (.iadd, 1) := by decide +kernel
theorem dX4_dayOf_58 : decode cX4_dayOf 58 = .ok (.ireturn, 1) := by decide +kernel
theorem dX4_heapOf_0 : decode cX4_heapOf 0 = .ok (.iload_n 1, 1) := by decide +kernel
theorem dX4_heapOf_1 : decode cX4_heapOf 1 = .ok (.ifCond .lt 27, 3) := by decide +kernel
theorem dX4_heapOf_4 : decode cX4_heapOf 4 = .ok (.iload_n 1, 1) := by decide +kernel
theorem dX4_heapOf_5 : decode cX4_heapOf 5 = .ok (.aload_n 0, 1) := by decide +kernel
theorem dX4_heapOf_6 : decode cX4_heapOf 6 = .ok (.getfield 15, 3) := by decide +kernel
theorem dX4_heapOf_9 : decode cX4_heapOf 9 = .ok (.arraylength, 1) := by decide +kernel
theorem dX4_heapOf_10 : decode cX4_heapOf 10 = .ok (.if_icmp .ge 18, 3) := by decide +kernel
theorem dX4_heapOf_13 : decode cX4_heapOf 13 = .ok (.aload_n 0, 1) := by decide +kernel
theorem dX4_heapOf_14 : decode cX4_heapOf 14 = .ok (.getfield 15, 3) := by decide +kernel
theorem dX4_heapOf_17 : decode cX4_heapOf 17 = .ok (.iload_n 1, 1) := by decide +kernel
theorem dX4_heapOf_18 : decode cX4_heapOf 18 = .ok (.iaload, 1) := by decide +kernel
theorem dX4_heapOf_19 : decode cX4_heapOf 19 = .ok (.aload_n 0, 1) := by decide +kernel
theorem dX4_heapOf_20 : decode cX4_heapOf 20 = .ok (.getfield 18, 3) := by decide +kernel
theorem dX4_heapOf_23 : decode cX4_heapOf 23 = .ok (.iload_n 1, 1) := by decide +kernel
theorem dX4_heapOf_24 : decode cX4_heapOf 24 = .ok (.iaload, 1) := by decide +kernel
theorem dX4_heapOf_25 : decode cX4_heapOf 25 = .ok (.if_icmp .eq 5, 3) := by decide +kernel
theorem dX4_heapOf_28 : decode cX4_heapOf 28 = .ok (.iconst (-1), 1) := by decide +kernel
theorem dX4_heapOf_29 : decode cX4_heapOf 29 = .ok (.ireturn, 1) := by decide +kernel
theorem dX4_heapOf_30 : decode cX4_heapOf 30 = .ok (.aload_n 0, 1) := by decide +kernel
theorem dX4_heapOf_31 : decode cX4_heapOf 31 = .ok (.getfield 15, 3) := by decide +kernel
theorem dX4_heapOf_34 : decode cX4_heapOf 34 = .ok (.iload_n 1, 1) := by decide +kernel
theorem dX4_heapOf_35 : decode cX4_heapOf 35 = .ok (.iaload, 1) := by decide +kernel
theorem dX4_heapOf_36 : decode cX4_heapOf 36 = .ok (.invokestatic 85, 3) := by decide +kernel
theorem dX4_heapOf_39 : decode cX4_heapOf 39 = .ok (.istore_n 2, 1) := by decide +kernel
theorem dX4_heapOf_40 : decode cX4_heapOf 40 = .ok (.iconst 0, 1) := by decide +kernel
theorem dX4_heapOf_41 : decode cX4_heapOf 41 = .ok (.istore_n 3, 1) := by decide +kernel
theorem dX4_heapOf_42 : decode cX4_heapOf 42 = .ok (.iload_n 3, 1) := by decide +kernel
theorem dX4_heapOf_43 : decode cX4_heapOf 43 = .ok (.iload_n 1, 1) := by decide +kernel
theorem dX4_heapOf_44 : decode cX4_heapOf 44 = .ok (.if_icmp .ge 43, 3) := by decide +kernel
theorem dX4_heapOf_47 : decode cX4_heapOf 47 = .ok (.aload_n 0, 1) := by decide +kernel
theorem dX4_heapOf_48 : decode cX4_heapOf 48 = .ok (.getfield 15, 3) := by decide +kernel
theorem dX4_heapOf_51 : decode cX4_heapOf 51 = .ok (.iload_n 1, 1) := by decide +kernel
theorem dX4_heapOf_52 : decode cX4_heapOf 52 = .ok (.iaload, 1) := by decide +kernel
theorem dX4_heapOf_53 : decode cX4_heapOf 53 = .ok (.iload_n 3, 1) := by decide +kernel
theorem dX4_heapOf_54 : decode cX4_heapOf 54 = .ok (.ishr, 1) := by decide +kernel
theorem dX4_heapOf_55 : decode cX4_heapOf 55 = .ok (.iconst 1, 1) := by decide +kernel
theorem dX4_heapOf_56 : decode cX4_heapOf 56 = .ok (.iand, 1) := by decide +kernel
theorem dX4_heapOf_57 : decode cX4_heapOf 57 = .ok (.ifCond .eq 24, 3) := by decide +kernel
theorem dX4_heapOf_60 : decode cX4_heapOf 60 = .ok (.aload_n 0, 1) := by decide +kernel
theorem dX4_heapOf_61 : decode cX4_heapOf 61 = .ok (.getfield 24, 3) := by decide +kernel
theorem dX4_heapOf_64 : decode cX4_heapOf 64 = .ok (.iload_n 3, 1) := by decide +kernel
theorem dX4_heapOf_65 : decode cX4_heapOf 65 = .ok (.iaload, 1) := by decide +kernel
theorem dX4_heapOf_66 : decode cX4_heapOf 66 = .ok (.ifCond .lt 13, 3) := by decide +kernel
theorem dX4_heapOf_69 : decode cX4_heapOf 69 = .ok (.aload_n 0, 1) := by decide +kernel
theorem dX4_heapOf_70 : decode cX4_heapOf 70 = .ok (.getfield 24, 3) := by decide +kernel
theorem dX4_heapOf_73 : decode cX4_heapOf 73 = .ok (.iload_n 3, 1) := by decide +kernel
theorem dX4_heapOf_74 : decode cX4_heapOf 74 = .ok (.iaload, 1) := by decide +kernel
theorem dX4_heapOf_75 : decode cX4_heapOf 75 = .ok (.iload_n 2, 1) := by decide +kernel
theorem dX4_heapOf_76 : decode cX4_heapOf 76 = .ok (.if_icmp .lt 5, 3) := by decide +kernel
theorem dX4_heapOf_79 : decode cX4_heapOf 79 = .ok (.iconst (-1), 1) := by decide +kernel
theorem dX4_heapOf_80 : decode cX4_heapOf 80 = .ok (.ireturn, 1) := by decide +kernel
theorem dX4_heapOf_81 : decode cX4_heapOf 81 = .ok (.iinc 3 1, 3) := by decide +kernel
theorem dX4_heapOf_84 : decode cX4_heapOf 84 = .ok (.goto (-42), 3) := by decide +kernel
theorem dX4_heapOf_87 : decode cX4_heapOf 87 = .ok (.iload_n 2, 1) := by decide +kernel
theorem dX4_heapOf_88 : decode cX4_heapOf 88 = .ok (.ireturn, 1) := by decide +kernel
theorem dX4_isAhead_0 : decode cX4_isAhead 0 = .ok (.iload_n 1, 1) := by decide +kernel
theorem dX4_isAhead_1 : decode cX4_isAhead 1 = .ok (.ifCond .lt 25, 3) := by decide +kernel
theorem dX4_isAhead_4 : decode cX4_isAhead 4 = .ok (.iload_n 2, 1) := by decide +kernel
theorem dX4_isAhead_5 : decode cX4_isAhead 5 = .ok (.ifCond .lt 21, 3) := by decide +kernel
theorem dX4_isAhead_8 : decode cX4_isAhead 8 = .ok (.iload_n 1, 1) := by decide +kernel
theorem dX4_isAhead_9 : decode cX4_isAhead 9 = .ok (.aload_n 0, 1) := by decide +kernel
theorem dX4_isAhead_10 : decode cX4_isAhead 10 = .ok (.getfield 33, 3) := by decide +kernel
theorem dX4_isAhead_13 : decode cX4_isAhead 13 = .ok (.arraylength, 1) := by decide +kernel
theorem dX4_isAhead_14 : decode cX4_isAhead 14 = .ok (.if_icmp .ge 12, 3) := by decide +kernel
theorem dX4_isAhead_17 : decode cX4_isAhead 17 = .ok (.iload_n 2, 1) := by decide +kernel
theorem dX4_isAhead_18 : decode cX4_isAhead 18 = .ok (.aload_n 0, 1) := by decide +kernel
theorem dX4_isAhead_19 : decode cX4_isAhead 19 = .ok (.getfield 33, 3) := by decide +kernel
theorem dX4_isAhead_22 : decode cX4_isAhead 22 = .ok (.arraylength, 1) := by decide +kernel
theorem dX4_isAhead_23 : decode cX4_isAhead 23 = .ok (.if_icmp .lt 5, 3) := by decide +kernel
theorem dX4_isAhead_26 : decode cX4_isAhead 26 = .ok (.iconst 0, 1) := by decide +kernel
theorem dX4_isAhead_27 : decode cX4_isAhead 27 = .ok (.ireturn, 1) := by decide +kernel
theorem dX4_isAhead_28 : decode cX4_isAhead 28 = .ok (.aload_n 0, 1) := by decide +kernel
theorem dX4_isAhead_29 : decode cX4_isAhead 29 = .ok (.getfield 33, 3) := by decide +kernel
theorem dX4_isAhead_32 : decode cX4_isAhead 32 = .ok (.iload_n 1, 1) := by decide +kernel
theorem dX4_isAhead_33 : decode cX4_isAhead 33 = .ok (.iaload, 1) := by decide +kernel
theorem dX4_isAhead_34 : decode cX4_isAhead 34 = .ok (.aload_n 0, 1) := by decide +kernel
theorem dX4_isAhead_35 : decode cX4_isAhead 35 = .ok (.getfield 33, 3) := by decide +kernel
theorem dX4_isAhead_38 : decode cX4_isAhead 38 = .ok (.iload_n 2, 1) := by decide +kernel
theorem dX4_isAhead_39 : decode cX4_isAhead 39 = .ok (.iaload, 1) := by decide +kernel
theorem dX4_isAhead_40 : decode cX4_isAhead 40 = .ok (.if_icmp .eq 24, 3) := by decide +kernel
theorem dX4_isAhead_43 : decode cX4_isAhead 43 = .ok (.aload_n 0, 1) := by decide +kernel
theorem dX4_isAhead_44 : decode cX4_isAhead 44 = .ok (.getfield 33, 3) := by decide +kernel
theorem dX4_isAhead_47 : decode cX4_isAhead 47 = .ok (.iload_n 1, 1) := by decide +kernel
theorem dX4_isAhead_48 : decode cX4_isAhead 48 = .ok (.iaload, 1) := by decide +kernel
theorem dX4_isAhead_49 : decode cX4_isAhead 49 = .ok (.aload_n 0, 1) := by decide +kernel
theorem dX4_isAhead_50 : decode cX4_isAhead 50 = .ok (.getfield 33, 3) := by decide +kernel
theorem dX4_isAhead_53 : decode cX4_isAhead 53 = .ok (.iload_n 2, 1) := by decide +kernel
theorem dX4_isAhead_54 : decode cX4_isAhead 54 = .ok (.iaload, 1) := by decide +kernel
theorem dX4_isAhead_55 : decode cX4_isAhead 55 = .ok (.if_icmp .ge 7, 3) := by decide +kernel
theorem dX4_isAhead_58 : decode cX4_isAhead 58 = .ok (.iconst 1, 1) := by decide +kernel
theorem dX4_isAhead_59 : decode cX4_isAhead 59 = .ok (.goto 4, 3) := by decide +kernel
theorem dX4_isAhead_62 : decode cX4_isAhead 62 = .ok (.iconst 0, 1) := by decide +kernel
theorem dX4_isAhead_63 : decode cX4_isAhead 63 = .ok (.ireturn, 1) := by decide +kernel
theorem dX4_isAhead_64 : decode cX4_isAhead 64 = .ok (.iconst 0, 1) := by decide +kernel
theorem dX4_isAhead_65 : decode cX4_isAhead 65 = .ok (.istore_n 3, 1) := by decide +kernel
theorem dX4_isAhead_66 : decode cX4_isAhead 66 = .ok (.iload_n 3, 1) := by decide +kernel
theorem dX4_isAhead_67 : decode cX4_isAhead 67 = .ok (.aload_n 0, 1) := by decide +kernel
theorem dX4_isAhead_68 : decode cX4_isAhead 68 = .ok (.getfield 33, 3) := by decide +kernel
theorem dX4_isAhead_71 : decode cX4_isAhead 71 = .ok (.iload_n 1, 1) := by decide +kernel
theorem dX4_isAhead_72 : decode cX4_isAhead 72 = .ok (.iaload, 1) := by decide +kernel
theorem dX4_isAhead_73 : decode cX4_isAhead 73 = .ok (.if_icmp .ge 61, 3) := by decide +kernel
theorem dX4_isAhead_76 : decode cX4_isAhead 76 = .ok (.iload_n 3, 1) := by decide +kernel
theorem dX4_isAhead_77 : decode cX4_isAhead 77 = .ok (.bipush 100, 2) := by decide +kernel
theorem dX4_isAhead_79 : decode cX4_isAhead 79 = .ok (.if_icmp .ge 55, 3) := by decide +kernel
theorem dX4_isAhead_82 : decode cX4_isAhead 82 = .ok (.aload_n 0, 1) := by decide +kernel
theorem dX4_isAhead_83 : decode cX4_isAhead 83 = .ok (.getfield 36, 3) := by decide +kernel
theorem dX4_isAhead_86 : decode cX4_isAhead 86 = .ok (.iload_n 1, 1) := by decide +kernel
theorem dX4_isAhead_87 : decode cX4_isAhead 87 = .ok (.bipush 100, 2) := by decide +kernel
theorem dX4_isAhead_89 : decode cX4_isAhead 89 = .ok (.imul, 1) := by decide +kernel
theorem dX4_isAhead_90 : decode cX4_isAhead 90 = .ok (.iload_n 3, 1) := by decide +kernel
theorem dX4_isAhead_91 : decode cX4_isAhead 91 = .ok (.iadd, 1) := by decide +kernel
theorem dX4_isAhead_92 : decode cX4_isAhead 92 = .ok (.baload, 1) := by decide +kernel
theorem dX4_isAhead_93 : decode cX4_isAhead 93 = .ok (.istore 4, 2) := by decide +kernel
theorem dX4_isAhead_95 : decode cX4_isAhead 95 = .ok (.aload_n 0, 1) := by decide +kernel
theorem dX4_isAhead_96 : decode cX4_isAhead 96 = .ok (.getfield 36, 3) := by decide +kernel
theorem dX4_isAhead_99 : decode cX4_isAhead 99 = .ok (.iload_n 2, 1) := by decide +kernel
theorem dX4_isAhead_100 : decode cX4_isAhead 100 = .ok (.bipush 100, 2) := by decide +kernel
theorem dX4_isAhead_102 : decode cX4_isAhead 102 = .ok (.imul, 1) := by decide +kernel
theorem dX4_isAhead_103 : decode cX4_isAhead 103 = .ok (.iload_n 3, 1) := by decide +kernel
theorem dX4_isAhead_104 : decode cX4_isAhead 104 = .ok (.iadd, 1) := by decide +kernel
theorem dX4_isAhead_105 : decode cX4_isAhead 105 = .ok (.baload, 1) := by decide +kernel
theorem dX4_isAhead_106 : decode cX4_isAhead 106 = .ok (.istore 5, 2) := by decide +kernel
theorem dX4_isAhead_108 : decode cX4_isAhead 108 = .ok (.iload 4, 2) := by decide +kernel
theorem dX4_isAhead_110 : decode cX4_isAhead 110 = .ok (.iload 5, 2) := by decide +kernel
theorem dX4_isAhead_112 : decode cX4_isAhead 112 = .ok (.if_icmp .eq 16, 3) := by decide +kernel
theorem dX4_isAhead_115 : decode cX4_isAhead 115 = .ok (.iload 4, 2) := by decide +kernel
theorem dX4_isAhead_117 : decode cX4_isAhead 117 = .ok (.iload 5, 2) := by decide +kernel
theorem dX4_isAhead_119 : decode cX4_isAhead 119 = .ok (.if_icmp .ge 7, 3) := by decide +kernel
theorem dX4_isAhead_122 : decode cX4_isAhead 122 = .ok (.iconst 1, 1) := by decide +kernel
theorem dX4_isAhead_123 : decode cX4_isAhead 123 = .ok (.goto 4, 3) := by decide +kernel
theorem dX4_isAhead_126 : decode cX4_isAhead 126 = .ok (.iconst 0, 1) := by decide +kernel
theorem dX4_isAhead_127 : decode cX4_isAhead 127 = .ok (.ireturn, 1) := by decide +kernel
theorem dX4_isAhead_128 : decode cX4_isAhead 128 = .ok (.iinc 3 1, 3) := by decide +kernel
theorem dX4_isAhead_131 : decode cX4_isAhead 131 = .ok (.goto (-65), 3) := by decide +kernel
theorem dX4_isAhead_134 : decode cX4_isAhead 134 = .ok (.iconst 0, 1) := by decide +kernel
theorem dX4_isAhead_135 : decode cX4_isAhead 135 = .ok (.ireturn, 1) := by decide +kernel
theorem dX4_maskOf_0 : decode cX4_maskOf 0 = .ok (.iconst 0, 1) := by decide +kernel
theorem dX4_maskOf_1 : decode cX4_maskOf 1 = .ok (.istore_n 3, 1) := by decide +kernel
theorem dX4_maskOf_2 : decode cX4_maskOf 2 = .ok (.iconst 0, 1) := by decide +kernel
theorem dX4_maskOf_3 : decode cX4_maskOf 3 = .ok (.istore 4, 2) := by decide +kernel
theorem dX4_maskOf_5 : decode cX4_maskOf 5 = .ok (.iload 4, 2) := by decide +kernel
theorem dX4_maskOf_7 : decode cX4_maskOf 7 = .ok (.iload_n 1, 1) := by decide +kernel
theorem dX4_maskOf_8 : decode cX4_maskOf 8 = .ok (.if_icmp .ge 49, 3) := by decide +kernel
theorem dX4_maskOf_11 : decode cX4_maskOf 11 = .ok (.iload_n 1, 1) := by decide +kernel
theorem dX4_maskOf_12 : decode cX4_maskOf 12 = .ok (.aload_n 0, 1) := by decide +kernel
theorem dX4_maskOf_13 : decode cX4_maskOf 13 = .ok (.getfield 9, 3) := by decide +kernel
theorem dX4_maskOf_16 : decode cX4_maskOf 16 = .ok (.arraylength, 1) := by decide +kernel
theorem dX4_maskOf_17 : decode cX4_maskOf 17 = .ok (.if_icmp .ge 40, 3) := by decide +kernel
theorem dX4_maskOf_20 : decode cX4_maskOf 20 = .ok (.aload_n 0, 1) := by decide +kernel
theorem dX4_maskOf_21 : decode cX4_maskOf 21 = .ok (.getfield 40, 3) := by decide +kernel
theorem dX4_maskOf_24 : decode cX4_maskOf 24 = .ok (.aload_n 0, 1) := by decide +kernel
theorem dX4_maskOf_25 : decode cX4_maskOf 25 = .ok (.getfield 9, 3) := by decide +kernel
theorem dX4_maskOf_28 : decode cX4_maskOf 28 = .ok (.iload_n 1, 1) := by decide +kernel
theorem dX4_maskOf_29 : decode cX4_maskOf 29 = .ok (.iaload, 1) := by decide +kernel
theorem dX4_maskOf_30 : decode cX4_maskOf 30 = .ok (.iload_n 2, 1) := by decide +kernel
theorem dX4_maskOf_31 : decode cX4_maskOf 31 = .ok (.aload_n 0, 1) := by decide +kernel
theorem dX4_maskOf_32 : decode cX4_maskOf 32 = .ok (.getfield 9, 3) := by decide +kernel
theorem dX4_maskOf_35 : decode cX4_maskOf 35 = .ok (.iload 4, 2) := by decide +kernel
theorem dX4_maskOf_37 : decode cX4_maskOf 37 = .ok (.iaload, 1) := by decide +kernel
theorem dX4_maskOf_38 : decode cX4_maskOf 38 = .ok (.invokevirtual 76, 3) := by decide +kernel
theorem dX4_maskOf_41 : decode cX4_maskOf 41 = .ok (.ifCond .eq 10, 3) := by decide +kernel
theorem dX4_maskOf_44 : decode cX4_maskOf 44 = .ok (.iload_n 3, 1) := by decide +kernel
theorem dX4_maskOf_45 : decode cX4_maskOf 45 = .ok (.iconst 1, 1) := by decide +kernel
theorem dX4_maskOf_46 : decode cX4_maskOf 46 = .ok (.iload 4, 2) := by decide +kernel
theorem dX4_maskOf_48 : decode cX4_maskOf 48 = .ok (.ishl, 1) := by decide +kernel
theorem dX4_maskOf_49 : decode cX4_maskOf 49 = .ok (.ior, 1) := by decide +kernel
theorem dX4_maskOf_50 : decode cX4_maskOf 50 = .ok (.istore_n 3, 1) := by decide +kernel
theorem dX4_maskOf_51 : decode cX4_maskOf 51 = .ok (.iinc 4 1, 3) := by decide +kernel
theorem dX4_maskOf_54 : decode cX4_maskOf 54 = .ok (.goto (-49), 3) := by decide +kernel
theorem dX4_maskOf_57 : decode cX4_maskOf 57 = .ok (.iload_n 3, 1) := by decide +kernel
theorem dX4_maskOf_58 : decode cX4_maskOf 58 = .ok (.ireturn, 1) := by decide +kernel
theorem dX4_rankedMask_0 : decode cX4_rankedMask 0 = .ok (.iconst 0, 1) := by decide +kernel
theorem dX4_rankedMask_1 : decode cX4_rankedMask 1 = .ok (.istore_n 3, 1) := by decide +kernel
theorem dX4_rankedMask_2 : decode cX4_rankedMask 2 = .ok (.iconst 0, 1) := by decide +kernel
theorem dX4_rankedMask_3 : decode cX4_rankedMask 3 = .ok (.istore 4, 2) := by decide +kernel
theorem dX4_rankedMask_5 : decode cX4_rankedMask 5 = .ok (.iload 4, 2) := by decide +kernel
theorem dX4_rankedMask_7 : decode cX4_rankedMask 7 = .ok (.iload_n 2, 1) := by decide +kernel
theorem dX4_rankedMask_8 : decode cX4_rankedMask 8 = .ok (.if_icmp .ge 40, 3) := by decide +kernel
theorem dX4_rankedMask_11 : decode cX4_rankedMask 11 = .ok (.iload 4, 2) := by decide +kernel
theorem dX4_rankedMask_13 : decode cX4_rankedMask 13 = .ok (.aload_n 0, 1) := by decide +kernel
theorem dX4_rankedMask_14 : decode cX4_rankedMask 14 = .ok (.getfield 30, 3) := by decide +kernel
theorem dX4_rankedMask_17 : decode cX4_rankedMask 17 = .ok (.arraylength, 1) := by decide +kernel
theorem dX4_rankedMask_18 : decode cX4_rankedMask 18 = .ok (.if_icmp .ge 30, 3) := by decide +kernel
theorem dX4_rankedMask_21 : decode cX4_rankedMask 21 = .ok (.iload_n 1, 1) := by decide +kernel
theorem dX4_rankedMask_22 : decode cX4_rankedMask 22 = .ok (.iload 4, 2) := by decide +kernel
theorem dX4_rankedMask_24 : decode cX4_rankedMask 24 = .ok (.ishr, 1) := by decide +kernel
theorem dX4_rankedMask_25 : decode cX4_rankedMask 25 = .ok (.iconst 1, 1) := by decide +kernel
theorem dX4_rankedMask_26 : decode cX4_rankedMask 26 = .ok (.iand, 1) := by decide +kernel
theorem dX4_rankedMask_27 : decode cX4_rankedMask 27 = .ok (.ifCond .eq 15, 3) := by decide +kernel
theorem dX4_rankedMask_30 : decode cX4_rankedMask 30 = .ok (.iload_n 3, 1) := by decide +kernel
theorem dX4_rankedMask_31 : decode cX4_rankedMask 31 = .ok (.iconst 1, 1) := by decide +kernel
theorem dX4_rankedMask_32 : decode cX4_rankedMask 32 = .ok (.aload_n 0, 1) := by decide +kernel
theorem dX4_rankedMask_33 : decode cX4_rankedMask 33 = .ok (.getfield 30, 3) := by decide +kernel
theorem dX4_rankedMask_36 : decode cX4_rankedMask 36 = .ok (.iload 4, 2) := by decide +kernel
theorem dX4_rankedMask_38 : decode cX4_rankedMask 38 = .ok (.iaload, 1) := by decide +kernel
theorem dX4_rankedMask_39 : decode cX4_rankedMask 39 = .ok (.ishl, 1) := by decide +kernel
theorem dX4_rankedMask_40 : decode cX4_rankedMask 40 = .ok (.ior, 1) := by decide +kernel
theorem dX4_rankedMask_41 : decode cX4_rankedMask 41 = .ok (.istore_n 3, 1) := by decide +kernel
theorem dX4_rankedMask_42 : decode cX4_rankedMask 42 = .ok (.iinc 4 1, 3) := by decide +kernel
theorem dX4_rankedMask_45 : decode cX4_rankedMask 45 = .ok (.goto (-40), 3) := by decide +kernel
theorem dX4_rankedMask_48 : decode cX4_rankedMask 48 = .ok (.iload_n 3, 1) := by decide +kernel
theorem dX4_rankedMask_49 : decode cX4_rankedMask 49 = .ok (.ireturn, 1) := by decide +kernel
theorem dX4_settled_0 : decode cX4_settled 0 = .ok (.iload_n 1, 1) := by decide +kernel
theorem dX4_settled_1 : decode cX4_settled 1 = .ok (.iconst 1, 1) := by decide +kernel
theorem dX4_settled_2 : decode cX4_settled 2 = .ok (.if_icmp .le 40, 3) := by decide +kernel
theorem dX4_settled_5 : decode cX4_settled 5 = .ok (.iload_n 1, 1) := by decide +kernel
theorem dX4_settled_6 : decode cX4_settled 6 = .ok (.aload_n 0, 1) := by decide +kernel
theorem dX4_settled_7 : decode cX4_settled 7 = .ok (.getfield 27, 3) := by decide +kernel
theorem dX4_settled_10 : decode cX4_settled 10 = .ok (.arraylength, 1) := by decide +kernel
theorem dX4_settled_11 : decode cX4_settled 11 = .ok (.if_icmp .gt 31, 3) := by decide +kernel
theorem dX4_settled_14 : decode cX4_settled 14 = .ok (.aload_n 0, 1) := by decide +kernel
theorem dX4_settled_15 : decode cX4_settled 15 = .ok (.getfield 27, 3) := by decide +kernel
theorem dX4_settled_18 : decode cX4_settled 18 = .ok (.iconst 0, 1) := by decide +kernel
theorem dX4_settled_19 : decode cX4_settled 19 = .ok (.iaload, 1) := by decide +kernel
theorem dX4_settled_20 : decode cX4_settled 20 = .ok (.ifCond .eq 22, 3) := by decide +kernel
theorem dX4_settled_23 : decode cX4_settled 23 = .ok (.aload_n 0, 1) := by decide +kernel
theorem dX4_settled_24 : decode cX4_settled 24 = .ok (.getfield 27, 3) := by decide +kernel
theorem dX4_settled_27 : decode cX4_settled 27 = .ok (.iconst 1, 1) := by decide +kernel
theorem dX4_settled_28 : decode cX4_settled 28 = .ok (.aload_n 0, 1) := by decide +kernel
theorem dX4_settled_29 : decode cX4_settled 29 = .ok (.getfield 27, 3) := by decide +kernel
theorem dX4_settled_32 : decode cX4_settled 32 = .ok (.iconst 0, 1) := by decide +kernel
theorem dX4_settled_33 : decode cX4_settled 33 = .ok (.iaload, 1) := by decide +kernel
theorem dX4_settled_34 : decode cX4_settled 34 = .ok (.iastore, 1) := by decide +kernel
theorem dX4_settled_35 : decode cX4_settled 35 = .ok (.aload_n 0, 1) := by decide +kernel
theorem dX4_settled_36 : decode cX4_settled 36 = .ok (.getfield 27, 3) := by decide +kernel
theorem dX4_settled_39 : decode cX4_settled 39 = .ok (.iconst 0, 1) := by decide +kernel
theorem dX4_settled_40 : decode cX4_settled 40 = .ok (.iconst 0, 1) := by decide +kernel
theorem dX4_settled_41 : decode cX4_settled 41 = .ok (.iastore, 1) := by decide +kernel
theorem dX4_settled_42 : decode cX4_settled 42 = .ok (.iconst 0, 1) := by decide +kernel
theorem dX4_settled_43 : decode cX4_settled 43 = .ok (.istore_n 2, 1) := by decide +kernel
theorem dX4_settled_44 : decode cX4_settled 44 = .ok (.iload_n 2, 1) := by decide +kernel
theorem dX4_settled_45 : decode cX4_settled 45 = .ok (.iload_n 1, 1) := by decide +kernel
theorem dX4_settled_46 : decode cX4_settled 46 = .ok (.if_icmp .ge 53, 3) := by decide +kernel
theorem dX4_settled_49 : decode cX4_settled 49 = .ok (.iload_n 2, 1) := by decide +kernel
theorem dX4_settled_50 : decode cX4_settled 50 = .ok (.aload_n 0, 1) := by decide +kernel
theorem dX4_settled_51 : decode cX4_settled 51 = .ok (.getfield 27, 3) := by decide +kernel
theorem dX4_settled_54 : decode cX4_settled 54 = .ok (.arraylength, 1) := by decide +kernel
theorem dX4_settled_55 : decode cX4_settled 55 = .ok (.if_icmp .ge 44, 3) := by decide +kernel
theorem dX4_settled_58 : decode cX4_settled 58 = .ok (.aload_n 0, 1) := by decide +kernel
theorem dX4_settled_59 : decode cX4_settled 59 = .ok (.getfield 27, 3) := by decide +kernel
theorem dX4_settled_62 : decode cX4_settled 62 = .ok (.iload_n 2, 1) := by decide +kernel
theorem dX4_settled_63 : decode cX4_settled 63 = .ok (.iaload, 1) := by decide +kernel
theorem dX4_settled_64 : decode cX4_settled 64 = .ok (.ifCond .lt 29, 3) := by decide +kernel
theorem dX4_settled_67 : decode cX4_settled 67 = .ok (.aload_n 0, 1) := by decide +kernel
theorem dX4_settled_68 : decode cX4_settled 68 = .ok (.getfield 27, 3) := by decide +kernel
theorem dX4_settled_71 : decode cX4_settled 71 = .ok (.iload_n 2, 1) := by decide +kernel
theorem dX4_settled_72 : decode cX4_settled 72 = .ok (.iaload, 1) := by decide +kernel
theorem dX4_settled_73 : decode cX4_settled 73 = .ok (.aload_n 0, 1) := by decide +kernel
theorem dX4_settled_74 : decode cX4_settled 74 = .ok (.getfield 30, 3) := by decide +kernel
theorem dX4_settled_77 : decode cX4_settled 77 = .ok (.arraylength, 1) := by decide +kernel
theorem dX4_settled_78 : decode cX4_settled 78 = .ok (.if_icmp .ge 15, 3) := by decide +kernel
theorem dX4_settled_81 : decode cX4_settled 81 = .ok (.aload_n 0, 1) := by decide +kernel
theorem dX4_settled_82 : decode cX4_settled 82 = .ok (.getfield 30, 3) := by decide +kernel
theorem dX4_settled_85 : decode cX4_settled 85 = .ok (.aload_n 0, 1) := by decide +kernel
theorem dX4_settled_86 : decode cX4_settled 86 = .ok (.getfield 27, 3) := by decide +kernel
theorem dX4_settled_89 : decode cX4_settled 89 = .ok (.iload_n 2, 1) := by decide +kernel
theorem dX4_settled_90 : decode cX4_settled 90 = .ok (.iaload, 1) := by decide +kernel
theorem dX4_settled_91 : decode cX4_settled 91 = .ok (.iload_n 2, 1) := by decide +kernel
theorem dX4_settled_92 : decode cX4_settled 92 = .ok (.iastore, 1) := by decide +kernel
theorem dX4_settled_93 : decode cX4_settled 93 = .ok (.iinc 2 1, 3) := by decide +kernel
theorem dX4_settled_96 : decode cX4_settled 96 = .ok (.goto (-52), 3) := by decide +kernel
theorem dX4_settled_99 : decode cX4_settled 99 = .ok (.iload_n 1, 1) := by decide +kernel
theorem dX4_settled_100 : decode cX4_settled 100 = .ok (.iconst 0, 1) := by decide +kernel
theorem dX4_settled_101 : decode cX4_settled 101 = .ok (.invokestatic 80, 3) := by decide +kernel
theorem dX4_settled_104 : decode cX4_settled 104 = .ok (.istore_n 2, 1) := by decide +kernel
theorem dX4_settled_105 : decode cX4_settled 105 = .ok (.iload_n 2, 1) := by decide +kernel
theorem dX4_settled_106 : decode cX4_settled 106 = .ok (.newarray .int, 2) := by decide +kernel
theorem dX4_settled_108 : decode cX4_settled 108 = .ok (.astore_n 3, 1) := by decide +kernel
theorem dX4_settled_109 : decode cX4_settled 109 = .ok (.iload_n 2, 1) := by decide +kernel
theorem dX4_settled_110 : decode cX4_settled 110 = .ok (.newarray .int, 2) := by decide +kernel
theorem dX4_settled_112 : decode cX4_settled 112 = .ok (.astore 4, 2) := by decide +kernel
theorem dX4_settled_114 : decode cX4_settled 114 = .ok (.iconst 0, 1) := by decide +kernel
theorem dX4_settled_115 : decode cX4_settled 115 = .ok (.istore 5, 2) := by decide +kernel
theorem dX4_settled_117 : decode cX4_settled 117 = .ok (.iload 5, 2) := by decide +kernel
theorem dX4_settled_119 : decode cX4_settled 119 = .ok (.iload_n 2, 1) := by decide +kernel
theorem dX4_settled_120 : decode cX4_settled 120 = .ok (.if_icmp .ge 72, 3) := by decide +kernel
theorem dX4_settled_123 : decode cX4_settled 123 = .ok (.iload 5, 2) := by decide +kernel
theorem dX4_settled_125 : decode cX4_settled 125 = .ok (.aload_n 0, 1) := by decide +kernel
theorem dX4_settled_126 : decode cX4_settled 126 = .ok (.getfield 30, 3) := by decide +kernel
theorem dX4_settled_129 : decode cX4_settled 129 = .ok (.arraylength, 1) := by decide +kernel
theorem dX4_settled_130 : decode cX4_settled 130 = .ok (.if_icmp .ge 62, 3) := by decide +kernel
theorem dX4_settled_133 : decode cX4_settled 133 = .ok (.aload_n 0, 1) := by decide +kernel
theorem dX4_settled_134 : decode cX4_settled 134 = .ok (.getfield 30, 3) := by decide +kernel
theorem dX4_settled_137 : decode cX4_settled 137 = .ok (.iload 5, 2) := by decide +kernel
theorem dX4_settled_139 : decode cX4_settled 139 = .ok (.iaload, 1) := by decide +kernel
theorem dX4_settled_140 : decode cX4_settled 140 = .ok (.istore 6, 2) := by decide +kernel
theorem dX4_settled_142 : decode cX4_settled 142 = .ok (.iload 6, 2) := by decide +kernel
theorem dX4_settled_144 : decode cX4_settled 144 = .ok (.ifCond .lt 42, 3) := by decide +kernel
theorem dX4_settled_147 : decode cX4_settled 147 = .ok (.iload 6, 2) := by decide +kernel
theorem dX4_settled_149 : decode cX4_settled 149 = .ok (.iload_n 2, 1) := by decide +kernel
theorem dX4_settled_150 : decode cX4_settled 150 = .ok (.if_icmp .ge 36, 3) := by decide +kernel
theorem dX4_settled_153 : decode cX4_settled 153 = .ok (.aload_n 3, 1) := by decide +kernel
theorem dX4_settled_154 : decode cX4_settled 154 = .ok (.iload 6, 2) := by decide +kernel
theorem dX4_settled_156 : decode cX4_settled 156 = .ok (.aload_n 0, 1) := by decide +kernel
theorem dX4_settled_157 : decode cX4_settled 157 = .ok (.aload_n 0, 1) := by decide +kernel
theorem dX4_settled_158 : decode cX4_settled 158 = .ok (.getfield 15, 3) := by decide +kernel
theorem dX4_settled_161 : decode cX4_settled 161 = .ok (.iload 5, 2) := by decide +kernel
theorem dX4_settled_163 : decode cX4_settled 163 = .ok (.iaload, 1) := by decide +kernel
theorem dX4_settled_164 : decode cX4_settled 164 = .ok (.iload_n 1, 1) := by decide +kernel
theorem dX4_settled_165 : decode cX4_settled 165 = .ok (.invokevirtual 101, 3) := by decide +kernel
theorem dX4_settled_168 : decode cX4_settled 168 = .ok (.iastore, 1) := by decide +kernel
theorem dX4_settled_169 : decode cX4_settled 169 = .ok (.aload 4, 2) := by decide +kernel
theorem dX4_settled_171 : decode cX4_settled 171 = .ok (.iload 6, 2) := by decide +kernel
theorem dX4_settled_173 : decode cX4_settled 173 = .ok (.aload_n 0, 1) := by decide +kernel
theorem dX4_settled_174 : decode cX4_settled 174 = .ok (.aload_n 0, 1) := by decide +kernel
theorem dX4_settled_175 : decode cX4_settled 175 = .ok (.getfield 18, 3) := by decide +kernel
theorem dX4_settled_178 : decode cX4_settled 178 = .ok (.iload 5, 2) := by decide +kernel
theorem dX4_settled_180 : decode cX4_settled 180 = .ok (.iaload, 1) := by decide +kernel
theorem dX4_settled_181 : decode cX4_settled 181 = .ok (.iload_n 1, 1) := by decide +kernel
theorem dX4_settled_182 : decode cX4_settled 182 = .ok (.invokevirtual 101, 3) := by decide +kernel
theorem dX4_settled_185 : decode cX4_settled 185 = .ok (.iastore, 1) := by decide +kernel
theorem dX4_settled_186 : decode cX4_settled 186 = .ok (.iinc 5 1, 3) := by decide +kernel
theorem dX4_settled_189 : decode cX4_settled 189 = .ok (.goto (-72), 3) := by decide +kernel
theorem dX4_settled_192 : decode cX4_settled 192 = .ok (.iload_n 2, 1) := by decide +kernel
theorem dX4_settled_193 : decode cX4_settled 193 = .ok (.iconst 1, 1) := by decide +kernel
theorem dX4_settled_194 : decode cX4_settled 194 = .ok (.isub, 1) := by decide +kernel
theorem dX4_settled_195 : decode cX4_settled 195 = .ok (.istore 5, 2) := by decide +kernel
theorem dX4_settled_197 : decode cX4_settled 197 = .ok (.iload 5, 2) := by decide +kernel
theorem dX4_settled_199 : decode cX4_settled 199 = .ok (.ifCond .lt 13, 3) := by decide +kernel
theorem dX4_settled_202 : decode cX4_settled 202 = .ok (.iload 5, 2) := by decide +kernel
theorem dX4_settled_204 : decode cX4_settled 204 = .ok (.aload_n 0, 1) := by decide +kernel
theorem dX4_settled_205 : decode cX4_settled 205 = .ok (.getfield 33, 3) := by decide +kernel
theorem dX4_settled_208 : decode cX4_settled 208 = .ok (.arraylength, 1) := by decide +kernel
theorem dX4_settled_209 : decode cX4_settled 209 = .ok (.if_icmp .lt 5, 3) := by decide +kernel
theorem dX4_settled_212 : decode cX4_settled 212 = .ok (.aconst_null, 1) := by decide +kernel
theorem dX4_settled_213 : decode cX4_settled 213 = .ok (.areturn, 1) := by decide +kernel
theorem dX4_settled_214 : decode cX4_settled 214 = .ok (.iload 5, 2) := by decide +kernel
theorem dX4_settled_216 : decode cX4_settled 216 = .ok (.bipush 100, 2) := by decide +kernel
theorem dX4_settled_218 : decode cX4_settled 218 = .ok (.imul, 1) := by decide +kernel
theorem dX4_settled_219 : decode cX4_settled 219 = .ok (.istore 6, 2) := by decide +kernel
theorem dX4_settled_221 : decode cX4_settled 221 = .ok (.aload_n 0, 1) := by decide +kernel
theorem dX4_settled_222 : decode cX4_settled 222 = .ok (.getfield 36, 3) := by decide +kernel
theorem dX4_settled_225 : decode cX4_settled 225 = .ok (.iload 6, 2) := by decide +kernel
theorem dX4_settled_227 : decode cX4_settled 227 = .ok (.iload 6, 2) := by decide +kernel
theorem dX4_settled_229 : decode cX4_settled 229 = .ok (.aload_n 0, 1) := by decide +kernel
theorem dX4_settled_230 : decode cX4_settled 230 = .ok (.getfield 33, 3) := by decide +kernel
theorem dX4_settled_233 : decode cX4_settled 233 = .ok (.iload 5, 2) := by decide +kernel
theorem dX4_settled_235 : decode cX4_settled 235 = .ok (.iaload, 1) := by decide +kernel
theorem dX4_settled_236 : decode cX4_settled 236 = .ok (.iconst 0, 1) := by decide +kernel
theorem dX4_settled_237 : decode cX4_settled 237 = .ok (.invokestatic 80, 3) := by decide +kernel
theorem dX4_settled_240 : decode cX4_settled 240 = .ok (.bipush 100, 2) := by decide +kernel
theorem dX4_settled_242 : decode cX4_settled 242 = .ok (.invokestatic 104, 3) := by decide +kernel
theorem dX4_settled_245 : decode cX4_settled 245 = .ok (.iadd, 1) := by decide +kernel
theorem dX4_settled_246 : decode cX4_settled 246 = .ok (.invokestatic 107, 3) := by decide +kernel
theorem dX4_settled_249 : decode cX4_settled 249 = .ok (.astore 7, 2) := by decide +kernel
theorem dX4_settled_251 : decode cX4_settled 251 = .ok (.new 113, 3) := by decide +kernel
theorem dX4_settled_254 : decode cX4_settled 254 = .ok (.dup, 1) := by decide +kernel
theorem dX4_settled_255 : decode cX4_settled 255 = .ok (.aload_n 3, 1) := by decide +kernel
theorem dX4_settled_256 : decode cX4_settled 256 = .ok (.aload 4, 2) := by decide +kernel
theorem dX4_settled_258 : decode cX4_settled 258 = .ok (.aload 7, 2) := by decide +kernel
theorem dX4_settled_260 : decode cX4_settled 260 = .ok (.aload_n 0, 1) := by decide +kernel
theorem dX4_settled_261 : decode cX4_settled 261 = .ok (.getfield 21, 3) := by decide +kernel
theorem dX4_settled_264 : decode cX4_settled 264 = .ok (.iload 5, 2) := by decide +kernel
theorem dX4_settled_266 : decode cX4_settled 266 = .ok (.iaload, 1) := by decide +kernel
theorem dX4_settled_267 : decode cX4_settled 267 = .ok (.aload_n 0, 1) := by decide +kernel
theorem dX4_settled_268 : decode cX4_settled 268 = .ok (.getfield 24, 3) := by decide +kernel
theorem dX4_settled_271 : decode cX4_settled 271 = .ok (.iload 5, 2) := by decide +kernel
theorem dX4_settled_273 : decode cX4_settled 273 = .ok (.iaload, 1) := by decide +kernel
theorem dX4_settled_274 : decode cX4_settled 274 = .ok (.invokespecial 115, 3) := by decide +kernel
theorem dX4_settled_277 : decode cX4_settled 277 = .ok (.areturn, 1) := by decide +kernel
theorem dX4_sortIn_0 : decode cX4_sortIn 0 = .ok (.iload_n 1, 1) := by decide +kernel
theorem dX4_sortIn_1 : decode cX4_sortIn 1 = .ok (.istore_n 2, 1) := by decide +kernel
theorem dX4_sortIn_2 : decode cX4_sortIn 2 = .ok (.iload_n 2, 1) := by decide +kernel
theorem dX4_sortIn_3 : decode cX4_sortIn 3 = .ok (.ifCond .le 48, 3) := by decide +kernel
theorem dX4_sortIn_6 : decode cX4_sortIn 6 = .ok (.iload_n 2, 1) := by decide +kernel
theorem dX4_sortIn_7 : decode cX4_sortIn 7 = .ok (.aload_n 0, 1) := by decide +kernel
theorem dX4_sortIn_8 : decode cX4_sortIn 8 = .ok (.getfield 27, 3) := by decide +kernel
theorem dX4_sortIn_11 : decode cX4_sortIn 11 = .ok (.arraylength, 1) := by decide +kernel
theorem dX4_sortIn_12 : decode cX4_sortIn 12 = .ok (.if_icmp .ge 39, 3) := by decide +kernel
theorem dX4_sortIn_15 : decode cX4_sortIn 15 = .ok (.aload_n 0, 1) := by decide +kernel
theorem dX4_sortIn_16 : decode cX4_sortIn 16 = .ok (.iload_n 1, 1) := by decide +kernel
theorem dX4_sortIn_17 : decode cX4_sortIn 17 = .ok (.aload_n 0, 1) := by decide +kernel
theorem dX4_sortIn_18 : decode cX4_sortIn 18 = .ok (.getfield 27, 3) := by decide +kernel
theorem dX4_sortIn_21 : decode cX4_sortIn 21 = .ok (.iload_n 2, 1) := by decide +kernel
theorem dX4_sortIn_22 : decode cX4_sortIn 22 = .ok (.iconst 1, 1) := by decide +kernel
theorem dX4_sortIn_23 : decode cX4_sortIn 23 = .ok (.isub, 1) := by decide +kernel
theorem dX4_sortIn_24 : decode cX4_sortIn 24 = .ok (.iaload, 1) := by decide +kernel
theorem dX4_sortIn_25 : decode cX4_sortIn 25 = .ok (.invokevirtual 97, 3) := by decide +kernel
theorem dX4_sortIn_28 : decode cX4_sortIn 28 = .ok (.ifCond .eq 23, 3) := by decide +kernel
theorem dX4_sortIn_31 : decode cX4_sortIn 31 = .ok (.aload_n 0, 1) := by decide +kernel
theorem dX4_sortIn_32 : decode cX4_sortIn 32 = .ok (.getfield 27, 3) := by decide +kernel
theorem dX4_sortIn_35 : decode cX4_sortIn 35 = .ok (.iload_n 2, 1) := by decide +kernel
theorem dX4_sortIn_36 : decode cX4_sortIn 36 = .ok (.aload_n 0, 1) := by decide +kernel
theorem dX4_sortIn_37 : decode cX4_sortIn 37 = .ok (.getfield 27, 3) := by decide +kernel
theorem dX4_sortIn_40 : decode cX4_sortIn 40 = .ok (.iload_n 2, 1) := by decide +kernel
theorem dX4_sortIn_41 : decode cX4_sortIn 41 = .ok (.iconst 1, 1) := by decide +kernel
theorem dX4_sortIn_42 : decode cX4_sortIn 42 = .ok (.isub, 1) := by decide +kernel
theorem dX4_sortIn_43 : decode cX4_sortIn 43 = .ok (.iaload, 1) := by decide +kernel
theorem dX4_sortIn_44 : decode cX4_sortIn 44 = .ok (.iastore, 1) := by decide +kernel
theorem dX4_sortIn_45 : decode cX4_sortIn 45 = .ok (.iinc 2 (-1), 3) := by decide +kernel
theorem dX4_sortIn_48 : decode cX4_sortIn 48 = .ok (.goto (-46), 3) := by decide +kernel
theorem dX4_sortIn_51 : decode cX4_sortIn 51 = .ok (.iload_n 2, 1) := by decide +kernel
theorem dX4_sortIn_52 : decode cX4_sortIn 52 = .ok (.ifCond .lt 19, 3) := by decide +kernel
theorem dX4_sortIn_55 : decode cX4_sortIn 55 = .ok (.iload_n 2, 1) := by decide +kernel
theorem dX4_sortIn_56 : decode cX4_sortIn 56 = .ok (.aload_n 0, 1) := by decide +kernel
theorem dX4_sortIn_57 : decode cX4_sortIn 57 = .ok (.getfield 27, 3) := by decide +kernel
theorem dX4_sortIn_60 : decode cX4_sortIn 60 = .ok (.arraylength, 1) := by decide +kernel
theorem dX4_sortIn_61 : decode cX4_sortIn 61 = .ok (.if_icmp .ge 10, 3) := by decide +kernel
theorem dX4_sortIn_64 : decode cX4_sortIn 64 = .ok (.aload_n 0, 1) := by decide +kernel
theorem dX4_sortIn_65 : decode cX4_sortIn 65 = .ok (.getfield 27, 3) := by decide +kernel
theorem dX4_sortIn_68 : decode cX4_sortIn 68 = .ok (.iload_n 2, 1) := by decide +kernel
theorem dX4_sortIn_69 : decode cX4_sortIn 69 = .ok (.iload_n 1, 1) := by decide +kernel
theorem dX4_sortIn_70 : decode cX4_sortIn 70 = .ok (.iastore, 1) := by decide +kernel
theorem dX4_sortIn_71 : decode cX4_sortIn 71 = .ok (.return_, 1) := by decide +kernel
theorem dX4_spell_0 : decode cX4_spell 0 = .ok (.iload_n 1, 1) := by decide +kernel
theorem dX4_spell_1 : decode cX4_spell 1 = .ok (.ifCond .lt 12, 3) := by decide +kernel
theorem dX4_spell_4 : decode cX4_spell 4 = .ok (.iload_n 1, 1) := by decide +kernel
theorem dX4_spell_5 : decode cX4_spell 5 = .ok (.aload_n 0, 1) := by decide +kernel
theorem dX4_spell_6 : decode cX4_spell 6 = .ok (.getfield 33, 3) := by decide +kernel
theorem dX4_spell_9 : decode cX4_spell 9 = .ok (.arraylength, 1) := by decide +kernel
theorem dX4_spell_10 : decode cX4_spell 10 = .ok (.if_icmp .lt 4, 3) := by decide +kernel
theorem dX4_spell_13 : decode cX4_spell 13 = .ok (.return_, 1) := by decide +kernel
theorem dX4_spell_14 : decode cX4_spell 14 = .ok (.aload_n 0, 1) := by decide +kernel
theorem dX4_spell_15 : decode cX4_spell 15 = .ok (.getfield 33, 3) := by decide +kernel
theorem dX4_spell_18 : decode cX4_spell 18 = .ok (.iload_n 1, 1) := by decide +kernel
theorem dX4_spell_19 : decode cX4_spell 19 = .ok (.iconst 0, 1) := by decide +kernel
theorem dX4_spell_20 : decode cX4_spell 20 = .ok (.iastore, 1) := by decide +kernel
theorem dX4_spell_21 : decode cX4_spell 21 = .ok (.aload_n 0, 1) := by decide +kernel
theorem dX4_spell_22 : decode cX4_spell 22 = .ok (.getfield 15, 3) := by decide +kernel
theorem dX4_spell_25 : decode cX4_spell 25 = .ok (.iload_n 1, 1) := by decide +kernel
theorem dX4_spell_26 : decode cX4_spell 26 = .ok (.iaload, 1) := by decide +kernel
theorem dX4_spell_27 : decode cX4_spell 27 = .ok (.ifCond .eq 12, 3) := by decide +kernel
theorem dX4_spell_30 : decode cX4_spell 30 = .ok (.aload_n 0, 1) := by decide +kernel
theorem dX4_spell_31 : decode cX4_spell 31 = .ok (.getfield 18, 3) := by decide +kernel
theorem dX4_spell_34 : decode cX4_spell 34 = .ok (.iload_n 1, 1) := by decide +kernel
theorem dX4_spell_35 : decode cX4_spell 35 = .ok (.iaload, 1) := by decide +kernel
theorem dX4_spell_36 : decode cX4_spell 36 = .ok (.ifCond .ne 36, 3) := by decide +kernel
theorem dX4_spell_39 : decode cX4_spell 39 = .ok (.aload_n 0, 1) := by decide +kernel
theorem dX4_spell_40 : decode cX4_spell 40 = .ok (.getfield 18, 3) := by decide +kernel
theorem dX4_spell_43 : decode cX4_spell 43 = .ok (.iload_n 1, 1) := by decide +kernel
theorem dX4_spell_44 : decode cX4_spell 44 = .ok (.iaload, 1) := by decide +kernel
theorem dX4_spell_45 : decode cX4_spell 45 = .ok (.ifCond .eq 10, 3) := by decide +kernel
theorem dX4_spell_48 : decode cX4_spell 48 = .ok (.aload_n 0, 1) := by decide +kernel
theorem dX4_spell_49 : decode cX4_spell 49 = .ok (.iload_n 1, 1) := by decide +kernel
theorem dX4_spell_50 : decode cX4_spell 50 = .ok (.bipush 45, 2) := by decide +kernel
theorem dX4_spell_52 : decode cX4_spell 52 = .ok (.invokevirtual 90, 3) := by decide +kernel
theorem dX4_spell_55 : decode cX4_spell 55 = .ok (.aload_n 0, 1) := by decide +kernel
theorem dX4_spell_56 : decode cX4_spell 56 = .ok (.iload_n 1, 1) := by decide +kernel
theorem dX4_spell_57 : decode cX4_spell 57 = .ok (.bipush 48, 2) := by decide +kernel
theorem dX4_spell_59 : decode cX4_spell 59 = .ok (.aload_n 0, 1) := by decide +kernel
theorem dX4_spell_60 : decode cX4_spell 60 = .ok (.getfield 21, 3) := by decide +kernel
theorem dX4_spell_63 : decode cX4_spell 63 = .ok (.iload_n 1, 1) := by decide +kernel
theorem dX4_spell_64 : decode cX4_spell 64 = .ok (.iaload, 1) := by decide +kernel
theorem dX4_spell_65 : decode cX4_spell 65 = .ok (.iadd, 1) := by decide +kernel
theorem dX4_spell_66 : decode cX4_spell 66 = .ok (.invokevirtual 90, 3) := by decide +kernel
theorem dX4_spell_69 : decode cX4_spell 69 = .ok (.goto 89, 3) := by decide +kernel
theorem dX4_spell_72 : decode cX4_spell 72 = .ok (.aload_n 0, 1) := by decide +kernel
theorem dX4_spell_73 : decode cX4_spell 73 = .ok (.getfield 24, 3) := by decide +kernel
theorem dX4_spell_76 : decode cX4_spell 76 = .ok (.iload_n 1, 1) := by decide +kernel
theorem dX4_spell_77 : decode cX4_spell 77 = .ok (.iaload, 1) := by decide +kernel
theorem dX4_spell_78 : decode cX4_spell 78 = .ok (.ifCond .le 37, 3) := by decide +kernel
theorem dX4_spell_81 : decode cX4_spell 81 = .ok (.aload_n 0, 1) := by decide +kernel
theorem dX4_spell_82 : decode cX4_spell 82 = .ok (.iload_n 1, 1) := by decide +kernel
theorem dX4_spell_83 : decode cX4_spell 83 = .ok (.bipush 42, 2) := by decide +kernel
theorem dX4_spell_85 : decode cX4_spell 85 = .ok (.invokevirtual 90, 3) := by decide +kernel
theorem dX4_spell_88 : decode cX4_spell 88 = .ok (.aload_n 0, 1) := by decide +kernel
theorem dX4_spell_89 : decode cX4_spell 89 = .ok (.getfield 24, 3) := by decide +kernel
theorem dX4_spell_92 : decode cX4_spell 92 = .ok (.iload_n 1, 1) := by decide +kernel
theorem dX4_spell_93 : decode cX4_spell 93 = .ok (.iaload, 1) := by decide +kernel
theorem dX4_spell_94 : decode cX4_spell 94 = .ok (.iconst 1, 1) := by decide +kernel
theorem dX4_spell_95 : decode cX4_spell 95 = .ok (.if_icmp .le 63, 3) := by decide +kernel
theorem dX4_spell_98 : decode cX4_spell 98 = .ok (.aload_n 0, 1) := by decide +kernel
theorem dX4_spell_99 : decode cX4_spell 99 = .ok (.iload_n 1, 1) := by decide +kernel
theorem dX4_spell_100 : decode cX4_spell 100 = .ok (.bipush 48, 2) := by decide +kernel
theorem dX4_spell_102 : decode cX4_spell 102 = .ok (.aload_n 0, 1) := by decide +kernel
theorem dX4_spell_103 : decode cX4_spell 103 = .ok (.getfield 24, 3) := by decide +kernel
theorem dX4_spell_106 : decode cX4_spell 106 = .ok (.iload_n 1, 1) := by decide +kernel
theorem dX4_spell_107 : decode cX4_spell 107 = .ok (.iaload, 1) := by decide +kernel
theorem dX4_spell_108 : decode cX4_spell 108 = .ok (.iadd, 1) := by decide +kernel
theorem dX4_spell_109 : decode cX4_spell 109 = .ok (.invokevirtual 90, 3) := by decide +kernel
theorem dX4_spell_112 : decode cX4_spell 112 = .ok (.goto 46, 3) := by decide +kernel
theorem dX4_spell_115 : decode cX4_spell 115 = .ok (.aload_n 0, 1) := by decide +kernel
theorem dX4_spell_116 : decode cX4_spell 116 = .ok (.iload_n 1, 1) := by decide +kernel
theorem dX4_spell_117 : decode cX4_spell 117 = .ok (.bipush 123, 2) := by decide +kernel
theorem dX4_spell_119 : decode cX4_spell 119 = .ok (.invokevirtual 90, 3) := by decide +kernel
theorem dX4_spell_122 : decode cX4_spell 122 = .ok (.aload_n 0, 1) := by decide +kernel
theorem dX4_spell_123 : decode cX4_spell 123 = .ok (.iload_n 1, 1) := by decide +kernel
theorem dX4_spell_124 : decode cX4_spell 124 = .ok (.aload_n 0, 1) := by decide +kernel
theorem dX4_spell_125 : decode cX4_spell 125 = .ok (.getfield 15, 3) := by decide +kernel
theorem dX4_spell_128 : decode cX4_spell 128 = .ok (.iload_n 1, 1) := by decide +kernel
theorem dX4_spell_129 : decode cX4_spell 129 = .ok (.iaload, 1) := by decide +kernel
theorem dX4_spell_130 : decode cX4_spell 130 = .ok (.invokevirtual 94, 3) := by decide +kernel
theorem dX4_spell_133 : decode cX4_spell 133 = .ok (.aload_n 0, 1) := by decide +kernel
theorem dX4_spell_134 : decode cX4_spell 134 = .ok (.iload_n 1, 1) := by decide +kernel
theorem dX4_spell_135 : decode cX4_spell 135 = .ok (.bipush 124, 2) := by decide +kernel
theorem dX4_spell_137 : decode cX4_spell 137 = .ok (.invokevirtual 90, 3) := by decide +kernel
theorem dX4_spell_140 : decode cX4_spell 140 = .ok (.aload_n 0, 1) := by decide +kernel
theorem dX4_spell_141 : decode cX4_spell 141 = .ok (.iload_n 1, 1) := by decide +kernel
theorem dX4_spell_142 : decode cX4_spell 142 = .ok (.aload_n 0, 1) := by decide +kernel
theorem dX4_spell_143 : decode cX4_spell 143 = .ok (.getfield 18, 3) := by decide +kernel
theorem dX4_spell_146 : decode cX4_spell 146 = .ok (.iload_n 1, 1) := by decide +kernel
theorem dX4_spell_147 : decode cX4_spell 147 = .ok (.iaload, 1) := by decide +kernel
theorem dX4_spell_148 : decode cX4_spell 148 = .ok (.invokevirtual 94, 3) := by decide +kernel
theorem dX4_spell_151 : decode cX4_spell 151 = .ok (.aload_n 0, 1) := by decide +kernel
theorem dX4_spell_152 : decode cX4_spell 152 = .ok (.iload_n 1, 1) := by decide +kernel
theorem dX4_spell_153 : decode cX4_spell 153 = .ok (.bipush 125, 2) := by decide +kernel
theorem dX4_spell_155 : decode cX4_spell 155 = .ok (.invokevirtual 90, 3) := by decide +kernel
theorem dX4_spell_158 : decode cX4_spell 158 = .ok (.return_, 1) := by decide +kernel
theorem dX4_spellOptions_0 : decode cX4_spellOptions 0 = .ok (.iconst 1, 1) := by decide +kernel
theorem dX4_spellOptions_1 : decode cX4_spellOptions 1 = .ok (.istore_n 3, 1) := by decide +kernel
theorem dX4_spellOptions_2 : decode cX4_spellOptions 2 = .ok (.iconst 0, 1) := by decide +kernel
theorem dX4_spellOptions_3 : decode cX4_spellOptions 3 = .ok (.istore 4, 2) := by decide +kernel
theorem dX4_spellOptions_5 : decode cX4_spellOptions 5 = .ok (.iload 4, 2) := by decide +kernel
theorem dX4_spellOptions_7 : decode cX4_spellOptions 7 = .ok (.iload_n 1, 1) := by decide +kernel
theorem dX4_spellOptions_8 : decode cX4_spellOptions 8 = .ok (.if_icmp .ge 111, 3) := by decide +kernel
theorem dX4_spellOptions_11 : decode cX4_spellOptions 11 = .ok (.iload 4, 2) := by decide +kernel
theorem dX4_spellOptions_13 : decode cX4_spellOptions 13 = .ok (.aload_n 0, 1) := by decide +kernel
theorem dX4_spellOptions_14 : decode cX4_spellOptions 14 = .ok (.getfield 27, 3) := by decide +kernel
theorem dX4_spellOptions_17 : decode cX4_spellOptions 17 = .ok (.arraylength, 1) := by decide +kernel
theorem dX4_spellOptions_18 : decode cX4_spellOptions 18 = .ok (.if_icmp .ge 101, 3) := by decide +kernel
theorem dX4_spellOptions_21 : decode cX4_spellOptions 21 = .ok (.aload_n 0, 1) := by decide +kernel
theorem dX4_spellOptions_22 : decode cX4_spellOptions 22 = .ok (.getfield 27, 3) := by decide +kernel
theorem dX4_spellOptions_25 : decode cX4_spellOptions 25 = .ok (.iload 4, 2) := by decide +kernel
theorem dX4_spellOptions_27 : decode cX4_spellOptions 27 = .ok (.iaload, 1) := by decide +kernel
theorem dX4_spellOptions_28 : decode cX4_spellOptions 28 = .ok (.istore 5, 2) := by decide +kernel
theorem dX4_spellOptions_30 : decode cX4_spellOptions 30 = .ok (.iload 5, 2) := by decide +kernel
theorem dX4_spellOptions_32 : decode cX4_spellOptions 32 = .ok (.ifCond .lt 81, 3) := by decide +kernel
theorem dX4_spellOptions_35 : decode cX4_spellOptions 35 = .ok (.iload 5, 2) := by decide +kernel
theorem dX4_spellOptions_37 : decode cX4_spellOptions 37 = .ok (.aload_n 0, 1) := by decide +kernel
theorem dX4_spellOptions_38 : decode cX4_spellOptions 38 = .ok (.getfield 33, 3) := by decide +kernel
theorem dX4_spellOptions_41 : decode cX4_spellOptions 41 = .ok (.arraylength, 1) := by decide +kernel
theorem dX4_spellOptions_42 : decode cX4_spellOptions 42 = .ok (.if_icmp .ge 71, 3) := by decide +kernel
theorem dX4_spellOptions_45 : decode cX4_spellOptions 45 = .ok (.iload_n 2, 1) := by decide +kernel
theorem dX4_spellOptions_46 : decode cX4_spellOptions 46 = .ok (.iload 5, 2) := by decide +kernel
theorem dX4_spellOptions_48 : decode cX4_spellOptions 48 = .ok (.ishr, 1) := by decide +kernel
theorem dX4_spellOptions_49 : decode cX4_spellOptions 49 = .ok (.iconst 1, 1) := by decide +kernel
theorem dX4_spellOptions_50 : decode cX4_spellOptions 50 = .ok (.iand, 1) := by decide +kernel
theorem dX4_spellOptions_51 : decode cX4_spellOptions 51 = .ok (.ifCond .eq 62, 3) := by decide +kernel
theorem dX4_spellOptions_54 : decode cX4_spellOptions 54 = .ok (.iload_n 3, 1) := by decide +kernel
theorem dX4_spellOptions_55 : decode cX4_spellOptions 55 = .ok (.ifCond .ne 10, 3) := by decide +kernel
theorem dX4_spellOptions_58 : decode cX4_spellOptions 58 = .ok (.aload_n 0, 1) := by decide +kernel
theorem dX4_spellOptions_59 : decode cX4_spellOptions 59 = .ok (.iload_n 1, 1) := by decide +kernel
theorem dX4_spellOptions_60 : decode cX4_spellOptions 60 = .ok (.bipush 44, 2) := by decide +kernel
theorem dX4_spellOptions_62 : decode cX4_spellOptions 62 = .ok (.invokevirtual 90, 3) := by decide +kernel
theorem dX4_spellOptions_65 : decode cX4_spellOptions 65 = .ok (.iconst 0, 1) := by decide +kernel
theorem dX4_spellOptions_66 : decode cX4_spellOptions 66 = .ok (.istore_n 3, 1) := by decide +kernel
theorem dX4_spellOptions_67 : decode cX4_spellOptions 67 = .ok (.iconst 0, 1) := by decide +kernel
theorem dX4_spellOptions_68 : decode cX4_spellOptions 68 = .ok (.istore 6, 2) := by decide +kernel
theorem dX4_spellOptions_70 : decode cX4_spellOptions 70 = .ok (.iload 6, 2) := by decide +kernel
theorem dX4_spellOptions_72 : decode cX4_spellOptions 72 = .ok (.aload_n 0, 1) := by decide +kernel
theorem dX4_spellOptions_73 : decode cX4_spellOptions 73 = .ok (.getfield 33, 3) := by decide +kernel
theorem dX4_spellOptions_76 : decode cX4_spellOptions 76 = .ok (.iload 5, 2) := by decide +kernel
theorem dX4_spellOptions_78 : decode cX4_spellOptions 78 = .ok (.iaload, 1) := by decide +kernel
theorem dX4_spellOptions_79 : decode cX4_spellOptions 79 = .ok (.if_icmp .ge 34, 3) := by decide +kernel
theorem dX4_spellOptions_82 : decode cX4_spellOptions 82 = .ok (.iload 6, 2) := by decide +kernel
theorem dX4_spellOptions_84 : decode cX4_spellOptions 84 = .ok (.bipush 100, 2) := by decide +kernel
theorem dX4_spellOptions_86 : decode cX4_spellOptions 86 = .ok (.if_icmp .ge 27, 3) := by decide +kernel
theorem dX4_spellOptions_89 : decode cX4_spellOptions 89 = .ok (.aload_n 0, 1) := by decide +kernel
theorem dX4_spellOptions_90 : decode cX4_spellOptions 90 = .ok (.iload_n 1, 1) := by decide +kernel
theorem dX4_spellOptions_91 : decode cX4_spellOptions 91 = .ok (.aload_n 0, 1) := by decide +kernel
theorem dX4_spellOptions_92 : decode cX4_spellOptions 92 = .ok (.getfield 36, 3) := by decide +kernel
theorem dX4_spellOptions_95 : decode cX4_spellOptions 95 = .ok (.iload 5, 2) := by decide +kernel
theorem dX4_spellOptions_97 : decode cX4_spellOptions 97 = .ok (.bipush 100, 2) := by decide +kernel
theorem dX4_spellOptions_99 : decode cX4_spellOptions 99 = .ok (.imul, 1) := by decide +kernel
theorem dX4_spellOptions_100 : decode cX4_spellOptions 100 = .ok (.iload 6, 2) := by decide +kernel
theorem dX4_spellOptions_102 : decode cX4_spellOptions 102 = .ok (.iadd, 1) := by decide +kernel
theorem dX4_spellOptions_103 : decode cX4_spellOptions 103 = .ok (.baload, 1) := by decide +kernel
theorem dX4_spellOptions_104 : decode cX4_spellOptions 104 = .ok (.invokevirtual 90, 3) := by decide +kernel
theorem dX4_spellOptions_107 : decode cX4_spellOptions 107 = .ok (.iinc 6 1, 3) := by decide +kernel
theorem dX4_spellOptions_110 : decode cX4_spellOptions 110 = .ok (.goto (-40), 3) := by decide +kernel
theorem dX4_spellOptions_113 : decode cX4_spellOptions 113 = .ok (.iinc 4 1, 3) := by decide +kernel
theorem dX4_spellOptions_116 : decode cX4_spellOptions 116 = .ok (.goto (-111), 3) := by decide +kernel
theorem dX4_spellOptions_119 : decode cX4_spellOptions 119 = .ok (.return_, 1) := by decide +kernel
theorem dX4_type_0 : decode cX4_type 0 = .ok (.iload_n 1, 1) := by decide +kernel
theorem dX4_type_1 : decode cX4_type 1 = .ok (.ifCond .lt 32, 3) := by decide +kernel
theorem dX4_type_4 : decode cX4_type 4 = .ok (.iload_n 1, 1) := by decide +kernel
theorem dX4_type_5 : decode cX4_type 5 = .ok (.aload_n 0, 1) := by decide +kernel
theorem dX4_type_6 : decode cX4_type 6 = .ok (.getfield 33, 3) := by decide +kernel
theorem dX4_type_9 : decode cX4_type 9 = .ok (.arraylength, 1) := by decide +kernel
theorem dX4_type_10 : decode cX4_type 10 = .ok (.if_icmp .ge 23, 3) := by decide +kernel
theorem dX4_type_13 : decode cX4_type 13 = .ok (.aload_n 0, 1) := by decide +kernel
theorem dX4_type_14 : decode cX4_type 14 = .ok (.getfield 33, 3) := by decide +kernel
theorem dX4_type_17 : decode cX4_type 17 = .ok (.iload_n 1, 1) := by decide +kernel
theorem dX4_type_18 : decode cX4_type 18 = .ok (.iaload, 1) := by decide +kernel
theorem dX4_type_19 : decode cX4_type 19 = .ok (.ifCond .lt 14, 3) := by decide +kernel
theorem dX4_type_22 : decode cX4_type 22 = .ok (.aload_n 0, 1) := by decide +kernel
theorem dX4_type_23 : decode cX4_type 23 = .ok (.getfield 33, 3) := by decide +kernel
theorem dX4_type_26 : decode cX4_type 26 = .ok (.iload_n 1, 1) := by decide +kernel
theorem dX4_type_27 : decode cX4_type 27 = .ok (.iaload, 1) := by decide +kernel
theorem dX4_type_28 : decode cX4_type 28 = .ok (.bipush 100, 2) := by decide +kernel
theorem dX4_type_30 : decode cX4_type 30 = .ok (.if_icmp .lt 9, 3) := by decide +kernel
theorem dX4_type_33 : decode cX4_type 33 = .ok (.aload_n 0, 1) := by decide +kernel
theorem dX4_type_34 : decode cX4_type 34 = .ok (.iconst 1, 1) := by decide +kernel
theorem dX4_type_35 : decode cX4_type 35 = .ok (.putfield 50, 3) := by decide +kernel
theorem dX4_type_38 : decode cX4_type 38 = .ok (.return_, 1) := by decide +kernel
theorem dX4_type_39 : decode cX4_type 39 = .ok (.aload_n 0, 1) := by decide +kernel
theorem dX4_type_40 : decode cX4_type 40 = .ok (.getfield 36, 3) := by decide +kernel
theorem dX4_type_43 : decode cX4_type 43 = .ok (.iload_n 1, 1) := by decide +kernel
theorem dX4_type_44 : decode cX4_type 44 = .ok (.bipush 100, 2) := by decide +kernel
theorem dX4_type_46 : decode cX4_type 46 = .ok (.imul, 1) := by decide +kernel
theorem dX4_type_47 : decode cX4_type 47 = .ok (.aload_n 0, 1) := by decide +kernel
theorem dX4_type_48 : decode cX4_type 48 = .ok (.getfield 33, 3) := by decide +kernel
theorem dX4_type_51 : decode cX4_type 51 = .ok (.iload_n 1, 1) := by decide +kernel
theorem dX4_type_52 : decode cX4_type 52 = .ok (.iaload, 1) := by decide +kernel
theorem dX4_type_53 : decode cX4_type 53 = .ok (.iadd, 1) := by decide +kernel
theorem dX4_type_54 : decode cX4_type 54 = .ok (.iload_n 2, 1) := by decide +kernel
theorem dX4_type_55 : decode cX4_type 55 = .ok (.i2b, 1) := by decide +kernel
theorem dX4_type_56 : decode cX4_type 56 = .ok (.bastore, 1) := by decide +kernel
theorem dX4_type_57 : decode cX4_type 57 = .ok (.aload_n 0, 1) := by decide +kernel
theorem dX4_type_58 : decode cX4_type 58 = .ok (.getfield 33, 3) := by decide +kernel
theorem dX4_type_61 : decode cX4_type 61 = .ok (.iload_n 1, 1) := by decide +kernel
theorem dX4_type_62 : decode cX4_type 62 = .ok (.dup2, 1) := by decide +kernel
theorem dX4_type_63 : decode cX4_type 63 = .ok (.iaload, 1) := by decide +kernel
theorem dX4_type_64 : decode cX4_type 64 = .ok (.iconst 1, 1) := by decide +kernel
theorem dX4_type_65 : decode cX4_type 65 = .ok (.iadd, 1) := by decide +kernel
theorem dX4_type_66 : decode cX4_type 66 = .ok (.iastore, 1) := by decide +kernel
theorem dX4_type_67 : decode cX4_type 67 = .ok (.return_, 1) := by decide +kernel
theorem dX4_written_0 : decode cX4_written 0 = .ok (.aload_n 0, 1) := by decide +kernel
theorem dX4_written_1 : decode cX4_written 1 = .ok (.getfield 40, 3) := by decide +kernel
theorem dX4_written_4 : decode cX4_written 4 = .ok (.iload_n 1, 1) := by decide +kernel
theorem dX4_written_5 : decode cX4_written 5 = .ok (.aload_n 0, 1) := by decide +kernel
theorem dX4_written_6 : decode cX4_written 6 = .ok (.getfield 9, 3) := by decide +kernel
theorem dX4_written_9 : decode cX4_written 9 = .ok (.invokevirtual 44, 3) := by decide +kernel
theorem dX4_written_12 : decode cX4_written 12 = .ok (.istore_n 2, 1) := by decide +kernel
theorem dX4_written_13 : decode cX4_written 13 = .ok (.iload_n 2, 1) := by decide +kernel
theorem dX4_written_14 : decode cX4_written 14 = .ok (.iconst 1, 1) := by decide +kernel
theorem dX4_written_15 : decode cX4_written 15 = .ok (.if_icmp .lt 9, 3) := by decide +kernel
theorem dX4_written_18 : decode cX4_written 18 = .ok (.iload_n 2, 1) := by decide +kernel
theorem dX4_written_19 : decode cX4_written 19 = .ok (.bipush 10, 2) := by decide +kernel
theorem dX4_written_21 : decode cX4_written 21 = .ok (.if_icmp .le 5, 3) := by decide +kernel
theorem dX4_written_24 : decode cX4_written 24 = .ok (.aconst_null, 1) := by decide +kernel
theorem dX4_written_25 : decode cX4_written 25 = .ok (.areturn, 1) := by decide +kernel
theorem dX4_written_26 : decode cX4_written 26 = .ok (.aload_n 0, 1) := by decide +kernel
theorem dX4_written_27 : decode cX4_written 27 = .ok (.iconst 0, 1) := by decide +kernel
theorem dX4_written_28 : decode cX4_written 28 = .ok (.putfield 50, 3) := by decide +kernel
theorem dX4_written_31 : decode cX4_written 31 = .ok (.iconst 0, 1) := by decide +kernel
theorem dX4_written_32 : decode cX4_written 32 = .ok (.istore_n 3, 1) := by decide +kernel
theorem dX4_written_33 : decode cX4_written 33 = .ok (.iload_n 3, 1) := by decide +kernel
theorem dX4_written_34 : decode cX4_written 34 = .ok (.iload_n 2, 1) := by decide +kernel
theorem dX4_written_35 : decode cX4_written 35 = .ok (.if_icmp .ge 65, 3) := by decide +kernel
theorem dX4_written_38 : decode cX4_written 38 = .ok (.aload_n 0, 1) := by decide +kernel
theorem dX4_written_39 : decode cX4_written 39 = .ok (.getfield 15, 3) := by decide +kernel
theorem dX4_written_42 : decode cX4_written 42 = .ok (.iload_n 3, 1) := by decide +kernel
theorem dX4_written_43 : decode cX4_written 43 = .ok (.aload_n 0, 1) := by decide +kernel
theorem dX4_written_44 : decode cX4_written 44 = .ok (.iload_n 3, 1) := by decide +kernel
theorem dX4_written_45 : decode cX4_written 45 = .ok (.iconst 0, 1) := by decide +kernel
theorem dX4_written_46 : decode cX4_written 46 = .ok (.invokevirtual 54, 3) := by decide +kernel
theorem dX4_written_49 : decode cX4_written 49 = .ok (.iastore, 1) := by decide +kernel
theorem dX4_written_50 : decode cX4_written 50 = .ok (.aload_n 0, 1) := by decide +kernel
theorem dX4_written_51 : decode cX4_written 51 = .ok (.getfield 18, 3) := by decide +kernel
theorem dX4_written_54 : decode cX4_written 54 = .ok (.iload_n 3, 1) := by decide +kernel
theorem dX4_written_55 : decode cX4_written 55 = .ok (.aload_n 0, 1) := by decide +kernel
theorem dX4_written_56 : decode cX4_written 56 = .ok (.iload_n 3, 1) := by decide +kernel
theorem dX4_written_57 : decode cX4_written 57 = .ok (.iconst 1, 1) := by decide +kernel
theorem dX4_written_58 : decode cX4_written 58 = .ok (.invokevirtual 54, 3) := by decide +kernel
theorem dX4_written_61 : decode cX4_written 61 = .ok (.iastore, 1) := by decide +kernel
theorem dX4_written_62 : decode cX4_written 62 = .ok (.aload_n 0, 1) := by decide +kernel
theorem dX4_written_63 : decode cX4_written 63 = .ok (.getfield 21, 3) := by decide +kernel
theorem dX4_written_66 : decode cX4_written 66 = .ok (.iload_n 3, 1) := by decide +kernel
theorem dX4_written_67 : decode cX4_written 67 = .ok (.aload_n 0, 1) := by decide +kernel
theorem dX4_written_68 : decode cX4_written 68 = .ok (.iload_n 3, 1) := by decide +kernel
theorem dX4_written_69 : decode cX4_written 69 = .ok (.invokevirtual 58, 3) := by decide +kernel
theorem dX4_written_72 : decode cX4_written 72 = .ok (.iastore, 1) := by decide +kernel
theorem dX4_written_73 : decode cX4_written 73 = .ok (.aload_n 0, 1) := by decide +kernel
theorem dX4_written_74 : decode cX4_written 74 = .ok (.getfield 24, 3) := by decide +kernel
theorem dX4_written_77 : decode cX4_written 77 = .ok (.iload_n 3, 1) := by decide +kernel
theorem dX4_written_78 : decode cX4_written 78 = .ok (.aload_n 0, 1) := by decide +kernel
theorem dX4_written_79 : decode cX4_written 79 = .ok (.iload_n 3, 1) := by decide +kernel
theorem dX4_written_80 : decode cX4_written 80 = .ok (.invokevirtual 62, 3) := by decide +kernel
theorem dX4_written_83 : decode cX4_written 83 = .ok (.iastore, 1) := by decide +kernel
theorem dX4_written_84 : decode cX4_written 84 = .ok (.aload_n 0, 1) := by decide +kernel
theorem dX4_written_85 : decode cX4_written 85 = .ok (.iload_n 3, 1) := by decide +kernel
theorem dX4_written_86 : decode cX4_written 86 = .ok (.invokevirtual 65, 3) := by decide +kernel
theorem dX4_written_89 : decode cX4_written 89 = .ok (.aload_n 0, 1) := by decide +kernel
theorem dX4_written_90 : decode cX4_written 90 = .ok (.iload_n 3, 1) := by decide +kernel
theorem dX4_written_91 : decode cX4_written 91 = .ok (.invokevirtual 69, 3) := by decide +kernel
theorem dX4_written_94 : decode cX4_written 94 = .ok (.iinc 3 1, 3) := by decide +kernel
theorem dX4_written_97 : decode cX4_written 97 = .ok (.goto (-64), 3) := by decide +kernel
theorem dX4_written_100 : decode cX4_written 100 = .ok (.aload_n 0, 1) := by decide +kernel
theorem dX4_written_101 : decode cX4_written 101 = .ok (.getfield 50, 3) := by decide +kernel
theorem dX4_written_104 : decode cX4_written 104 = .ok (.ifCond .eq 7, 3) := by decide +kernel
theorem dX4_written_107 : decode cX4_written 107 = .ok (.aconst_null, 1) := by decide +kernel
theorem dX4_written_108 : decode cX4_written 108 = .ok (.goto 8, 3) := by decide +kernel
theorem dX4_written_111 : decode cX4_written 111 = .ok (.aload_n 0, 1) := by decide +kernel
theorem dX4_written_112 : decode cX4_written 112 = .ok (.iload_n 2, 1) := by decide +kernel
theorem dX4_written_113 : decode cX4_written 113 = .ok (.invokevirtual 72, 3) := by decide +kernel
theorem dX4_written_116 : decode cX4_written 116 = .ok (.areturn, 1) := by decide +kernel
/-- X4 dayOf (I)I -/
def f_X4_dayOf (n : Nat) (p1 : Int) (mi : Mem) : Option Rz :=
  lp (F := Int → Int → Mem → Option Rz) (fun _ _ _ => none) (fun w4 v2_4 v3_4 m4 =>
    jn (fun (m55 : Mem) =>
      rt (w32 (v2_4 + 1)) m55
    ) fun (j55 : Mem → Option Rz) =>
    if v3_4 < p1 then (
      if p1 < 10 then (
        ldI m4 20 p1 fun x23 =>
        ldI m4 21 p1 fun x29 =>
        jn (fun (v2_49 : Int) (m49 : Mem) =>
          w4 v2_49 (w32 (v3_4 + 1)) m49
        ) fun (j49 : Int → Mem → Option Rz) =>
        if iand (ishr (ior x23 x29) v3_4) 1 = 0 then (
          j49 v2_4 m4
        ) else
        ldI m4 22 v3_4 fun x44 =>
        nm (imax v2_4 x44) fun z48 =>
        j49 z48 m4
      ) else
      j55 m4
    ) else
    j55 m4
  ) n (-1) 0 mi
set_option maxRecDepth 100000 in
set_option maxHeartbeats 4000000 in
theorem s_X4_dayOf (l : Launch) (sc : g_S) (E : Mem → g_H) (R : Nat → Prop) (hE : LE E R) (hR : RYS R) (n : Nat)  (p1 : Int) (hp1 : inR p1) (mi : Mem) (r : Rz) (H : f_X4_dayOf n p1 mi = some r) : AMet l sc yX4_dayOf cX4_dayOf 4 (some FieldType.int) 1 0 0 [.ref 18, iv p1] (E mi) (pI E r) := by
  have r18 : R 18 := hR.1 18 (Nat.le_of_ble_eq_true rfl) (Nat.le_of_ble_eq_true rfl)
  have r20 : R 20 := hR.1 20 (Nat.le_of_ble_eq_true rfl) (Nat.le_of_ble_eq_true rfl)
  have r21 : R 21 := hR.1 21 (Nat.le_of_ble_eq_true rfl) (Nat.le_of_ble_eq_true rfl)
  have r22 : R 22 := hR.1 22 (Nat.le_of_ble_eq_true rfl) (Nat.le_of_ble_eq_true rfl)
  unfold f_X4_dayOf at H
  refine AMet.of (own := RX4) (by decide +kernel) rfl (Nat.le_of_ble_eq_true rfl) [(0, .ref 18), (1, iv p1)] rfl (fun D base ad => ?_)
  refine cx_iconst (pc := 0) dX4_dayOf_0 ?_
  refine aw_istore_n (pc := 1) [(2, iv (-1)), (0, .ref 18), (1, iv p1)] dX4_dayOf_1 rfl (by decide) ?_
  refine cx_iconst (pc := 2) dX4_dayOf_2 ?_
  refine aw_istore_n (pc := 3) [(3, iv 0), (2, iv (-1)), (0, .ref 18), (1, iv p1)] dX4_dayOf_3 rfl (by decide) ?_
  refine AW.sel [2, 3, 1, 0] rfl (lp_ind (bot := fun _ _ _ => none) (fun (f9 : Int → Int → Mem → Option Rz) => ∀ (v2_4 : Int) (v3_4 : Int) (m4 : Mem), inR v2_4 → inR v3_4 → f9 v2_4 v3_4 m4 = some r → AW l D base sc RX4 yX4_dayOf cX4_dayOf 4 (some FieldType.int) 1 0 0 ad (E mi) (pI E r) 0 0 (E m4) 4 [(0, .ref 18), (1, iv p1), (2, iv v2_4), (3, iv v3_4)] []) (fun _ _ _ _ _ h9 => nomatch h9) (fun w4 ih4 v2_4 v3_4 m4 hv2_4 hv3_4 H => ?_) n _ _ _ (inR_lit _ rfl) (inR_lit _ rfl) H)
  refine aw_iload_n (pc := 4) dX4_dayOf_4 rfl ?_
  refine aw_iload_n (pc := 5) dX4_dayOf_5 rfl ?_
  refine jn_ind (fun (f9 : Mem → Option Rz) => ∀ (m55 : Mem), f9 m55 = some r → AW l D base sc RX4 yX4_dayOf cX4_dayOf 4 (some FieldType.int) 1 0 0 ad (E mi) (pI E r) 0 0 (E m55) 55 [(2, iv v2_4)] []) (fun m55 H => ?_) (fun j55 hj55 H => ?_) H
  · -- 55
    refine aw_iload_n (pc := 55) dX4_dayOf_55 rfl ?_
    refine cx_iconst (pc := 56) dX4_dayOf_56 ?_
    refine cx_iadd (pc := 57) dX4_dayOf_57 ?_
    exact cx_iret (pc := 58) (inR_w32 _) rfl (Nat.le_of_ble_eq_true rfl) (Nat.le_of_ble_eq_true rfl) dX4_dayOf_58 H
  refine cx_icmp_ge (pc := 6) 55 hv3_4 hp1 dX4_dayOf_6 rfl H (fun H => ?_) (fun H => ?_)
  · -- 6: 9
    refine aw_iload_n (pc := 9) dX4_dayOf_9 rfl ?_
    refine aw_aload_n (pc := 10) dX4_dayOf_10 rfl ?_
    refine cx_gtC (pc := 11) 22 hE r18 fl_X4_21 rfl rfl (Nat.le_of_ble_eq_true rfl) dX4_dayOf_11 ?_
    refine cx_lenC (pc := 14) (c := 10) hE r22 (fun _ => ⟨_, _, rfl, rfl⟩) dX4_dayOf_14 ?_
    refine cx_icmp_ge (pc := 15) 55 hp1 (inR_lit _ rfl) dX4_dayOf_15 rfl H (fun H => ?_) (fun H => ?_)
    · -- 15: 18
      refine aw_aload_n (pc := 18) dX4_dayOf_18 rfl ?_
      refine cx_gtC (pc := 19) 20 hE r18 fl_X4_15 rfl rfl (Nat.le_of_ble_eq_true rfl) dX4_dayOf_19 ?_
      refine aw_iload_n (pc := 22) dX4_dayOf_22 rfl ?_
      refine cx_ldI (pc := 23) hE r20 hp1 dX4_dayOf_23 H (fun x23 hx23 H => ?_)
      refine aw_aload_n (pc := 24) dX4_dayOf_24 rfl ?_
      refine cx_gtC (pc := 25) 21 hE r18 fl_X4_18 rfl rfl (Nat.le_of_ble_eq_true rfl) dX4_dayOf_25 ?_
      refine aw_iload_n (pc := 28) dX4_dayOf_28 rfl ?_
      refine cx_ldI (pc := 29) hE r21 hp1 dX4_dayOf_29 H (fun x29 hx29 H => ?_)
      refine cx_ior (pc := 30) dX4_dayOf_30 ?_
      refine aw_iload_n (pc := 31) dX4_dayOf_31 rfl ?_
      refine cx_ishr (pc := 32) dX4_dayOf_32 ?_
      refine cx_iconst (pc := 33) dX4_dayOf_33 ?_
      refine cx_iand (pc := 34) dX4_dayOf_34 ?_
      refine jn_ind (fun (f9 : Int → Mem → Option Rz) => ∀ (v2_49 : Int) (m49 : Mem), inR v2_49 → f9 v2_49 m49 = some r → AW l D base sc RX4 yX4_dayOf cX4_dayOf 4 (some FieldType.int) 1 0 0 ad (E mi) (pI E r) 0 0 (E m49) 49 [(0, .ref 18), (1, iv p1), (2, iv v2_49), (3, iv v3_4)] []) (fun v2_49 m49 hv2_49 H => ?_) (fun j49 hj49 H => ?_) H
      · -- 49
        refine cx_iinc (pc := 49) [(3, iv (w32 (v3_4 + 1))), (0, .ref 18), (1, iv p1), (2, iv v2_49)] dX4_dayOf_49 rfl rfl (by decide) ?_
        refine aw_goto (pc := 52) 4 dX4_dayOf_52 rfl ?_
        exact AW.sel [1, 2, 3, 0] rfl (ih4 _ _ _ hv2_49 (inR_w32 _) H)
      refine cx_if_eq (pc := 35) 49 (inR_32 _) dX4_dayOf_35 rfl H (fun H => ?_) (fun H => ?_)
      · -- 35: 49
        exact AW.sel [0, 1, 2, 3] rfl (hj49 _ _ hv2_4 H)
      · -- 35: 38
        refine aw_iload_n (pc := 38) dX4_dayOf_38 rfl ?_
        refine aw_aload_n (pc := 39) dX4_dayOf_39 rfl ?_
        refine cx_gtC (pc := 40) 22 hE r18 fl_X4_21 rfl rfl (Nat.le_of_ble_eq_true rfl) dX4_dayOf_40 ?_
        refine aw_iload_n (pc := 43) dX4_dayOf_43 rfl ?_
        refine cx_ldI (pc := 44) hE r22 hv3_4 dX4_dayOf_44 H (fun x44 hx44 H => ?_)
        refine cx_mmax (pc := 45) hv2_4 hx44 mimax_y mimax_c (g_mem 304 (by decide +kernel) rfl) ca_X4_80 (Nat.le_of_ble_eq_true rfl) (Nat.le_of_ble_eq_true rfl) (Nat.le_of_ble_eq_true rfl) (Nat.le_of_ble_eq_true rfl) dX4_dayOf_45 ?_
        refine cx_nm (inR_max hv2_4 hx44) H (fun z48 hz48 H => ?_)
        refine aw_istore_n (pc := 48) [(2, iv z48), (0, .ref 18), (1, iv p1), (3, iv v3_4)] dX4_dayOf_48 rfl (by decide) ?_
        exact AW.sel [1, 2, 0, 3] rfl (hj49 _ _ hz48 H)
    · -- 15: 55
      exact AW.sel [2] rfl (hj55 _ H)
  · -- 6: 55
    exact AW.sel [2] rfl (hj55 _ H)
/-- X4 heapOf (I)I -/
def f_X4_heapOf (n : Nat) (p1 : Int) (mi : Mem) : Option Rz :=
  jn (fun (m28 : Mem) =>
    rt (-1) m28
  ) fun (j28 : Mem → Option Rz) =>
  if p1 < 0 then (
    j28 mi
  ) else
  if p1 < 10 then (
    ldI mi 20 p1 fun x18 =>
    ldI mi 21 p1 fun x24 =>
    if x18 = x24 then (
      ldI mi 20 p1 fun x35 =>
      cal (f_J6_bitCount_0f7a4 n x35 mi) fun x36 m36 =>
      lp (F := Int → Mem → Option Rz) (fun _ _ => none) (fun w42 v3_42 m42 =>
        if v3_42 < p1 then (
          ldI m42 20 p1 fun x52 =>
          jn (fun (m81 : Mem) =>
            w42 (w32 (v3_42 + 1)) m81
          ) fun (j81 : Mem → Option Rz) =>
          if iand (ishr x52 v3_42) 1 = 0 then (
            j81 m42
          ) else
          ldI m42 23 v3_42 fun x65 =>
          jn (fun (m79 : Mem) =>
            rt (-1) m79
          ) fun (j79 : Mem → Option Rz) =>
          if x65 < 0 then (
            j79 m42
          ) else
          ldI m42 23 v3_42 fun x74 =>
          if x74 < x36 then (
            j81 m42
          ) else
          j79 m42
        ) else
        rt x36 m42
      ) n 0 m36
    ) else
    j28 mi
  ) else
  j28 mi
set_option maxRecDepth 100000 in
set_option maxHeartbeats 4000000 in
theorem s_X4_heapOf (l : Launch) (sc : g_S) (E : Mem → g_H) (R : Nat → Prop) (hE : LE E R) (hR : RYS R) (n : Nat)  (p1 : Int) (hp1 : inR p1) (mi : Mem) (r : Rz) (H : f_X4_heapOf n p1 mi = some r) : AMet l sc yX4_heapOf cX4_heapOf 4 (some FieldType.int) 1 0 0 [.ref 18, iv p1] (E mi) (pI E r) := by
  have r18 : R 18 := hR.1 18 (Nat.le_of_ble_eq_true rfl) (Nat.le_of_ble_eq_true rfl)
  have r20 : R 20 := hR.1 20 (Nat.le_of_ble_eq_true rfl) (Nat.le_of_ble_eq_true rfl)
  have r21 : R 21 := hR.1 21 (Nat.le_of_ble_eq_true rfl) (Nat.le_of_ble_eq_true rfl)
  have r23 : R 23 := hR.1 23 (Nat.le_of_ble_eq_true rfl) (Nat.le_of_ble_eq_true rfl)
  unfold f_X4_heapOf at H
  refine AMet.of (own := RX4) (by decide +kernel) rfl (Nat.le_of_ble_eq_true rfl) [(0, .ref 18), (1, iv p1)] rfl (fun D base ad => ?_)
  refine aw_iload_n (pc := 0) dX4_heapOf_0 rfl ?_
  refine jn_ind (fun (f9 : Mem → Option Rz) => ∀ (m28 : Mem), f9 m28 = some r → AW l D base sc RX4 yX4_heapOf cX4_heapOf 4 (some FieldType.int) 1 0 0 ad (E mi) (pI E r) 0 0 (E m28) 28 [] []) (fun m28 H => ?_) (fun j28 hj28 H => ?_) H
  · -- 28
    refine cx_iconst (pc := 28) dX4_heapOf_28 ?_
    exact cx_iret (pc := 29) (inR_lit _ rfl) rfl (Nat.le_of_ble_eq_true rfl) (Nat.le_of_ble_eq_true rfl) dX4_heapOf_29 H
  refine cx_if_lt (pc := 1) 28 hp1 dX4_heapOf_1 rfl H (fun H => ?_) (fun H => ?_)
  · -- 1: 28
    exact AW.sel [] rfl (hj28 _ H)
  · -- 1: 4
    refine aw_iload_n (pc := 4) dX4_heapOf_4 rfl ?_
    refine aw_aload_n (pc := 5) dX4_heapOf_5 rfl ?_
    refine cx_gtC (pc := 6) 20 hE r18 fl_X4_15 rfl rfl (Nat.le_of_ble_eq_true rfl) dX4_heapOf_6 ?_
    refine cx_lenC (pc := 9) (c := 10) hE r20 (fun _ => ⟨_, _, rfl, rfl⟩) dX4_heapOf_9 ?_
    refine cx_icmp_ge (pc := 10) 28 hp1 (inR_lit _ rfl) dX4_heapOf_10 rfl H (fun H => ?_) (fun H => ?_)
    · -- 10: 13
      refine aw_aload_n (pc := 13) dX4_heapOf_13 rfl ?_
      refine cx_gtC (pc := 14) 20 hE r18 fl_X4_15 rfl rfl (Nat.le_of_ble_eq_true rfl) dX4_heapOf_14 ?_
      refine aw_iload_n (pc := 17) dX4_heapOf_17 rfl ?_
      refine cx_ldI (pc := 18) hE r20 hp1 dX4_heapOf_18 H (fun x18 hx18 H => ?_)
      refine aw_aload_n (pc := 19) dX4_heapOf_19 rfl ?_
      refine cx_gtC (pc := 20) 21 hE r18 fl_X4_18 rfl rfl (Nat.le_of_ble_eq_true rfl) dX4_heapOf_20 ?_
      refine aw_iload_n (pc := 23) dX4_heapOf_23 rfl ?_
      refine cx_ldI (pc := 24) hE r21 hp1 dX4_heapOf_24 H (fun x24 hx24 H => ?_)
      refine cx_icmp_eq (pc := 25) 30 hx18 hx24 dX4_heapOf_25 rfl H (fun H => ?_) (fun H => ?_)
      · -- 25: 30
        refine aw_aload_n (pc := 30) dX4_heapOf_30 rfl ?_
        refine cx_gtC (pc := 31) 20 hE r18 fl_X4_15 rfl rfl (Nat.le_of_ble_eq_true rfl) dX4_heapOf_31 ?_
        refine aw_iload_n (pc := 34) dX4_heapOf_34 rfl ?_
        refine cx_ldI (pc := 35) hE r20 hp1 dX4_heapOf_35 H (fun x35 hx35 H => ?_)
        refine cx_callS (pc := 36) (P := pI) (dC := 0) (mcC := 0) (msC := 0) [iv x35] (fun r1 H1 => s_J6_bitCount_0f7a4 l sc E R hE n x35 hx35 mi r1 H1) ca_X4_85 rfl rfl (Nat.le_of_ble_eq_true rfl) (Nat.le_of_ble_eq_true rfl) (Nat.le_of_ble_eq_true rfl) (Nat.le_of_ble_eq_true rfl) dX4_heapOf_36 H (fun x36 m36 v36 hh36 H hp => ?_)
        refine cx_backI hp (fun hx36 => ?_)
        refine aw_istore_n (pc := 39) [(2, iv x36), (0, .ref 18), (1, iv p1)] dX4_heapOf_39 rfl (by decide) ?_
        refine cx_iconst (pc := 40) dX4_heapOf_40 ?_
        refine aw_istore_n (pc := 41) [(3, iv 0), (2, iv x36), (0, .ref 18), (1, iv p1)] dX4_heapOf_41 rfl (by decide) ?_
        refine AW.sel [2, 3, 1, 0] rfl (lp_ind (bot := fun _ _ => none) (fun (f9 : Int → Mem → Option Rz) => ∀ (v3_42 : Int) (m42 : Mem), inR v3_42 → f9 v3_42 m42 = some r → AW l D base sc RX4 yX4_heapOf cX4_heapOf 4 (some FieldType.int) 1 0 0 ad (E mi) (pI E r) 0 0 (E m42) 42 [(0, .ref 18), (1, iv p1), (2, iv x36), (3, iv v3_42)] []) (fun _ _ _ h9 => nomatch h9) (fun w42 ih42 v3_42 m42 hv3_42 H => ?_) n _ _ (inR_lit _ rfl) H)
        refine aw_iload_n (pc := 42) dX4_heapOf_42 rfl ?_
        refine aw_iload_n (pc := 43) dX4_heapOf_43 rfl ?_
        refine cx_icmp_ge (pc := 44) 87 hv3_42 hp1 dX4_heapOf_44 rfl H (fun H => ?_) (fun H => ?_)
        · -- 44: 47
          refine aw_aload_n (pc := 47) dX4_heapOf_47 rfl ?_
          refine cx_gtC (pc := 48) 20 hE r18 fl_X4_15 rfl rfl (Nat.le_of_ble_eq_true rfl) dX4_heapOf_48 ?_
          refine aw_iload_n (pc := 51) dX4_heapOf_51 rfl ?_
          refine cx_ldI (pc := 52) hE r20 hp1 dX4_heapOf_52 H (fun x52 hx52 H => ?_)
          refine aw_iload_n (pc := 53) dX4_heapOf_53 rfl ?_
          refine cx_ishr (pc := 54) dX4_heapOf_54 ?_
          refine cx_iconst (pc := 55) dX4_heapOf_55 ?_
          refine cx_iand (pc := 56) dX4_heapOf_56 ?_
          refine jn_ind (fun (f9 : Mem → Option Rz) => ∀ (m81 : Mem), f9 m81 = some r → AW l D base sc RX4 yX4_heapOf cX4_heapOf 4 (some FieldType.int) 1 0 0 ad (E mi) (pI E r) 0 0 (E m81) 81 [(0, .ref 18), (1, iv p1), (2, iv x36), (3, iv v3_42)] []) (fun m81 H => ?_) (fun j81 hj81 H => ?_) H
          · -- 81
            refine cx_iinc (pc := 81) [(3, iv (w32 (v3_42 + 1))), (0, .ref 18), (1, iv p1), (2, iv x36)] dX4_heapOf_81 rfl rfl (by decide) ?_
            refine aw_goto (pc := 84) 42 dX4_heapOf_84 rfl ?_
            exact AW.sel [1, 2, 3, 0] rfl (ih42 _ _ (inR_w32 _) H)
          refine cx_if_eq (pc := 57) 81 (inR_32 _) dX4_heapOf_57 rfl H (fun H => ?_) (fun H => ?_)
          · -- 57: 81
            exact AW.sel [0, 1, 2, 3] rfl (hj81 _ H)
          · -- 57: 60
            refine aw_aload_n (pc := 60) dX4_heapOf_60 rfl ?_
            refine cx_gtC (pc := 61) 23 hE r18 fl_X4_24 rfl rfl (Nat.le_of_ble_eq_true rfl) dX4_heapOf_61 ?_
            refine aw_iload_n (pc := 64) dX4_heapOf_64 rfl ?_
            refine cx_ldI (pc := 65) hE r23 hv3_42 dX4_heapOf_65 H (fun x65 hx65 H => ?_)
            refine jn_ind (fun (f9 : Mem → Option Rz) => ∀ (m79 : Mem), f9 m79 = some r → AW l D base sc RX4 yX4_heapOf cX4_heapOf 4 (some FieldType.int) 1 0 0 ad (E mi) (pI E r) 0 0 (E m79) 79 [] []) (fun m79 H => ?_) (fun j79 hj79 H => ?_) H
            · -- 79
              refine cx_iconst (pc := 79) dX4_heapOf_79 ?_
              exact cx_iret (pc := 80) (inR_lit _ rfl) rfl (Nat.le_of_ble_eq_true rfl) (Nat.le_of_ble_eq_true rfl) dX4_heapOf_80 H
            refine cx_if_lt (pc := 66) 79 hx65 dX4_heapOf_66 rfl H (fun H => ?_) (fun H => ?_)
            · -- 66: 79
              exact AW.sel [] rfl (hj79 _ H)
            · -- 66: 69
              refine aw_aload_n (pc := 69) dX4_heapOf_69 rfl ?_
              refine cx_gtC (pc := 70) 23 hE r18 fl_X4_24 rfl rfl (Nat.le_of_ble_eq_true rfl) dX4_heapOf_70 ?_
              refine aw_iload_n (pc := 73) dX4_heapOf_73 rfl ?_
              refine cx_ldI (pc := 74) hE r23 hv3_42 dX4_heapOf_74 H (fun x74 hx74 H => ?_)
              refine aw_iload_n (pc := 75) dX4_heapOf_75 rfl ?_
              refine cx_icmp_lt (pc := 76) 81 hx74 hx36 dX4_heapOf_76 rfl H (fun H => ?_) (fun H => ?_)
              · -- 76: 81
                exact AW.sel [0, 1, 2, 3] rfl (hj81 _ H)
              · -- 76: 79
                exact AW.sel [] rfl (hj79 _ H)
        · -- 44: 87
          refine aw_iload_n (pc := 87) dX4_heapOf_87 rfl ?_
          exact cx_iret (pc := 88) hx36 rfl (Nat.le_of_ble_eq_true rfl) (Nat.le_of_ble_eq_true rfl) dX4_heapOf_88 H
      · -- 25: 28
        exact AW.sel [] rfl (hj28 _ H)
    · -- 10: 28
      exact AW.sel [] rfl (hj28 _ H)
/-- X4 maskOf (II)I -/
def f_X4_maskOf (n : Nat) (p1 : Int) (p2 : Int) (mi : Mem) : Option Rz :=
  lp (F := Int → Int → Mem → Option Rz) (fun _ _ _ => none) (fun w5 v3_5 v4_5 m5 =>
    jn (fun (m57 : Mem) =>
      rt v3_5 m57
    ) fun (j57 : Mem → Option Rz) =>
    if v4_5 < p1 then (
      if p1 < 10 then (
        ldI m5 19 p1 fun x29 =>
        ldI m5 19 v4_5 fun x37 =>
        cal (f_X9_isOption n x29 p2 x37 m5) fun x38 m38 =>
        jn (fun (v3_51 : Int) (m51 : Mem) =>
          w5 v3_51 (w32 (v4_5 + 1)) m51
        ) fun (j51 : Int → Mem → Option Rz) =>
        if x38 = 0 then (
          j51 v3_5 m38
        ) else
        nm (ior v3_5 (ishl 1 v4_5)) fun z50 =>
        j51 z50 m38
      ) else
      j57 m5
    ) else
    j57 m5
  ) n 0 0 mi
set_option maxRecDepth 100000 in
set_option maxHeartbeats 4000000 in
theorem s_X4_maskOf (l : Launch) (sc : g_S) (E : Mem → g_H) (R : Nat → Prop) (hE : LE E R) (hR : RYS R) (n : Nat)  (p1 : Int) (p2 : Int) (hp1 : inR p1) (hp2 : inR p2) (mi : Mem) (r : Rz) (H : f_X4_maskOf n p1 p2 mi = some r) : AMet l sc yX4_maskOf cX4_maskOf 5 (some FieldType.int) 2 0 0 [.ref 18, iv p1, iv p2] (E mi) (pI E r) := by
  have r4 : R 4 := hR.1 4 (Nat.le_of_ble_eq_true rfl) (Nat.le_of_ble_eq_true rfl)
  have r18 : R 18 := hR.1 18 (Nat.le_of_ble_eq_true rfl) (Nat.le_of_ble_eq_true rfl)
  have r19 : R 19 := hR.1 19 (Nat.le_of_ble_eq_true rfl) (Nat.le_of_ble_eq_true rfl)
  unfold f_X4_maskOf at H
  refine AMet.of (own := RX4) (by decide +kernel) rfl (Nat.le_of_ble_eq_true rfl) [(0, .ref 18), (1, iv p1), (2, iv p2)] rfl (fun D base ad => ?_)
  refine cx_iconst (pc := 0) dX4_maskOf_0 ?_
  refine aw_istore_n (pc := 1) [(3, iv 0), (0, .ref 18), (1, iv p1), (2, iv p2)] dX4_maskOf_1 rfl (by decide) ?_
  refine cx_iconst (pc := 2) dX4_maskOf_2 ?_
  refine aw_istore (pc := 3) [(4, iv 0), (3, iv 0), (0, .ref 18), (1, iv p1), (2, iv p2)] dX4_maskOf_3 rfl (by decide) ?_
  refine AW.sel [2, 3, 4, 1, 0] rfl (lp_ind (bot := fun _ _ _ => none) (fun (f9 : Int → Int → Mem → Option Rz) => ∀ (v3_5 : Int) (v4_5 : Int) (m5 : Mem), inR v3_5 → inR v4_5 → f9 v3_5 v4_5 m5 = some r → AW l D base sc RX4 yX4_maskOf cX4_maskOf 5 (some FieldType.int) 2 0 0 ad (E mi) (pI E r) 0 0 (E m5) 5 [(0, .ref 18), (1, iv p1), (2, iv p2), (3, iv v3_5), (4, iv v4_5)] []) (fun _ _ _ _ _ h9 => nomatch h9) (fun w5 ih5 v3_5 v4_5 m5 hv3_5 hv4_5 H => ?_) n _ _ _ (inR_lit _ rfl) (inR_lit _ rfl) H)
  refine aw_iload (pc := 5) dX4_maskOf_5 rfl ?_
  refine aw_iload_n (pc := 7) dX4_maskOf_7 rfl ?_
  refine jn_ind (fun (f9 : Mem → Option Rz) => ∀ (m57 : Mem), f9 m57 = some r → AW l D base sc RX4 yX4_maskOf cX4_maskOf 5 (some FieldType.int) 2 0 0 ad (E mi) (pI E r) 0 0 (E m57) 57 [(3, iv v3_5)] []) (fun m57 H => ?_) (fun j57 hj57 H => ?_) H
  · -- 57
    refine aw_iload_n (pc := 57) dX4_maskOf_57 rfl ?_
    exact cx_iret (pc := 58) hv3_5 rfl (Nat.le_of_ble_eq_true rfl) (Nat.le_of_ble_eq_true rfl) dX4_maskOf_58 H
  refine cx_icmp_ge (pc := 8) 57 hv4_5 hp1 dX4_maskOf_8 rfl H (fun H => ?_) (fun H => ?_)
  · -- 8: 11
    refine aw_iload_n (pc := 11) dX4_maskOf_11 rfl ?_
    refine aw_aload_n (pc := 12) dX4_maskOf_12 rfl ?_
    refine cx_gtC (pc := 13) 19 hE r18 fl_X4_9 rfl rfl (Nat.le_of_ble_eq_true rfl) dX4_maskOf_13 ?_
    refine cx_lenC (pc := 16) (c := 10) hE r19 (fun _ => ⟨_, _, rfl, rfl⟩) dX4_maskOf_16 ?_
    refine cx_icmp_ge (pc := 17) 57 hp1 (inR_lit _ rfl) dX4_maskOf_17 rfl H (fun H => ?_) (fun H => ?_)
    · -- 17: 20
      refine aw_aload_n (pc := 20) dX4_maskOf_20 rfl ?_
      refine cx_gtC (pc := 21) 4 hE r18 fl_X4_40 rfl rfl (Nat.le_of_ble_eq_true rfl) dX4_maskOf_21 ?_
      refine aw_aload_n (pc := 24) dX4_maskOf_24 rfl ?_
      refine cx_gtC (pc := 25) 19 hE r18 fl_X4_9 rfl rfl (Nat.le_of_ble_eq_true rfl) dX4_maskOf_25 ?_
      refine aw_iload_n (pc := 28) dX4_maskOf_28 rfl ?_
      refine cx_ldI (pc := 29) hE r19 hp1 dX4_maskOf_29 H (fun x29 hx29 H => ?_)
      refine aw_iload_n (pc := 30) dX4_maskOf_30 rfl ?_
      refine aw_aload_n (pc := 31) dX4_maskOf_31 rfl ?_
      refine cx_gtC (pc := 32) 19 hE r18 fl_X4_9 rfl rfl (Nat.le_of_ble_eq_true rfl) dX4_maskOf_32 ?_
      refine aw_iload (pc := 35) dX4_maskOf_35 rfl ?_
      refine cx_ldI (pc := 37) hE r19 hv4_5 dX4_maskOf_37 H (fun x37 hx37 H => ?_)
      refine cx_callV (pc := 38) (P := pI) (dC := 1) (mcC := 0) (msC := 0) [iv x29, iv p2, iv x37] hE r4 (fun r1 H1 => s_X9_isOption l sc E R hE hR n x29 p2 x37 hx29 hp2 hx37 m5 r1 H1) ca_X4_76 rfl ⟨_, rfl, rfl⟩ rfl rfl (Nat.le_of_ble_eq_true rfl) (Nat.le_of_ble_eq_true rfl) (Nat.le_of_ble_eq_true rfl) (Nat.le_of_ble_eq_true rfl) dX4_maskOf_38 H (fun x38 m38 v38 hh38 H hp => ?_)
      refine cx_backI hp (fun hx38 => ?_)
      refine jn_ind (fun (f9 : Int → Mem → Option Rz) => ∀ (v3_51 : Int) (m51 : Mem), inR v3_51 → f9 v3_51 m51 = some r → AW l D base sc RX4 yX4_maskOf cX4_maskOf 5 (some FieldType.int) 2 0 0 ad (E mi) (pI E r) 0 0 (E m51) 51 [(0, .ref 18), (1, iv p1), (2, iv p2), (3, iv v3_51), (4, iv v4_5)] []) (fun v3_51 m51 hv3_51 H => ?_) (fun j51 hj51 H => ?_) H
      · -- 51
        refine cx_iinc (pc := 51) [(4, iv (w32 (v4_5 + 1))), (0, .ref 18), (1, iv p1), (2, iv p2), (3, iv v3_51)] dX4_maskOf_51 rfl rfl (by decide) ?_
        refine aw_goto (pc := 54) 5 dX4_maskOf_54 rfl ?_
        exact AW.sel [1, 2, 3, 4, 0] rfl (ih5 _ _ _ hv3_51 (inR_w32 _) H)
      refine cx_if_eq (pc := 41) 51 hx38 dX4_maskOf_41 rfl H (fun H => ?_) (fun H => ?_)
      · -- 41: 51
        exact AW.sel [0, 1, 2, 3, 4] rfl (hj51 _ _ hv3_5 H)
      · -- 41: 44
        refine aw_iload_n (pc := 44) dX4_maskOf_44 rfl ?_
        refine cx_iconst (pc := 45) dX4_maskOf_45 ?_
        refine aw_iload (pc := 46) dX4_maskOf_46 rfl ?_
        refine cx_ishl (pc := 48) dX4_maskOf_48 ?_
        refine cx_ior (pc := 49) dX4_maskOf_49 ?_
        refine cx_nm (inR_32 _) H (fun z50 hz50 H => ?_)
        refine aw_istore_n (pc := 50) [(3, iv z50), (0, .ref 18), (1, iv p1), (2, iv p2), (4, iv v4_5)] dX4_maskOf_50 rfl (by decide) ?_
        exact AW.sel [1, 2, 3, 0, 4] rfl (hj51 _ _ hz50 H)
    · -- 17: 57
      exact AW.sel [3] rfl (hj57 _ H)
  · -- 8: 57
    exact AW.sel [3] rfl (hj57 _ H)
/-- X4 rankedMask (II)I -/
def f_X4_rankedMask (n : Nat) (p1 : Int) (p2 : Int) (mi : Mem) : Option Rz :=
  lp (F := Int → Int → Mem → Option Rz) (fun _ _ _ => none) (fun w5 v3_5 v4_5 m5 =>
    jn (fun (m48 : Mem) =>
      rt v3_5 m48
    ) fun (j48 : Mem → Option Rz) =>
    if v4_5 < p2 then (
      if v4_5 < 10 then (
        jn (fun (v3_42 : Int) (m42 : Mem) =>
          w5 v3_42 (w32 (v4_5 + 1)) m42
        ) fun (j42 : Int → Mem → Option Rz) =>
        if iand (ishr p1 v4_5) 1 = 0 then (
          j42 v3_5 m5
        ) else
        ldI m5 25 v4_5 fun x38 =>
        nm (ior v3_5 (ishl 1 x38)) fun z41 =>
        j42 z41 m5
      ) else
      j48 m5
    ) else
    j48 m5
  ) n 0 0 mi
set_option maxRecDepth 100000 in
set_option maxHeartbeats 4000000 in
theorem s_X4_rankedMask (l : Launch) (sc : g_S) (E : Mem → g_H) (R : Nat → Prop) (hE : LE E R) (hR : RYS R) (n : Nat)  (p1 : Int) (p2 : Int) (hp1 : inR p1) (hp2 : inR p2) (mi : Mem) (r : Rz) (H : f_X4_rankedMask n p1 p2 mi = some r) : AMet l sc yX4_rankedMask cX4_rankedMask 5 (some FieldType.int) 0 0 0 [.ref 18, iv p1, iv p2] (E mi) (pI E r) := by
  have r18 : R 18 := hR.1 18 (Nat.le_of_ble_eq_true rfl) (Nat.le_of_ble_eq_true rfl)
  have r25 : R 25 := hR.1 25 (Nat.le_of_ble_eq_true rfl) (Nat.le_of_ble_eq_true rfl)
  unfold f_X4_rankedMask at H
  refine AMet.of (own := RX4) (by decide +kernel) rfl (Nat.le_of_ble_eq_true rfl) [(0, .ref 18), (1, iv p1), (2, iv p2)] rfl (fun D base ad => ?_)
  refine cx_iconst (pc := 0) dX4_rankedMask_0 ?_
  refine aw_istore_n (pc := 1) [(3, iv 0), (0, .ref 18), (1, iv p1), (2, iv p2)] dX4_rankedMask_1 rfl (by decide) ?_
  refine cx_iconst (pc := 2) dX4_rankedMask_2 ?_
  refine aw_istore (pc := 3) [(4, iv 0), (3, iv 0), (0, .ref 18), (1, iv p1), (2, iv p2)] dX4_rankedMask_3 rfl (by decide) ?_
  refine AW.sel [2, 3, 4, 1, 0] rfl (lp_ind (bot := fun _ _ _ => none) (fun (f9 : Int → Int → Mem → Option Rz) => ∀ (v3_5 : Int) (v4_5 : Int) (m5 : Mem), inR v3_5 → inR v4_5 → f9 v3_5 v4_5 m5 = some r → AW l D base sc RX4 yX4_rankedMask cX4_rankedMask 5 (some FieldType.int) 0 0 0 ad (E mi) (pI E r) 0 0 (E m5) 5 [(0, .ref 18), (1, iv p1), (2, iv p2), (3, iv v3_5), (4, iv v4_5)] []) (fun _ _ _ _ _ h9 => nomatch h9) (fun w5 ih5 v3_5 v4_5 m5 hv3_5 hv4_5 H => ?_) n _ _ _ (inR_lit _ rfl) (inR_lit _ rfl) H)
  refine aw_iload (pc := 5) dX4_rankedMask_5 rfl ?_
  refine aw_iload_n (pc := 7) dX4_rankedMask_7 rfl ?_
  refine jn_ind (fun (f9 : Mem → Option Rz) => ∀ (m48 : Mem), f9 m48 = some r → AW l D base sc RX4 yX4_rankedMask cX4_rankedMask 5 (some FieldType.int) 0 0 0 ad (E mi) (pI E r) 0 0 (E m48) 48 [(3, iv v3_5)] []) (fun m48 H => ?_) (fun j48 hj48 H => ?_) H
  · -- 48
    refine aw_iload_n (pc := 48) dX4_rankedMask_48 rfl ?_
    exact cx_iret (pc := 49) hv3_5 rfl (Nat.le_of_ble_eq_true rfl) (Nat.le_of_ble_eq_true rfl) dX4_rankedMask_49 H
  refine cx_icmp_ge (pc := 8) 48 hv4_5 hp2 dX4_rankedMask_8 rfl H (fun H => ?_) (fun H => ?_)
  · -- 8: 11
    refine aw_iload (pc := 11) dX4_rankedMask_11 rfl ?_
    refine aw_aload_n (pc := 13) dX4_rankedMask_13 rfl ?_
    refine cx_gtC (pc := 14) 25 hE r18 fl_X4_30 rfl rfl (Nat.le_of_ble_eq_true rfl) dX4_rankedMask_14 ?_
    refine cx_lenC (pc := 17) (c := 10) hE r25 (fun _ => ⟨_, _, rfl, rfl⟩) dX4_rankedMask_17 ?_
    refine cx_icmp_ge (pc := 18) 48 hv4_5 (inR_lit _ rfl) dX4_rankedMask_18 rfl H (fun H => ?_) (fun H => ?_)
    · -- 18: 21
      refine aw_iload_n (pc := 21) dX4_rankedMask_21 rfl ?_
      refine aw_iload (pc := 22) dX4_rankedMask_22 rfl ?_
      refine cx_ishr (pc := 24) dX4_rankedMask_24 ?_
      refine cx_iconst (pc := 25) dX4_rankedMask_25 ?_
      refine cx_iand (pc := 26) dX4_rankedMask_26 ?_
      refine jn_ind (fun (f9 : Int → Mem → Option Rz) => ∀ (v3_42 : Int) (m42 : Mem), inR v3_42 → f9 v3_42 m42 = some r → AW l D base sc RX4 yX4_rankedMask cX4_rankedMask 5 (some FieldType.int) 0 0 0 ad (E mi) (pI E r) 0 0 (E m42) 42 [(0, .ref 18), (1, iv p1), (2, iv p2), (3, iv v3_42), (4, iv v4_5)] []) (fun v3_42 m42 hv3_42 H => ?_) (fun j42 hj42 H => ?_) H
      · -- 42
        refine cx_iinc (pc := 42) [(4, iv (w32 (v4_5 + 1))), (0, .ref 18), (1, iv p1), (2, iv p2), (3, iv v3_42)] dX4_rankedMask_42 rfl rfl (by decide) ?_
        refine aw_goto (pc := 45) 5 dX4_rankedMask_45 rfl ?_
        exact AW.sel [1, 2, 3, 4, 0] rfl (ih5 _ _ _ hv3_42 (inR_w32 _) H)
      refine cx_if_eq (pc := 27) 42 (inR_32 _) dX4_rankedMask_27 rfl H (fun H => ?_) (fun H => ?_)
      · -- 27: 42
        exact AW.sel [0, 1, 2, 3, 4] rfl (hj42 _ _ hv3_5 H)
      · -- 27: 30
        refine aw_iload_n (pc := 30) dX4_rankedMask_30 rfl ?_
        refine cx_iconst (pc := 31) dX4_rankedMask_31 ?_
        refine aw_aload_n (pc := 32) dX4_rankedMask_32 rfl ?_
        refine cx_gtC (pc := 33) 25 hE r18 fl_X4_30 rfl rfl (Nat.le_of_ble_eq_true rfl) dX4_rankedMask_33 ?_
        refine aw_iload (pc := 36) dX4_rankedMask_36 rfl ?_
        refine cx_ldI (pc := 38) hE r25 hv4_5 dX4_rankedMask_38 H (fun x38 hx38 H => ?_)
        refine cx_ishl (pc := 39) dX4_rankedMask_39 ?_
        refine cx_ior (pc := 40) dX4_rankedMask_40 ?_
        refine cx_nm (inR_32 _) H (fun z41 hz41 H => ?_)
        refine aw_istore_n (pc := 41) [(3, iv z41), (0, .ref 18), (1, iv p1), (2, iv p2), (4, iv v4_5)] dX4_rankedMask_41 rfl (by decide) ?_
        exact AW.sel [1, 2, 3, 0, 4] rfl (hj42 _ _ hz41 H)
    · -- 18: 48
      exact AW.sel [3] rfl (hj48 _ H)
  · -- 8: 48
    exact AW.sel [3] rfl (hj48 _ H)
/-- X4 settled (I)LUppityGames$Game; -/
def f_X4_settled (n : Nat) (p1 : Int) (mi : Mem) : Option Rz :=
  jn (fun (m42 : Mem) =>
    lp (F := Int → Mem → Option Rz) (fun _ _ => none) (fun w44 v2_44 m44 =>
      jn (fun (m99 : Mem) =>
        nm (imax p1 0) fun z104 =>
        nwI m99 z104 10 fun q106 m106 =>
        nwI m106 z104 10 fun q110 m110 =>
        lp (F := Int → Mem → Option Rz) (fun _ _ => none) (fun w117 v5_117 m117 =>
          jn (fun (m192 : Mem) =>
            nm (w32 (z104 - 1)) fun z195 =>
            jn (fun (m212 : Mem) =>
              rt (0 : Nat) m212
            ) fun (j212 : Mem → Option Rz) =>
            if z195 < 0 then (
              j212 m192
            ) else
            if z195 < 10 then (
              nm (w32 (z195 * 100)) fun z219 =>
              ldI m192 26 z195 fun x235 =>
              cal (f_J7_copyOfRange_39247 n 27 z219 (w32 (z219 + (imin (imax x235 0) 100))) m192) fun x246 m246 =>
              nwG m246 fun q251 m251 =>
              ldI m251 22 z195 fun x266 =>
              ldI m251 23 z195 fun x273 =>
              cal (f_X1_init n q251 q106 q110 x246.toNat x266 x273 m251) fun _ m274 =>
              rt (q251 : Nat) m274
            ) else
            j212 m192
          ) fun (j192 : Mem → Option Rz) =>
          if v5_117 < z104 then (
            if v5_117 < 10 then (
              ldI m117 25 v5_117 fun x139 =>
              jn (fun (m186 : Mem) =>
                w117 (w32 (v5_117 + 1)) m186
              ) fun (j186 : Mem → Option Rz) =>
              if x139 < 0 then (
                j186 m117
              ) else
              if x139 < z104 then (
                ldI m117 20 v5_117 fun x163 =>
                cal (f_X4_rankedMask n x163 p1 m117) fun x165 m165 =>
                stI m165 q106 x139 x165 fun m168 =>
                ldI m168 21 v5_117 fun x180 =>
                cal (f_X4_rankedMask n x180 p1 m168) fun x182 m182 =>
                stI m182 q110 x139 x182 fun m185 =>
                j186 m185
              ) else
              j186 m117
            ) else
            j192 m117
          ) else
          j192 m117
        ) n 0 m110
      ) fun (j99 : Mem → Option Rz) =>
      if v2_44 < p1 then (
        if v2_44 < 10 then (
          ldI m44 24 v2_44 fun x63 =>
          jn (fun (m93 : Mem) =>
            w44 (w32 (v2_44 + 1)) m93
          ) fun (j93 : Mem → Option Rz) =>
          if x63 < 0 then (
            j93 m44
          ) else
          ldI m44 24 v2_44 fun x72 =>
          if x72 < 10 then (
            ldI m44 24 v2_44 fun x90 =>
            stI m44 25 x90 v2_44 fun m92 =>
            j93 m92
          ) else
          j93 m44
        ) else
        j99 m44
      ) else
      j99 m44
    ) n 0 m42
  ) fun (j42 : Mem → Option Rz) =>
  if 1 < p1 then (
    if 10 < p1 then (
      j42 mi
    ) else
    ldI mi 24 0 fun x19 =>
    if x19 = 0 then (
      j42 mi
    ) else
    ldI mi 24 0 fun x33 =>
    stI mi 24 1 x33 fun m34 =>
    stI m34 24 0 0 fun m41 =>
    j42 m41
  ) else
  j42 mi
set_option maxRecDepth 100000 in
set_option maxHeartbeats 4000000 in
theorem s_X4_settled (l : Launch) (sc : g_S) (E : Mem → g_H) (R : Nat → Prop) (hE : LE E R) (hR : RYS R) (hsc : sc.1 = 0) (n : Nat)  (p1 : Int) (hp1 : inR p1) (mi : Mem) (r : Rz) (H : f_X4_settled n p1 mi = some r) : AMet l sc yX4_settled cX4_settled 8 (some (FieldType.object "UppityGames$Game")) 3 4 125 [.ref 18, iv p1] (E mi) (pG E r) := by
  have r18 : R 18 := hR.1 18 (Nat.le_of_ble_eq_true rfl) (Nat.le_of_ble_eq_true rfl)
  have r20 : R 20 := hR.1 20 (Nat.le_of_ble_eq_true rfl) (Nat.le_of_ble_eq_true rfl)
  have r21 : R 21 := hR.1 21 (Nat.le_of_ble_eq_true rfl) (Nat.le_of_ble_eq_true rfl)
  have r22 : R 22 := hR.1 22 (Nat.le_of_ble_eq_true rfl) (Nat.le_of_ble_eq_true rfl)
  have r23 : R 23 := hR.1 23 (Nat.le_of_ble_eq_true rfl) (Nat.le_of_ble_eq_true rfl)
  have r24 : R 24 := hR.1 24 (Nat.le_of_ble_eq_true rfl) (Nat.le_of_ble_eq_true rfl)
  have r25 : R 25 := hR.1 25 (Nat.le_of_ble_eq_true rfl) (Nat.le_of_ble_eq_true rfl)
  have r26 : R 26 := hR.1 26 (Nat.le_of_ble_eq_true rfl) (Nat.le_of_ble_eq_true rfl)
  have r27 : R 27 := hR.1 27 (Nat.le_of_ble_eq_true rfl) (Nat.le_of_ble_eq_true rfl)
  unfold f_X4_settled at H
  refine AMet.of (own := RX4) (by decide +kernel) rfl (Nat.le_of_ble_eq_true rfl) [(0, .ref 18), (1, iv p1)] rfl (fun D base ad => ?_)
  refine aw_iload_n (pc := 0) dX4_settled_0 rfl ?_
  refine cx_iconst (pc := 1) dX4_settled_1 ?_
  refine jn_ind (fun (f9 : Mem → Option Rz) => ∀ (m42 : Mem), f9 m42 = some r → AW l D base sc RX4 yX4_settled cX4_settled 8 (some (FieldType.object "UppityGames$Game")) 3 4 125 ad (E mi) (pG E r) 0 0 (E m42) 42 [(0, .ref 18), (1, iv p1)] []) (fun m42 H => ?_) (fun j42 hj42 H => ?_) H
  · -- 42
    refine cx_iconst (pc := 42) dX4_settled_42 ?_
    refine aw_istore_n (pc := 43) [(2, iv 0), (0, .ref 18), (1, iv p1)] dX4_settled_43 rfl (by decide) ?_
    refine AW.sel [1, 2, 0] rfl (lp_ind (bot := fun _ _ => none) (fun (f9 : Int → Mem → Option Rz) => ∀ (v2_44 : Int) (m44 : Mem), inR v2_44 → f9 v2_44 m44 = some r → AW l D base sc RX4 yX4_settled cX4_settled 8 (some (FieldType.object "UppityGames$Game")) 3 4 125 ad (E mi) (pG E r) 0 0 (E m44) 44 [(0, .ref 18), (1, iv p1), (2, iv v2_44)] []) (fun _ _ _ h9 => nomatch h9) (fun w44 ih44 v2_44 m44 hv2_44 H => ?_) n _ _ (inR_lit _ rfl) H)
    refine aw_iload_n (pc := 44) dX4_settled_44 rfl ?_
    refine aw_iload_n (pc := 45) dX4_settled_45 rfl ?_
    refine jn_ind (fun (f9 : Mem → Option Rz) => ∀ (m99 : Mem), f9 m99 = some r → AW l D base sc RX4 yX4_settled cX4_settled 8 (some (FieldType.object "UppityGames$Game")) 3 4 125 ad (E mi) (pG E r) 0 0 (E m99) 99 [(0, .ref 18), (1, iv p1)] []) (fun m99 H => ?_) (fun j99 hj99 H => ?_) H
    · -- 99
      refine aw_iload_n (pc := 99) dX4_settled_99 rfl ?_
      refine cx_iconst (pc := 100) dX4_settled_100 ?_
      refine cx_mmax (pc := 101) hp1 (inR_lit _ rfl) mimax_y mimax_c (g_mem 304 (by decide +kernel) rfl) ca_X4_80 (Nat.le_of_ble_eq_true rfl) (Nat.le_of_ble_eq_true rfl) (Nat.le_of_ble_eq_true rfl) (Nat.le_of_ble_eq_true rfl) dX4_settled_101 ?_
      refine cx_nm (inR_max hp1 (inR_lit _ rfl)) H (fun z104 hz104 H => ?_)
      refine aw_istore_n (pc := 104) [(2, iv z104), (0, .ref 18), (1, iv p1)] dX4_settled_104 rfl (by decide) ?_
      refine aw_iload_n (pc := 105) dX4_settled_105 rfl ?_
      refine cx_nwI (pc := 106) (cap := 10) hE hR.d hsc hz104 ac_int (Nat.le_of_ble_eq_true rfl) (Nat.le_of_ble_eq_true rfl) (Nat.le_of_ble_eq_true rfl) dX4_settled_106 H (fun q106 m106 hq106 H => ?_)
      refine aw_astore_n (pc := 108) [(3, .ref q106), (2, iv z104), (0, .ref 18), (1, iv p1)] dX4_settled_108 rfl (by decide) ?_
      refine aw_iload_n (pc := 109) dX4_settled_109 rfl ?_
      refine cx_nwI (pc := 110) (cap := 10) hE hR.d hsc hz104 ac_int (Nat.le_of_ble_eq_true rfl) (Nat.le_of_ble_eq_true rfl) (Nat.le_of_ble_eq_true rfl) dX4_settled_110 H (fun q110 m110 hq110 H => ?_)
      refine aw_astore (pc := 112) [(4, .ref q110), (3, .ref q106), (2, iv z104), (0, .ref 18), (1, iv p1)] dX4_settled_112 rfl (by decide) ?_
      refine cx_iconst (pc := 114) dX4_settled_114 ?_
      refine aw_istore (pc := 115) [(5, iv 0), (4, .ref q110), (3, .ref q106), (2, iv z104), (0, .ref 18), (1, iv p1)] dX4_settled_115 rfl (by decide) ?_
      refine AW.sel [4, 5, 3, 2, 1, 0] rfl (lp_ind (bot := fun _ _ => none) (fun (f9 : Int → Mem → Option Rz) => ∀ (v5_117 : Int) (m117 : Mem), inR v5_117 → f9 v5_117 m117 = some r → AW l D base sc RX4 yX4_settled cX4_settled 8 (some (FieldType.object "UppityGames$Game")) 3 4 125 ad (E mi) (pG E r) 2 20 (E m117) 117 [(0, .ref 18), (1, iv p1), (2, iv z104), (3, .ref q106), (4, .ref q110), (5, iv v5_117)] []) (fun _ _ _ h9 => nomatch h9) (fun w117 ih117 v5_117 m117 hv5_117 H => ?_) n _ _ (inR_lit _ rfl) H)
      refine aw_iload (pc := 117) dX4_settled_117 rfl ?_
      refine aw_iload_n (pc := 119) dX4_settled_119 rfl ?_
      refine jn_ind (fun (f9 : Mem → Option Rz) => ∀ (m192 : Mem), f9 m192 = some r → AW l D base sc RX4 yX4_settled cX4_settled 8 (some (FieldType.object "UppityGames$Game")) 3 4 125 ad (E mi) (pG E r) 2 20 (E m192) 192 [(0, .ref 18), (2, iv z104), (3, .ref q106), (4, .ref q110)] []) (fun m192 H => ?_) (fun j192 hj192 H => ?_) H
      · -- 192
        refine aw_iload_n (pc := 192) dX4_settled_192 rfl ?_
        refine cx_iconst (pc := 193) dX4_settled_193 ?_
        refine cx_isub (pc := 194) dX4_settled_194 ?_
        refine cx_nm (inR_w32 _) H (fun z195 hz195 H => ?_)
        refine aw_istore (pc := 195) [(5, iv z195), (0, .ref 18), (2, iv z104), (3, .ref q106), (4, .ref q110)] dX4_settled_195 rfl (by decide) ?_
        refine aw_iload (pc := 197) dX4_settled_197 rfl ?_
        refine jn_ind (fun (f9 : Mem → Option Rz) => ∀ (m212 : Mem), f9 m212 = some r → AW l D base sc RX4 yX4_settled cX4_settled 8 (some (FieldType.object "UppityGames$Game")) 3 4 125 ad (E mi) (pG E r) 2 20 (E m212) 212 [] []) (fun m212 H => ?_) (fun j212 hj212 H => ?_) H
        · -- 212
          refine cx_null (pc := 212) dX4_settled_212 ?_
          exact cx_aret (pc := 213) ⟨_, rfl, Or.inl ⟨_, rfl⟩⟩ (Nat.le_of_ble_eq_true rfl) (Nat.le_of_ble_eq_true rfl) dX4_settled_213 H
        refine cx_if_lt (pc := 199) 212 hz195 dX4_settled_199 rfl H (fun H => ?_) (fun H => ?_)
        · -- 199: 212
          exact AW.sel [] rfl (hj212 _ H)
        · -- 199: 202
          refine aw_iload (pc := 202) dX4_settled_202 rfl ?_
          refine aw_aload_n (pc := 204) dX4_settled_204 rfl ?_
          refine cx_gtC (pc := 205) 26 hE r18 fl_X4_33 rfl rfl (Nat.le_of_ble_eq_true rfl) dX4_settled_205 ?_
          refine cx_lenC (pc := 208) (c := 10) hE r26 (fun _ => ⟨_, _, rfl, rfl⟩) dX4_settled_208 ?_
          refine cx_icmp_lt (pc := 209) 214 hz195 (inR_lit _ rfl) dX4_settled_209 rfl H (fun H => ?_) (fun H => ?_)
          · -- 209: 214
            refine aw_iload (pc := 214) dX4_settled_214 rfl ?_
            refine cx_bipush (pc := 216) dX4_settled_216 (by decide) ?_
            refine cx_imul (pc := 218) dX4_settled_218 ?_
            refine cx_nm (inR_w32 _) H (fun z219 hz219 H => ?_)
            refine aw_istore (pc := 219) [(6, iv z219), (5, iv z195), (0, .ref 18), (2, iv z104), (3, .ref q106), (4, .ref q110)] dX4_settled_219 rfl (by decide) ?_
            refine aw_aload_n (pc := 221) dX4_settled_221 rfl ?_
            refine cx_gtC (pc := 222) 27 hE r18 fl_X4_36 rfl rfl (Nat.le_of_ble_eq_true rfl) dX4_settled_222 ?_
            refine aw_iload (pc := 225) dX4_settled_225 rfl ?_
            refine aw_iload (pc := 227) dX4_settled_227 rfl ?_
            refine aw_aload_n (pc := 229) dX4_settled_229 rfl ?_
            refine cx_gtC (pc := 230) 26 hE r18 fl_X4_33 rfl rfl (Nat.le_of_ble_eq_true rfl) dX4_settled_230 ?_
            refine aw_iload (pc := 233) dX4_settled_233 rfl ?_
            refine cx_ldI (pc := 235) hE r26 hz195 dX4_settled_235 H (fun x235 hx235 H => ?_)
            refine cx_iconst (pc := 236) dX4_settled_236 ?_
            refine cx_mmax (pc := 237) hx235 (inR_lit _ rfl) mimax_y mimax_c (g_mem 304 (by decide +kernel) rfl) ca_X4_80 (Nat.le_of_ble_eq_true rfl) (Nat.le_of_ble_eq_true rfl) (Nat.le_of_ble_eq_true rfl) (Nat.le_of_ble_eq_true rfl) dX4_settled_237 ?_
            refine cx_bipush (pc := 240) dX4_settled_240 (by decide) ?_
            refine cx_mmin (pc := 242) (inR_max hx235 (inR_lit _ rfl)) (inR_lit _ rfl) mimin_y mimin_c (g_mem 345 (by decide +kernel) rfl) ca_X4_104 (Nat.le_of_ble_eq_true rfl) (Nat.le_of_ble_eq_true rfl) (Nat.le_of_ble_eq_true rfl) (Nat.le_of_ble_eq_true rfl) dX4_settled_242 ?_
            refine cx_iadd (pc := 245) dX4_settled_245 ?_
            refine cx_callS (pc := 246) (P := pG) (dC := 2) (mcC := 1) (msC := 100) [.ref 27, iv z219, iv (w32 (z219 + (imin (imax x235 0) 100)))] (fun r1 H1 => s_J7_copyOfRange_39247 l sc E R hE hR.d hsc n 27 z219 (w32 (z219 + (imin (imax x235 0) 100))) r27 hz219 (inR_w32 _) m192 r1 H1) ca_X4_107 rfl rfl (Nat.le_of_ble_eq_true rfl) (Nat.le_of_ble_eq_true rfl) (Nat.le_of_ble_eq_true rfl) (Nat.le_of_ble_eq_true rfl) dX4_settled_246 H (fun x246 m246 v246 hh246 H hp => ?_)
            refine cx_backG hp ?_
            refine cx_astore (pc := 249) [(7, rv x246.toNat), (6, iv z219), (5, iv z195), (0, .ref 18), (2, iv z104), (3, .ref q106), (4, .ref q110)] dX4_settled_249 rfl (by decide) ?_
            refine cx_nwG (pc := 251) hE hR.d hsc kl_X4_113 (Nat.le_of_ble_eq_true rfl) (Nat.le_of_ble_eq_true rfl) dX4_settled_251 H (fun q251 m251 hq251 H => ?_)
            refine aw_dup (pc := 254) dX4_settled_254 rfl ?_
            refine aw_aload_n (pc := 255) dX4_settled_255 rfl ?_
            refine aw_aload (pc := 256) dX4_settled_256 rfl ?_
            refine cx_aload (pc := 258) dX4_settled_258 rfl ?_
            refine aw_aload_n (pc := 260) dX4_settled_260 rfl ?_
            refine cx_gtC (pc := 261) 22 hE r18 fl_X4_21 rfl rfl (Nat.le_of_ble_eq_true rfl) dX4_settled_261 ?_
            refine aw_iload (pc := 264) dX4_settled_264 rfl ?_
            refine cx_ldI (pc := 266) hE r22 hz195 dX4_settled_266 H (fun x266 hx266 H => ?_)
            refine aw_aload_n (pc := 267) dX4_settled_267 rfl ?_
            refine cx_gtC (pc := 268) 23 hE r18 fl_X4_24 rfl rfl (Nat.le_of_ble_eq_true rfl) dX4_settled_268 ?_
            refine aw_iload (pc := 271) dX4_settled_271 rfl ?_
            refine cx_ldI (pc := 273) hE r23 hz195 dX4_settled_273 H (fun x273 hx273 H => ?_)
            refine AW.eqs (st' := [iv x273, iv x266, rv x246.toNat, rv q110, rv q106, .ref q251, .ref q251]) (by simp only [rv_s (show q106 ≠ 0 by omega), rv_s (show q110 ≠ 0 by omega)]) ?_
            refine cx_callI (pc := 274) (dC := 1) (mcC := 0) (msC := 0) [rv q106, rv q110, rv x246.toNat, iv x266, iv x273] (fun r1 H1 => s_X1_init l sc E R hE hR.d n q251 q106 q110 x246.toNat x266 x273 hq251 hx266 hx273 m251 r1 H1) ca_X4_115 rfl rfl (Nat.le_of_ble_eq_true rfl) (Nat.le_of_ble_eq_true rfl) (Nat.le_of_ble_eq_true rfl) (Nat.le_of_ble_eq_true rfl) dX4_settled_274 H (fun _ m274 H => ?_)
            refine AW.eqs (st' := [rv q251]) (by simp only [rv_s (show q251 ≠ 0 by omega)]) ?_
            exact cx_aret (pc := 277) ⟨_, rfl, Or.inl ⟨_, rfl⟩⟩ (Nat.le_of_ble_eq_true rfl) (Nat.le_of_ble_eq_true rfl) dX4_settled_277 H
          · -- 209: 212
            exact AW.sel [] rfl (hj212 _ H)
      refine cx_icmp_ge (pc := 120) 192 hv5_117 hz104 dX4_settled_120 rfl H (fun H => ?_) (fun H => ?_)
      · -- 120: 123
        refine aw_iload (pc := 123) dX4_settled_123 rfl ?_
        refine aw_aload_n (pc := 125) dX4_settled_125 rfl ?_
        refine cx_gtC (pc := 126) 25 hE r18 fl_X4_30 rfl rfl (Nat.le_of_ble_eq_true rfl) dX4_settled_126 ?_
        refine cx_lenC (pc := 129) (c := 10) hE r25 (fun _ => ⟨_, _, rfl, rfl⟩) dX4_settled_129 ?_
        refine cx_icmp_ge (pc := 130) 192 hv5_117 (inR_lit _ rfl) dX4_settled_130 rfl H (fun H => ?_) (fun H => ?_)
        · -- 130: 133
          refine aw_aload_n (pc := 133) dX4_settled_133 rfl ?_
          refine cx_gtC (pc := 134) 25 hE r18 fl_X4_30 rfl rfl (Nat.le_of_ble_eq_true rfl) dX4_settled_134 ?_
          refine aw_iload (pc := 137) dX4_settled_137 rfl ?_
          refine cx_ldI (pc := 139) hE r25 hv5_117 dX4_settled_139 H (fun x139 hx139 H => ?_)
          refine aw_istore (pc := 140) [(6, iv x139), (0, .ref 18), (1, iv p1), (2, iv z104), (3, .ref q106), (4, .ref q110), (5, iv v5_117)] dX4_settled_140 rfl (by decide) ?_
          refine aw_iload (pc := 142) dX4_settled_142 rfl ?_
          refine jn_ind (fun (f9 : Mem → Option Rz) => ∀ (m186 : Mem), f9 m186 = some r → AW l D base sc RX4 yX4_settled cX4_settled 8 (some (FieldType.object "UppityGames$Game")) 3 4 125 ad (E mi) (pG E r) 2 20 (E m186) 186 [(0, .ref 18), (1, iv p1), (2, iv z104), (3, .ref q106), (4, .ref q110), (5, iv v5_117)] []) (fun m186 H => ?_) (fun j186 hj186 H => ?_) H
          · -- 186
            refine cx_iinc (pc := 186) [(5, iv (w32 (v5_117 + 1))), (0, .ref 18), (1, iv p1), (2, iv z104), (3, .ref q106), (4, .ref q110)] dX4_settled_186 rfl rfl (by decide) ?_
            refine aw_goto (pc := 189) 117 dX4_settled_189 rfl ?_
            exact AW.sel [1, 2, 3, 4, 5, 0] rfl (ih117 _ _ (inR_w32 _) H)
          refine cx_if_lt (pc := 144) 186 hx139 dX4_settled_144 rfl H (fun H => ?_) (fun H => ?_)
          · -- 144: 186
            exact AW.sel [1, 2, 3, 4, 5, 6] rfl (hj186 _ H)
          · -- 144: 147
            refine aw_iload (pc := 147) dX4_settled_147 rfl ?_
            refine aw_iload_n (pc := 149) dX4_settled_149 rfl ?_
            refine cx_icmp_ge (pc := 150) 186 hx139 hz104 dX4_settled_150 rfl H (fun H => ?_) (fun H => ?_)
            · -- 150: 153
              refine aw_aload_n (pc := 153) dX4_settled_153 rfl ?_
              refine aw_iload (pc := 154) dX4_settled_154 rfl ?_
              refine aw_aload_n (pc := 156) dX4_settled_156 rfl ?_
              refine aw_aload_n (pc := 157) dX4_settled_157 rfl ?_
              refine cx_gtC (pc := 158) 20 hE r18 fl_X4_15 rfl rfl (Nat.le_of_ble_eq_true rfl) dX4_settled_158 ?_
              refine aw_iload (pc := 161) dX4_settled_161 rfl ?_
              refine cx_ldI (pc := 163) hE r20 hv5_117 dX4_settled_163 H (fun x163 hx163 H => ?_)
              refine aw_iload_n (pc := 164) dX4_settled_164 rfl ?_
              refine cx_callV (pc := 165) (P := pI) (dC := 0) (mcC := 0) (msC := 0) [iv x163, iv p1] hE r18 (fun r1 H1 => s_X4_rankedMask l sc E R hE hR n x163 p1 hx163 hp1 m117 r1 H1) ca_X4_101 rfl ⟨_, rfl, rfl⟩ rfl rfl (Nat.le_of_ble_eq_true rfl) (Nat.le_of_ble_eq_true rfl) (Nat.le_of_ble_eq_true rfl) (Nat.le_of_ble_eq_true rfl) dX4_settled_165 H (fun x165 m165 v165 hh165 H hp => ?_)
              refine cx_backI hp (fun hx165 => ?_)
              refine cx_stI (pc := 168) hE (hR.d _ hq106) hx139 dX4_settled_168 H (fun m168 H => ?_)
              refine aw_aload (pc := 169) dX4_settled_169 rfl ?_
              refine aw_iload (pc := 171) dX4_settled_171 rfl ?_
              refine aw_aload_n (pc := 173) dX4_settled_173 rfl ?_
              refine aw_aload_n (pc := 174) dX4_settled_174 rfl ?_
              refine cx_gtC (pc := 175) 21 hE r18 fl_X4_18 rfl rfl (Nat.le_of_ble_eq_true rfl) dX4_settled_175 ?_
              refine aw_iload (pc := 178) dX4_settled_178 rfl ?_
              refine cx_ldI (pc := 180) hE r21 hv5_117 dX4_settled_180 H (fun x180 hx180 H => ?_)
              refine aw_iload_n (pc := 181) dX4_settled_181 rfl ?_
              refine cx_callV (pc := 182) (P := pI) (dC := 0) (mcC := 0) (msC := 0) [iv x180, iv p1] hE r18 (fun r1 H1 => s_X4_rankedMask l sc E R hE hR n x180 p1 hx180 hp1 m168 r1 H1) ca_X4_101 rfl ⟨_, rfl, rfl⟩ rfl rfl (Nat.le_of_ble_eq_true rfl) (Nat.le_of_ble_eq_true rfl) (Nat.le_of_ble_eq_true rfl) (Nat.le_of_ble_eq_true rfl) dX4_settled_182 H (fun x182 m182 v182 hh182 H hp => ?_)
              refine cx_backI hp (fun hx182 => ?_)
              refine cx_stI (pc := 185) hE (hR.d _ hq110) hx139 dX4_settled_185 H (fun m185 H => ?_)
              exact AW.sel [1, 2, 3, 4, 5, 6] rfl (hj186 _ H)
            · -- 150: 186
              exact AW.sel [1, 2, 3, 4, 5, 6] rfl (hj186 _ H)
        · -- 130: 192
          exact AW.sel [0, 2, 3, 4] rfl (hj192 _ H)
      · -- 120: 192
        exact AW.sel [0, 2, 3, 4] rfl (hj192 _ H)
    refine cx_icmp_ge (pc := 46) 99 hv2_44 hp1 dX4_settled_46 rfl H (fun H => ?_) (fun H => ?_)
    · -- 46: 49
      refine aw_iload_n (pc := 49) dX4_settled_49 rfl ?_
      refine aw_aload_n (pc := 50) dX4_settled_50 rfl ?_
      refine cx_gtC (pc := 51) 24 hE r18 fl_X4_27 rfl rfl (Nat.le_of_ble_eq_true rfl) dX4_settled_51 ?_
      refine cx_lenC (pc := 54) (c := 10) hE r24 (fun _ => ⟨_, _, rfl, rfl⟩) dX4_settled_54 ?_
      refine cx_icmp_ge (pc := 55) 99 hv2_44 (inR_lit _ rfl) dX4_settled_55 rfl H (fun H => ?_) (fun H => ?_)
      · -- 55: 58
        refine aw_aload_n (pc := 58) dX4_settled_58 rfl ?_
        refine cx_gtC (pc := 59) 24 hE r18 fl_X4_27 rfl rfl (Nat.le_of_ble_eq_true rfl) dX4_settled_59 ?_
        refine aw_iload_n (pc := 62) dX4_settled_62 rfl ?_
        refine cx_ldI (pc := 63) hE r24 hv2_44 dX4_settled_63 H (fun x63 hx63 H => ?_)
        refine jn_ind (fun (f9 : Mem → Option Rz) => ∀ (m93 : Mem), f9 m93 = some r → AW l D base sc RX4 yX4_settled cX4_settled 8 (some (FieldType.object "UppityGames$Game")) 3 4 125 ad (E mi) (pG E r) 0 0 (E m93) 93 [(0, .ref 18), (1, iv p1), (2, iv v2_44)] []) (fun m93 H => ?_) (fun j93 hj93 H => ?_) H
        · -- 93
          refine cx_iinc (pc := 93) [(2, iv (w32 (v2_44 + 1))), (0, .ref 18), (1, iv p1)] dX4_settled_93 rfl rfl (by decide) ?_
          refine aw_goto (pc := 96) 44 dX4_settled_96 rfl ?_
          exact AW.sel [1, 2, 0] rfl (ih44 _ _ (inR_w32 _) H)
        refine cx_if_lt (pc := 64) 93 hx63 dX4_settled_64 rfl H (fun H => ?_) (fun H => ?_)
        · -- 64: 93
          exact AW.sel [0, 1, 2] rfl (hj93 _ H)
        · -- 64: 67
          refine aw_aload_n (pc := 67) dX4_settled_67 rfl ?_
          refine cx_gtC (pc := 68) 24 hE r18 fl_X4_27 rfl rfl (Nat.le_of_ble_eq_true rfl) dX4_settled_68 ?_
          refine aw_iload_n (pc := 71) dX4_settled_71 rfl ?_
          refine cx_ldI (pc := 72) hE r24 hv2_44 dX4_settled_72 H (fun x72 hx72 H => ?_)
          refine aw_aload_n (pc := 73) dX4_settled_73 rfl ?_
          refine cx_gtC (pc := 74) 25 hE r18 fl_X4_30 rfl rfl (Nat.le_of_ble_eq_true rfl) dX4_settled_74 ?_
          refine cx_lenC (pc := 77) (c := 10) hE r25 (fun _ => ⟨_, _, rfl, rfl⟩) dX4_settled_77 ?_
          refine cx_icmp_ge (pc := 78) 93 hx72 (inR_lit _ rfl) dX4_settled_78 rfl H (fun H => ?_) (fun H => ?_)
          · -- 78: 81
            refine aw_aload_n (pc := 81) dX4_settled_81 rfl ?_
            refine cx_gtC (pc := 82) 25 hE r18 fl_X4_30 rfl rfl (Nat.le_of_ble_eq_true rfl) dX4_settled_82 ?_
            refine aw_aload_n (pc := 85) dX4_settled_85 rfl ?_
            refine cx_gtC (pc := 86) 24 hE r18 fl_X4_27 rfl rfl (Nat.le_of_ble_eq_true rfl) dX4_settled_86 ?_
            refine aw_iload_n (pc := 89) dX4_settled_89 rfl ?_
            refine cx_ldI (pc := 90) hE r24 hv2_44 dX4_settled_90 H (fun x90 hx90 H => ?_)
            refine aw_iload_n (pc := 91) dX4_settled_91 rfl ?_
            refine cx_stI (pc := 92) hE r25 hx90 dX4_settled_92 H (fun m92 H => ?_)
            exact AW.sel [0, 1, 2] rfl (hj93 _ H)
          · -- 78: 93
            exact AW.sel [0, 1, 2] rfl (hj93 _ H)
      · -- 55: 99
        exact AW.sel [0, 1] rfl (hj99 _ H)
    · -- 46: 99
      exact AW.sel [0, 1] rfl (hj99 _ H)
  refine cx_icmp_le (pc := 2) 42 hp1 (inR_lit _ rfl) dX4_settled_2 rfl H (fun H => ?_) (fun H => ?_)
  · -- 2: 5
    refine aw_iload_n (pc := 5) dX4_settled_5 rfl ?_
    refine aw_aload_n (pc := 6) dX4_settled_6 rfl ?_
    refine cx_gtC (pc := 7) 24 hE r18 fl_X4_27 rfl rfl (Nat.le_of_ble_eq_true rfl) dX4_settled_7 ?_
    refine cx_lenC (pc := 10) (c := 10) hE r24 (fun _ => ⟨_, _, rfl, rfl⟩) dX4_settled_10 ?_
    refine cx_icmp_gt (pc := 11) 42 hp1 (inR_lit _ rfl) dX4_settled_11 rfl H (fun H => ?_) (fun H => ?_)
    · -- 11: 42
      exact AW.sel [0, 1] rfl (hj42 _ H)
    · -- 11: 14
      refine aw_aload_n (pc := 14) dX4_settled_14 rfl ?_
      refine cx_gtC (pc := 15) 24 hE r18 fl_X4_27 rfl rfl (Nat.le_of_ble_eq_true rfl) dX4_settled_15 ?_
      refine cx_iconst (pc := 18) dX4_settled_18 ?_
      refine cx_ldI (pc := 19) hE r24 (inR_lit _ rfl) dX4_settled_19 H (fun x19 hx19 H => ?_)
      refine cx_if_eq (pc := 20) 42 hx19 dX4_settled_20 rfl H (fun H => ?_) (fun H => ?_)
      · -- 20: 42
        exact AW.sel [0, 1] rfl (hj42 _ H)
      · -- 20: 23
        refine aw_aload_n (pc := 23) dX4_settled_23 rfl ?_
        refine cx_gtC (pc := 24) 24 hE r18 fl_X4_27 rfl rfl (Nat.le_of_ble_eq_true rfl) dX4_settled_24 ?_
        refine cx_iconst (pc := 27) dX4_settled_27 ?_
        refine aw_aload_n (pc := 28) dX4_settled_28 rfl ?_
        refine cx_gtC (pc := 29) 24 hE r18 fl_X4_27 rfl rfl (Nat.le_of_ble_eq_true rfl) dX4_settled_29 ?_
        refine cx_iconst (pc := 32) dX4_settled_32 ?_
        refine cx_ldI (pc := 33) hE r24 (inR_lit _ rfl) dX4_settled_33 H (fun x33 hx33 H => ?_)
        refine cx_stI (pc := 34) hE r24 (inR_lit _ rfl) dX4_settled_34 H (fun m34 H => ?_)
        refine aw_aload_n (pc := 35) dX4_settled_35 rfl ?_
        refine cx_gtC (pc := 36) 24 hE r18 fl_X4_27 rfl rfl (Nat.le_of_ble_eq_true rfl) dX4_settled_36 ?_
        refine cx_iconst (pc := 39) dX4_settled_39 ?_
        refine cx_iconst (pc := 40) dX4_settled_40 ?_
        refine cx_stI (pc := 41) hE r24 (inR_lit _ rfl) dX4_settled_41 H (fun m41 H => ?_)
        exact AW.sel [0, 1] rfl (hj42 _ H)
  · -- 2: 42
    exact AW.sel [0, 1] rfl (hj42 _ H)
/-- X4 isAhead (II)Z -/
def f_X4_isAhead (n : Nat) (p1 : Int) (p2 : Int) (mi : Mem) : Option Rz :=
  jn (fun (m26 : Mem) =>
    rtZ 0 m26
  ) fun (j26 : Mem → Option Rz) =>
  if p1 < 0 then (
    j26 mi
  ) else
  if p2 < 0 then (
    j26 mi
  ) else
  if p1 < 10 then (
    if p2 < 10 then (
      ldI mi 26 p1 fun x33 =>
      ldI mi 26 p2 fun x39 =>
      if x33 = x39 then (
        lp (F := Int → Mem → Option Rz) (fun _ _ => none) (fun w66 v3_66 m66 =>
          ldI m66 26 p1 fun x72 =>
          jn (fun (m134 : Mem) =>
            rtZ 0 m134
          ) fun (j134 : Mem → Option Rz) =>
          if v3_66 < x72 then (
            if v3_66 < 100 then (
              ldB m66 27 (w32 ((w32 (p1 * 100)) + v3_66)) fun x92 =>
              ldB m66 27 (w32 ((w32 (p2 * 100)) + v3_66)) fun x105 =>
              if x92 = x105 then (
                w66 (w32 (v3_66 + 1)) m66
              ) else
              jn (fun (s0_127 : Int) (m127 : Mem) =>
                rtZ s0_127 m127
              ) fun (j127 : Int → Mem → Option Rz) =>
              if x92 < x105 then (
                j127 1 m66
              ) else
              j127 0 m66
            ) else
            j134 m66
          ) else
          j134 m66
        ) n 0 mi
      ) else
      ldI mi 26 p1 fun x48 =>
      ldI mi 26 p2 fun x54 =>
      jn (fun (s0_63 : Int) (m63 : Mem) =>
        rtZ s0_63 m63
      ) fun (j63 : Int → Mem → Option Rz) =>
      if x48 < x54 then (
        j63 1 mi
      ) else
      j63 0 mi
    ) else
    j26 mi
  ) else
  j26 mi
set_option maxRecDepth 100000 in
set_option maxHeartbeats 4000000 in
theorem s_X4_isAhead (l : Launch) (sc : g_S) (E : Mem → g_H) (R : Nat → Prop) (hE : LE E R) (hR : RYS R) (n : Nat)  (p1 : Int) (p2 : Int) (hp1 : inR p1) (hp2 : inR p2) (mi : Mem) (r : Rz) (H : f_X4_isAhead n p1 p2 mi = some r) : AMet l sc yX4_isAhead cX4_isAhead 6 (some FieldType.boolean) 0 0 0 [.ref 18, iv p1, iv p2] (E mi) (pI E r) := by
  have r18 : R 18 := hR.1 18 (Nat.le_of_ble_eq_true rfl) (Nat.le_of_ble_eq_true rfl)
  have r26 : R 26 := hR.1 26 (Nat.le_of_ble_eq_true rfl) (Nat.le_of_ble_eq_true rfl)
  have r27 : R 27 := hR.1 27 (Nat.le_of_ble_eq_true rfl) (Nat.le_of_ble_eq_true rfl)
  unfold f_X4_isAhead at H
  refine AMet.of (own := RX4) (by decide +kernel) rfl (Nat.le_of_ble_eq_true rfl) [(0, .ref 18), (1, iv p1), (2, iv p2)] rfl (fun D base ad => ?_)
  refine aw_iload_n (pc := 0) dX4_isAhead_0 rfl ?_
  refine jn_ind (fun (f9 : Mem → Option Rz) => ∀ (m26 : Mem), f9 m26 = some r → AW l D base sc RX4 yX4_isAhead cX4_isAhead 6 (some FieldType.boolean) 0 0 0 ad (E mi) (pI E r) 0 0 (E m26) 26 [] []) (fun m26 H => ?_) (fun j26 hj26 H => ?_) H
  · -- 26
    refine cx_iconst (pc := 26) dX4_isAhead_26 ?_
    exact cx_zret (pc := 27) rfl (Nat.le_of_ble_eq_true rfl) (Nat.le_of_ble_eq_true rfl) dX4_isAhead_27 H
  refine cx_if_lt (pc := 1) 26 hp1 dX4_isAhead_1 rfl H (fun H => ?_) (fun H => ?_)
  · -- 1: 26
    exact AW.sel [] rfl (hj26 _ H)
  · -- 1: 4
    refine aw_iload_n (pc := 4) dX4_isAhead_4 rfl ?_
    refine cx_if_lt (pc := 5) 26 hp2 dX4_isAhead_5 rfl H (fun H => ?_) (fun H => ?_)
    · -- 5: 26
      exact AW.sel [] rfl (hj26 _ H)
    · -- 5: 8
      refine aw_iload_n (pc := 8) dX4_isAhead_8 rfl ?_
      refine aw_aload_n (pc := 9) dX4_isAhead_9 rfl ?_
      refine cx_gtC (pc := 10) 26 hE r18 fl_X4_33 rfl rfl (Nat.le_of_ble_eq_true rfl) dX4_isAhead_10 ?_
      refine cx_lenC (pc := 13) (c := 10) hE r26 (fun _ => ⟨_, _, rfl, rfl⟩) dX4_isAhead_13 ?_
      refine cx_icmp_ge (pc := 14) 26 hp1 (inR_lit _ rfl) dX4_isAhead_14 rfl H (fun H => ?_) (fun H => ?_)
      · -- 14: 17
        refine aw_iload_n (pc := 17) dX4_isAhead_17 rfl ?_
        refine aw_aload_n (pc := 18) dX4_isAhead_18 rfl ?_
        refine cx_gtC (pc := 19) 26 hE r18 fl_X4_33 rfl rfl (Nat.le_of_ble_eq_true rfl) dX4_isAhead_19 ?_
        refine cx_lenC (pc := 22) (c := 10) hE r26 (fun _ => ⟨_, _, rfl, rfl⟩) dX4_isAhead_22 ?_
        refine cx_icmp_lt (pc := 23) 28 hp2 (inR_lit _ rfl) dX4_isAhead_23 rfl H (fun H => ?_) (fun H => ?_)
        · -- 23: 28
          refine aw_aload_n (pc := 28) dX4_isAhead_28 rfl ?_
          refine cx_gtC (pc := 29) 26 hE r18 fl_X4_33 rfl rfl (Nat.le_of_ble_eq_true rfl) dX4_isAhead_29 ?_
          refine aw_iload_n (pc := 32) dX4_isAhead_32 rfl ?_
          refine cx_ldI (pc := 33) hE r26 hp1 dX4_isAhead_33 H (fun x33 hx33 H => ?_)
          refine aw_aload_n (pc := 34) dX4_isAhead_34 rfl ?_
          refine cx_gtC (pc := 35) 26 hE r18 fl_X4_33 rfl rfl (Nat.le_of_ble_eq_true rfl) dX4_isAhead_35 ?_
          refine aw_iload_n (pc := 38) dX4_isAhead_38 rfl ?_
          refine cx_ldI (pc := 39) hE r26 hp2 dX4_isAhead_39 H (fun x39 hx39 H => ?_)
          refine cx_icmp_eq (pc := 40) 64 hx33 hx39 dX4_isAhead_40 rfl H (fun H => ?_) (fun H => ?_)
          · -- 40: 64
            refine cx_iconst (pc := 64) dX4_isAhead_64 ?_
            refine aw_istore_n (pc := 65) [(3, iv 0), (0, .ref 18), (1, iv p1), (2, iv p2)] dX4_isAhead_65 rfl (by decide) ?_
            refine AW.sel [1, 2, 3, 0] rfl (lp_ind (bot := fun _ _ => none) (fun (f9 : Int → Mem → Option Rz) => ∀ (v3_66 : Int) (m66 : Mem), inR v3_66 → f9 v3_66 m66 = some r → AW l D base sc RX4 yX4_isAhead cX4_isAhead 6 (some FieldType.boolean) 0 0 0 ad (E mi) (pI E r) 0 0 (E m66) 66 [(0, .ref 18), (1, iv p1), (2, iv p2), (3, iv v3_66)] []) (fun _ _ _ h9 => nomatch h9) (fun w66 ih66 v3_66 m66 hv3_66 H => ?_) n _ _ (inR_lit _ rfl) H)
            refine aw_iload_n (pc := 66) dX4_isAhead_66 rfl ?_
            refine aw_aload_n (pc := 67) dX4_isAhead_67 rfl ?_
            refine cx_gtC (pc := 68) 26 hE r18 fl_X4_33 rfl rfl (Nat.le_of_ble_eq_true rfl) dX4_isAhead_68 ?_
            refine aw_iload_n (pc := 71) dX4_isAhead_71 rfl ?_
            refine cx_ldI (pc := 72) hE r26 hp1 dX4_isAhead_72 H (fun x72 hx72 H => ?_)
            refine jn_ind (fun (f9 : Mem → Option Rz) => ∀ (m134 : Mem), f9 m134 = some r → AW l D base sc RX4 yX4_isAhead cX4_isAhead 6 (some FieldType.boolean) 0 0 0 ad (E mi) (pI E r) 0 0 (E m134) 134 [] []) (fun m134 H => ?_) (fun j134 hj134 H => ?_) H
            · -- 134
              refine cx_iconst (pc := 134) dX4_isAhead_134 ?_
              exact cx_zret (pc := 135) rfl (Nat.le_of_ble_eq_true rfl) (Nat.le_of_ble_eq_true rfl) dX4_isAhead_135 H
            refine cx_icmp_ge (pc := 73) 134 hv3_66 hx72 dX4_isAhead_73 rfl H (fun H => ?_) (fun H => ?_)
            · -- 73: 76
              refine aw_iload_n (pc := 76) dX4_isAhead_76 rfl ?_
              refine cx_bipush (pc := 77) dX4_isAhead_77 (by decide) ?_
              refine cx_icmp_ge (pc := 79) 134 hv3_66 (inR_lit _ rfl) dX4_isAhead_79 rfl H (fun H => ?_) (fun H => ?_)
              · -- 79: 82
                refine aw_aload_n (pc := 82) dX4_isAhead_82 rfl ?_
                refine cx_gtC (pc := 83) 27 hE r18 fl_X4_36 rfl rfl (Nat.le_of_ble_eq_true rfl) dX4_isAhead_83 ?_
                refine aw_iload_n (pc := 86) dX4_isAhead_86 rfl ?_
                refine cx_bipush (pc := 87) dX4_isAhead_87 (by decide) ?_
                refine cx_imul (pc := 89) dX4_isAhead_89 ?_
                refine aw_iload_n (pc := 90) dX4_isAhead_90 rfl ?_
                refine cx_iadd (pc := 91) dX4_isAhead_91 ?_
                refine cx_ldB (pc := 92) hE r27 (inR_w32 _) dX4_isAhead_92 H (fun x92 hx92 H => ?_)
                refine aw_istore (pc := 93) [(4, iv x92), (0, .ref 18), (1, iv p1), (2, iv p2), (3, iv v3_66)] dX4_isAhead_93 rfl (by decide) ?_
                refine aw_aload_n (pc := 95) dX4_isAhead_95 rfl ?_
                refine cx_gtC (pc := 96) 27 hE r18 fl_X4_36 rfl rfl (Nat.le_of_ble_eq_true rfl) dX4_isAhead_96 ?_
                refine aw_iload_n (pc := 99) dX4_isAhead_99 rfl ?_
                refine cx_bipush (pc := 100) dX4_isAhead_100 (by decide) ?_
                refine cx_imul (pc := 102) dX4_isAhead_102 ?_
                refine aw_iload_n (pc := 103) dX4_isAhead_103 rfl ?_
                refine cx_iadd (pc := 104) dX4_isAhead_104 ?_
                refine cx_ldB (pc := 105) hE r27 (inR_w32 _) dX4_isAhead_105 H (fun x105 hx105 H => ?_)
                refine aw_istore (pc := 106) [(5, iv x105), (4, iv x92), (0, .ref 18), (1, iv p1), (2, iv p2), (3, iv v3_66)] dX4_isAhead_106 rfl (by decide) ?_
                refine aw_iload (pc := 108) dX4_isAhead_108 rfl ?_
                refine aw_iload (pc := 110) dX4_isAhead_110 rfl ?_
                refine cx_icmp_eq (pc := 112) 128 hx92 hx105 dX4_isAhead_112 rfl H (fun H => ?_) (fun H => ?_)
                · -- 112: 128
                  refine cx_iinc (pc := 128) [(3, iv (w32 (v3_66 + 1))), (5, iv x105), (4, iv x92), (0, .ref 18), (1, iv p1), (2, iv p2)] dX4_isAhead_128 rfl rfl (by decide) ?_
                  refine aw_goto (pc := 131) 66 dX4_isAhead_131 rfl ?_
                  exact AW.sel [3, 4, 5, 0] rfl (ih66 _ _ (inR_w32 _) H)
                · -- 112: 115
                  refine aw_iload (pc := 115) dX4_isAhead_115 rfl ?_
                  refine aw_iload (pc := 117) dX4_isAhead_117 rfl ?_
                  refine jn_ind (fun (f9 : Int → Mem → Option Rz) => ∀ (s0_127 : Int) (m127 : Mem), inR s0_127 → f9 s0_127 m127 = some r → AW l D base sc RX4 yX4_isAhead cX4_isAhead 6 (some FieldType.boolean) 0 0 0 ad (E mi) (pI E r) 0 0 (E m127) 127 [] [iv s0_127]) (fun s0_127 m127 hs0_127 H => ?_) (fun j127 hj127 H => ?_) H
                  · -- 127
                    exact cx_zret (pc := 127) rfl (Nat.le_of_ble_eq_true rfl) (Nat.le_of_ble_eq_true rfl) dX4_isAhead_127 H
                  refine cx_icmp_ge (pc := 119) 126 hx92 hx105 dX4_isAhead_119 rfl H (fun H => ?_) (fun H => ?_)
                  · -- 119: 122
                    refine cx_iconst (pc := 122) dX4_isAhead_122 ?_
                    refine aw_goto (pc := 123) 127 dX4_isAhead_123 rfl ?_
                    exact AW.sel [] rfl (hj127 _ _ (inR_lit _ rfl) H)
                  · -- 119: 126
                    refine cx_iconst (pc := 126) dX4_isAhead_126 ?_
                    exact AW.sel [] rfl (hj127 _ _ (inR_lit _ rfl) H)
              · -- 79: 134
                exact AW.sel [] rfl (hj134 _ H)
            · -- 73: 134
              exact AW.sel [] rfl (hj134 _ H)
          · -- 40: 43
            refine aw_aload_n (pc := 43) dX4_isAhead_43 rfl ?_
            refine cx_gtC (pc := 44) 26 hE r18 fl_X4_33 rfl rfl (Nat.le_of_ble_eq_true rfl) dX4_isAhead_44 ?_
            refine aw_iload_n (pc := 47) dX4_isAhead_47 rfl ?_
            refine cx_ldI (pc := 48) hE r26 hp1 dX4_isAhead_48 H (fun x48 hx48 H => ?_)
            refine aw_aload_n (pc := 49) dX4_isAhead_49 rfl ?_
            refine cx_gtC (pc := 50) 26 hE r18 fl_X4_33 rfl rfl (Nat.le_of_ble_eq_true rfl) dX4_isAhead_50 ?_
            refine aw_iload_n (pc := 53) dX4_isAhead_53 rfl ?_
            refine cx_ldI (pc := 54) hE r26 hp2 dX4_isAhead_54 H (fun x54 hx54 H => ?_)
            refine jn_ind (fun (f9 : Int → Mem → Option Rz) => ∀ (s0_63 : Int) (m63 : Mem), inR s0_63 → f9 s0_63 m63 = some r → AW l D base sc RX4 yX4_isAhead cX4_isAhead 6 (some FieldType.boolean) 0 0 0 ad (E mi) (pI E r) 0 0 (E m63) 63 [] [iv s0_63]) (fun s0_63 m63 hs0_63 H => ?_) (fun j63 hj63 H => ?_) H
            · -- 63
              exact cx_zret (pc := 63) rfl (Nat.le_of_ble_eq_true rfl) (Nat.le_of_ble_eq_true rfl) dX4_isAhead_63 H
            refine cx_icmp_ge (pc := 55) 62 hx48 hx54 dX4_isAhead_55 rfl H (fun H => ?_) (fun H => ?_)
            · -- 55: 58
              refine cx_iconst (pc := 58) dX4_isAhead_58 ?_
              refine aw_goto (pc := 59) 63 dX4_isAhead_59 rfl ?_
              exact AW.sel [] rfl (hj63 _ _ (inR_lit _ rfl) H)
            · -- 55: 62
              refine cx_iconst (pc := 62) dX4_isAhead_62 ?_
              exact AW.sel [] rfl (hj63 _ _ (inR_lit _ rfl) H)
        · -- 23: 26
          exact AW.sel [] rfl (hj26 _ H)
      · -- 14: 26
        exact AW.sel [] rfl (hj26 _ H)
/-- X4 sortIn (I)V -/
def f_X4_sortIn (n : Nat) (p1 : Int) (mi : Mem) : Option Rz :=
  lp (F := Int → Mem → Option Rz) (fun _ _ => none) (fun w2 v2_2 m2 =>
    jn (fun (m51 : Mem) =>
      jn (fun (m71 : Mem) =>
        rt 0 m71
      ) fun (j71 : Mem → Option Rz) =>
      if v2_2 < 0 then (
        j71 m51
      ) else
      if v2_2 < 10 then (
        stI m51 24 v2_2 p1 fun m70 =>
        j71 m70
      ) else
      j71 m51
    ) fun (j51 : Mem → Option Rz) =>
    if 0 < v2_2 then (
      if v2_2 < 10 then (
        ldI m2 24 (w32 (v2_2 - 1)) fun x24 =>
        cal (f_X4_isAhead n p1 x24 m2) fun x25 m25 =>
        if x25 = 0 then (
          j51 m25
        ) else
        ldI m25 24 (w32 (v2_2 - 1)) fun x43 =>
        stI m25 24 v2_2 x43 fun m44 =>
        w2 (w32 (v2_2 + (-1))) m44
      ) else
      j51 m2
    ) else
    j51 m2
  ) n p1 mi
set_option maxRecDepth 100000 in
set_option maxHeartbeats 4000000 in
theorem s_X4_sortIn (l : Launch) (sc : g_S) (E : Mem → g_H) (R : Nat → Prop) (hE : LE E R) (hR : RYS R) (n : Nat)  (p1 : Int) (hp1 : inR p1) (mi : Mem) (r : Rz) (H : f_X4_sortIn n p1 mi = some r) : AMet l sc yX4_sortIn cX4_sortIn 3 none 1 0 0 [.ref 18, iv p1] (E mi) (pV E r) := by
  have r18 : R 18 := hR.1 18 (Nat.le_of_ble_eq_true rfl) (Nat.le_of_ble_eq_true rfl)
  have r24 : R 24 := hR.1 24 (Nat.le_of_ble_eq_true rfl) (Nat.le_of_ble_eq_true rfl)
  unfold f_X4_sortIn at H
  refine AMet.of (own := RX4) (by decide +kernel) rfl (Nat.le_of_ble_eq_true rfl) [(0, .ref 18), (1, iv p1)] rfl (fun D base ad => ?_)
  refine aw_iload_n (pc := 0) dX4_sortIn_0 rfl ?_
  refine aw_istore_n (pc := 1) [(2, iv p1), (0, .ref 18), (1, iv p1)] dX4_sortIn_1 rfl (by decide) ?_
  refine AW.sel [1, 2, 0] rfl (lp_ind (bot := fun _ _ => none) (fun (f9 : Int → Mem → Option Rz) => ∀ (v2_2 : Int) (m2 : Mem), inR v2_2 → f9 v2_2 m2 = some r → AW l D base sc RX4 yX4_sortIn cX4_sortIn 3 none 1 0 0 ad (E mi) (pV E r) 0 0 (E m2) 2 [(0, .ref 18), (1, iv p1), (2, iv v2_2)] []) (fun _ _ _ h9 => nomatch h9) (fun w2 ih2 v2_2 m2 hv2_2 H => ?_) n _ _ hp1 H)
  refine aw_iload_n (pc := 2) dX4_sortIn_2 rfl ?_
  refine jn_ind (fun (f9 : Mem → Option Rz) => ∀ (m51 : Mem), f9 m51 = some r → AW l D base sc RX4 yX4_sortIn cX4_sortIn 3 none 1 0 0 ad (E mi) (pV E r) 0 0 (E m51) 51 [(0, .ref 18), (1, iv p1), (2, iv v2_2)] []) (fun m51 H => ?_) (fun j51 hj51 H => ?_) H
  · -- 51
    refine aw_iload_n (pc := 51) dX4_sortIn_51 rfl ?_
    refine jn_ind (fun (f9 : Mem → Option Rz) => ∀ (m71 : Mem), f9 m71 = some r → AW l D base sc RX4 yX4_sortIn cX4_sortIn 3 none 1 0 0 ad (E mi) (pV E r) 0 0 (E m71) 71 [] []) (fun m71 H => ?_) (fun j71 hj71 H => ?_) H
    · -- 71
      exact cx_vret (pc := 71) rfl (Nat.le_of_ble_eq_true rfl) (Nat.le_of_ble_eq_true rfl) dX4_sortIn_71 H
    refine cx_if_lt (pc := 52) 71 hv2_2 dX4_sortIn_52 rfl H (fun H => ?_) (fun H => ?_)
    · -- 52: 71
      exact AW.sel [] rfl (hj71 _ H)
    · -- 52: 55
      refine aw_iload_n (pc := 55) dX4_sortIn_55 rfl ?_
      refine aw_aload_n (pc := 56) dX4_sortIn_56 rfl ?_
      refine cx_gtC (pc := 57) 24 hE r18 fl_X4_27 rfl rfl (Nat.le_of_ble_eq_true rfl) dX4_sortIn_57 ?_
      refine cx_lenC (pc := 60) (c := 10) hE r24 (fun _ => ⟨_, _, rfl, rfl⟩) dX4_sortIn_60 ?_
      refine cx_icmp_ge (pc := 61) 71 hv2_2 (inR_lit _ rfl) dX4_sortIn_61 rfl H (fun H => ?_) (fun H => ?_)
      · -- 61: 64
        refine aw_aload_n (pc := 64) dX4_sortIn_64 rfl ?_
        refine cx_gtC (pc := 65) 24 hE r18 fl_X4_27 rfl rfl (Nat.le_of_ble_eq_true rfl) dX4_sortIn_65 ?_
        refine aw_iload_n (pc := 68) dX4_sortIn_68 rfl ?_
        refine aw_iload_n (pc := 69) dX4_sortIn_69 rfl ?_
        refine cx_stI (pc := 70) hE r24 hv2_2 dX4_sortIn_70 H (fun m70 H => ?_)
        exact AW.sel [] rfl (hj71 _ H)
      · -- 61: 71
        exact AW.sel [] rfl (hj71 _ H)
  refine cx_if_le (pc := 3) 51 hv2_2 dX4_sortIn_3 rfl H (fun H => ?_) (fun H => ?_)
  · -- 3: 6
    refine aw_iload_n (pc := 6) dX4_sortIn_6 rfl ?_
    refine aw_aload_n (pc := 7) dX4_sortIn_7 rfl ?_
    refine cx_gtC (pc := 8) 24 hE r18 fl_X4_27 rfl rfl (Nat.le_of_ble_eq_true rfl) dX4_sortIn_8 ?_
    refine cx_lenC (pc := 11) (c := 10) hE r24 (fun _ => ⟨_, _, rfl, rfl⟩) dX4_sortIn_11 ?_
    refine cx_icmp_ge (pc := 12) 51 hv2_2 (inR_lit _ rfl) dX4_sortIn_12 rfl H (fun H => ?_) (fun H => ?_)
    · -- 12: 15
      refine aw_aload_n (pc := 15) dX4_sortIn_15 rfl ?_
      refine aw_iload_n (pc := 16) dX4_sortIn_16 rfl ?_
      refine aw_aload_n (pc := 17) dX4_sortIn_17 rfl ?_
      refine cx_gtC (pc := 18) 24 hE r18 fl_X4_27 rfl rfl (Nat.le_of_ble_eq_true rfl) dX4_sortIn_18 ?_
      refine aw_iload_n (pc := 21) dX4_sortIn_21 rfl ?_
      refine cx_iconst (pc := 22) dX4_sortIn_22 ?_
      refine cx_isub (pc := 23) dX4_sortIn_23 ?_
      refine cx_ldI (pc := 24) hE r24 (inR_w32 _) dX4_sortIn_24 H (fun x24 hx24 H => ?_)
      refine cx_callV (pc := 25) (P := pI) (dC := 0) (mcC := 0) (msC := 0) [iv p1, iv x24] hE r18 (fun r1 H1 => s_X4_isAhead l sc E R hE hR n p1 x24 hp1 hx24 m2 r1 H1) ca_X4_97 rfl ⟨_, rfl, rfl⟩ rfl rfl (Nat.le_of_ble_eq_true rfl) (Nat.le_of_ble_eq_true rfl) (Nat.le_of_ble_eq_true rfl) (Nat.le_of_ble_eq_true rfl) dX4_sortIn_25 H (fun x25 m25 v25 hh25 H hp => ?_)
      refine cx_backI hp (fun hx25 => ?_)
      refine cx_if_eq (pc := 28) 51 hx25 dX4_sortIn_28 rfl H (fun H => ?_) (fun H => ?_)
      · -- 28: 51
        exact AW.sel [0, 1, 2] rfl (hj51 _ H)
      · -- 28: 31
        refine aw_aload_n (pc := 31) dX4_sortIn_31 rfl ?_
        refine cx_gtC (pc := 32) 24 hE r18 fl_X4_27 rfl rfl (Nat.le_of_ble_eq_true rfl) dX4_sortIn_32 ?_
        refine aw_iload_n (pc := 35) dX4_sortIn_35 rfl ?_
        refine aw_aload_n (pc := 36) dX4_sortIn_36 rfl ?_
        refine cx_gtC (pc := 37) 24 hE r18 fl_X4_27 rfl rfl (Nat.le_of_ble_eq_true rfl) dX4_sortIn_37 ?_
        refine aw_iload_n (pc := 40) dX4_sortIn_40 rfl ?_
        refine cx_iconst (pc := 41) dX4_sortIn_41 ?_
        refine cx_isub (pc := 42) dX4_sortIn_42 ?_
        refine cx_ldI (pc := 43) hE r24 (inR_w32 _) dX4_sortIn_43 H (fun x43 hx43 H => ?_)
        refine cx_stI (pc := 44) hE r24 hv2_2 dX4_sortIn_44 H (fun m44 H => ?_)
        refine cx_iinc (pc := 45) [(2, iv (w32 (v2_2 + (-1)))), (0, .ref 18), (1, iv p1)] dX4_sortIn_45 rfl rfl (by decide) ?_
        refine aw_goto (pc := 48) 2 dX4_sortIn_48 rfl ?_
        exact AW.sel [1, 2, 0] rfl (ih2 _ _ (inR_w32 _) H)
    · -- 12: 51
      exact AW.sel [0, 1, 2] rfl (hj51 _ H)
  · -- 3: 51
    exact AW.sel [0, 1, 2] rfl (hj51 _ H)
/-- X4 type (II)V -/
def f_X4_type (n : Nat) (p1 : Int) (p2 : Int) (mi : Mem) : Option Rz :=
  jn (fun (m33 : Mem) =>
    ptZ m33 18 10 1 fun m35 =>
    rt 0 m35
  ) fun (j33 : Mem → Option Rz) =>
  if p1 < 0 then (
    j33 mi
  ) else
  if p1 < 10 then (
    ldI mi 26 p1 fun x18 =>
    if x18 < 0 then (
      j33 mi
    ) else
    ldI mi 26 p1 fun x27 =>
    if x27 < 100 then (
      ldI mi 26 p1 fun x52 =>
      stB mi 27 (w32 ((w32 (p1 * 100)) + x52)) (i8 p2) fun m56 =>
      ldI m56 26 p1 fun x63 =>
      stI m56 26 p1 (w32 (x63 + 1)) fun m66 =>
      rt 0 m66
    ) else
    j33 mi
  ) else
  j33 mi
set_option maxRecDepth 100000 in
set_option maxHeartbeats 4000000 in
theorem s_X4_type (l : Launch) (sc : g_S) (E : Mem → g_H) (R : Nat → Prop) (hE : LE E R) (hR : RYS R) (n : Nat)  (p1 : Int) (p2 : Int) (hp1 : inR p1) (hp2 : inR p2) (mi : Mem) (r : Rz) (H : f_X4_type n p1 p2 mi = some r) : AMet l sc yX4_type cX4_type 3 none 0 0 0 [.ref 18, iv p1, iv p2] (E mi) (pV E r) := by
  have r18 : R 18 := hR.1 18 (Nat.le_of_ble_eq_true rfl) (Nat.le_of_ble_eq_true rfl)
  have r26 : R 26 := hR.1 26 (Nat.le_of_ble_eq_true rfl) (Nat.le_of_ble_eq_true rfl)
  have r27 : R 27 := hR.1 27 (Nat.le_of_ble_eq_true rfl) (Nat.le_of_ble_eq_true rfl)
  unfold f_X4_type at H
  refine AMet.of (own := RX4) (by decide +kernel) rfl (Nat.le_of_ble_eq_true rfl) [(0, .ref 18), (1, iv p1), (2, iv p2)] rfl (fun D base ad => ?_)
  refine aw_iload_n (pc := 0) dX4_type_0 rfl ?_
  refine jn_ind (fun (f9 : Mem → Option Rz) => ∀ (m33 : Mem), f9 m33 = some r → AW l D base sc RX4 yX4_type cX4_type 3 none 0 0 0 ad (E mi) (pV E r) 0 0 (E m33) 33 [(0, .ref 18)] []) (fun m33 H => ?_) (fun j33 hj33 H => ?_) H
  · -- 33
    refine aw_aload_n (pc := 33) dX4_type_33 rfl ?_
    refine cx_iconst (pc := 34) dX4_type_34 ?_
    refine cx_ptZ (pc := 35) tyX4 hE r18 fl_X4_50 (fun r h => ⟨gty_X4 r h, by cases h; rfl⟩) rfl rfl rfl (Nat.le_of_ble_eq_true rfl) dX4_type_35 H (fun m35 H => ?_)
    exact cx_vret (pc := 38) rfl (Nat.le_of_ble_eq_true rfl) (Nat.le_of_ble_eq_true rfl) dX4_type_38 H
  refine cx_if_lt (pc := 1) 33 hp1 dX4_type_1 rfl H (fun H => ?_) (fun H => ?_)
  · -- 1: 33
    exact AW.sel [0] rfl (hj33 _ H)
  · -- 1: 4
    refine aw_iload_n (pc := 4) dX4_type_4 rfl ?_
    refine aw_aload_n (pc := 5) dX4_type_5 rfl ?_
    refine cx_gtC (pc := 6) 26 hE r18 fl_X4_33 rfl rfl (Nat.le_of_ble_eq_true rfl) dX4_type_6 ?_
    refine cx_lenC (pc := 9) (c := 10) hE r26 (fun _ => ⟨_, _, rfl, rfl⟩) dX4_type_9 ?_
    refine cx_icmp_ge (pc := 10) 33 hp1 (inR_lit _ rfl) dX4_type_10 rfl H (fun H => ?_) (fun H => ?_)
    · -- 10: 13
      refine aw_aload_n (pc := 13) dX4_type_13 rfl ?_
      refine cx_gtC (pc := 14) 26 hE r18 fl_X4_33 rfl rfl (Nat.le_of_ble_eq_true rfl) dX4_type_14 ?_
      refine aw_iload_n (pc := 17) dX4_type_17 rfl ?_
      refine cx_ldI (pc := 18) hE r26 hp1 dX4_type_18 H (fun x18 hx18 H => ?_)
      refine cx_if_lt (pc := 19) 33 hx18 dX4_type_19 rfl H (fun H => ?_) (fun H => ?_)
      · -- 19: 33
        exact AW.sel [0] rfl (hj33 _ H)
      · -- 19: 22
        refine aw_aload_n (pc := 22) dX4_type_22 rfl ?_
        refine cx_gtC (pc := 23) 26 hE r18 fl_X4_33 rfl rfl (Nat.le_of_ble_eq_true rfl) dX4_type_23 ?_
        refine aw_iload_n (pc := 26) dX4_type_26 rfl ?_
        refine cx_ldI (pc := 27) hE r26 hp1 dX4_type_27 H (fun x27 hx27 H => ?_)
        refine cx_bipush (pc := 28) dX4_type_28 (by decide) ?_
        refine cx_icmp_lt (pc := 30) 39 hx27 (inR_lit _ rfl) dX4_type_30 rfl H (fun H => ?_) (fun H => ?_)
        · -- 30: 39
          refine aw_aload_n (pc := 39) dX4_type_39 rfl ?_
          refine cx_gtC (pc := 40) 27 hE r18 fl_X4_36 rfl rfl (Nat.le_of_ble_eq_true rfl) dX4_type_40 ?_
          refine aw_iload_n (pc := 43) dX4_type_43 rfl ?_
          refine cx_bipush (pc := 44) dX4_type_44 (by decide) ?_
          refine cx_imul (pc := 46) dX4_type_46 ?_
          refine aw_aload_n (pc := 47) dX4_type_47 rfl ?_
          refine cx_gtC (pc := 48) 26 hE r18 fl_X4_33 rfl rfl (Nat.le_of_ble_eq_true rfl) dX4_type_48 ?_
          refine aw_iload_n (pc := 51) dX4_type_51 rfl ?_
          refine cx_ldI (pc := 52) hE r26 hp1 dX4_type_52 H (fun x52 hx52 H => ?_)
          refine cx_iadd (pc := 53) dX4_type_53 ?_
          refine aw_iload_n (pc := 54) dX4_type_54 rfl ?_
          refine cx_i2b (pc := 55) dX4_type_55 ?_
          refine cx_stB (pc := 56) hE r27 (inR_w32 _) dX4_type_56 H (fun m56 H => ?_)
          refine aw_aload_n (pc := 57) dX4_type_57 rfl ?_
          refine cx_gtC (pc := 58) 26 hE r18 fl_X4_33 rfl rfl (Nat.le_of_ble_eq_true rfl) dX4_type_58 ?_
          refine aw_iload_n (pc := 61) dX4_type_61 rfl ?_
          refine aw_dup2 (pc := 62) dX4_type_62 rfl rfl ?_
          refine cx_ldI (pc := 63) hE r26 hp1 dX4_type_63 H (fun x63 hx63 H => ?_)
          refine cx_iconst (pc := 64) dX4_type_64 ?_
          refine cx_iadd (pc := 65) dX4_type_65 ?_
          refine cx_stI (pc := 66) hE r26 hp1 dX4_type_66 H (fun m66 H => ?_)
          exact cx_vret (pc := 67) rfl (Nat.le_of_ble_eq_true rfl) (Nat.le_of_ble_eq_true rfl) dX4_type_67 H
        · -- 30: 33
          exact AW.sel [0] rfl (hj33 _ H)
    · -- 10: 33
      exact AW.sel [0] rfl (hj33 _ H)
/-- X4 spellOptions (II)V -/
def f_X4_spellOptions (n : Nat) (p1 : Int) (p2 : Int) (mi : Mem) : Option Rz :=
  lp (F := Int → Int → Mem → Option Rz) (fun _ _ _ => none) (fun w5 v3_5 v4_5 m5 =>
    jn (fun (m119 : Mem) =>
      rt 0 m119
    ) fun (j119 : Mem → Option Rz) =>
    if v4_5 < p1 then (
      if v4_5 < 10 then (
        ldI m5 24 v4_5 fun x27 =>
        jn (fun (v3_113 : Int) (m113 : Mem) =>
          w5 v3_113 (w32 (v4_5 + 1)) m113
        ) fun (j113 : Int → Mem → Option Rz) =>
        if x27 < 0 then (
          j113 v3_5 m5
        ) else
        if x27 < 10 then (
          if iand (ishr p2 x27) 1 = 0 then (
            j113 v3_5 m5
          ) else
          jn (fun (m65 : Mem) =>
            lp (F := Int → Mem → Option Rz) (fun _ _ => none) (fun w70 v6_70 m70 =>
              ldI m70 26 x27 fun x78 =>
              if v6_70 < x78 then (
                if v6_70 < 100 then (
                  ldB m70 27 (w32 ((w32 (x27 * 100)) + v6_70)) fun x103 =>
                  cal (f_X4_type n p1 x103 m70) fun _ m104 =>
                  w70 (w32 (v6_70 + 1)) m104
                ) else
                j113 0 m70
              ) else
              j113 0 m70
            ) n 0 m65
          ) fun (j65 : Mem → Option Rz) =>
          if v3_5 = 0 then (
            cal (f_X4_type n p1 44 m5) fun _ m62 =>
            j65 m62
          ) else
          j65 m5
        ) else
        j113 v3_5 m5
      ) else
      j119 m5
    ) else
    j119 m5
  ) n 1 0 mi
set_option maxRecDepth 100000 in
set_option maxHeartbeats 4000000 in
theorem s_X4_spellOptions (l : Launch) (sc : g_S) (E : Mem → g_H) (R : Nat → Prop) (hE : LE E R) (hR : RYS R) (n : Nat)  (p1 : Int) (p2 : Int) (hp1 : inR p1) (hp2 : inR p2) (mi : Mem) (r : Rz) (H : f_X4_spellOptions n p1 p2 mi = some r) : AMet l sc yX4_spellOptions cX4_spellOptions 7 none 1 0 0 [.ref 18, iv p1, iv p2] (E mi) (pV E r) := by
  have r18 : R 18 := hR.1 18 (Nat.le_of_ble_eq_true rfl) (Nat.le_of_ble_eq_true rfl)
  have r24 : R 24 := hR.1 24 (Nat.le_of_ble_eq_true rfl) (Nat.le_of_ble_eq_true rfl)
  have r26 : R 26 := hR.1 26 (Nat.le_of_ble_eq_true rfl) (Nat.le_of_ble_eq_true rfl)
  have r27 : R 27 := hR.1 27 (Nat.le_of_ble_eq_true rfl) (Nat.le_of_ble_eq_true rfl)
  unfold f_X4_spellOptions at H
  refine AMet.of (own := RX4) (by decide +kernel) rfl (Nat.le_of_ble_eq_true rfl) [(0, .ref 18), (1, iv p1), (2, iv p2)] rfl (fun D base ad => ?_)
  refine cx_iconst (pc := 0) dX4_spellOptions_0 ?_
  refine aw_istore_n (pc := 1) [(3, iv 1), (0, .ref 18), (1, iv p1), (2, iv p2)] dX4_spellOptions_1 rfl (by decide) ?_
  refine cx_iconst (pc := 2) dX4_spellOptions_2 ?_
  refine aw_istore (pc := 3) [(4, iv 0), (3, iv 1), (0, .ref 18), (1, iv p1), (2, iv p2)] dX4_spellOptions_3 rfl (by decide) ?_
  refine AW.sel [2, 3, 4, 1, 0] rfl (lp_ind (bot := fun _ _ _ => none) (fun (f9 : Int → Int → Mem → Option Rz) => ∀ (v3_5 : Int) (v4_5 : Int) (m5 : Mem), inR v3_5 → inR v4_5 → f9 v3_5 v4_5 m5 = some r → AW l D base sc RX4 yX4_spellOptions cX4_spellOptions 7 none 1 0 0 ad (E mi) (pV E r) 0 0 (E m5) 5 [(0, .ref 18), (1, iv p1), (2, iv p2), (3, iv v3_5), (4, iv v4_5)] []) (fun _ _ _ _ _ h9 => nomatch h9) (fun w5 ih5 v3_5 v4_5 m5 hv3_5 hv4_5 H => ?_) n _ _ _ (inR_lit _ rfl) (inR_lit _ rfl) H)
  refine aw_iload (pc := 5) dX4_spellOptions_5 rfl ?_
  refine aw_iload_n (pc := 7) dX4_spellOptions_7 rfl ?_
  refine jn_ind (fun (f9 : Mem → Option Rz) => ∀ (m119 : Mem), f9 m119 = some r → AW l D base sc RX4 yX4_spellOptions cX4_spellOptions 7 none 1 0 0 ad (E mi) (pV E r) 0 0 (E m119) 119 [] []) (fun m119 H => ?_) (fun j119 hj119 H => ?_) H
  · -- 119
    exact cx_vret (pc := 119) rfl (Nat.le_of_ble_eq_true rfl) (Nat.le_of_ble_eq_true rfl) dX4_spellOptions_119 H
  refine cx_icmp_ge (pc := 8) 119 hv4_5 hp1 dX4_spellOptions_8 rfl H (fun H => ?_) (fun H => ?_)
  · -- 8: 11
    refine aw_iload (pc := 11) dX4_spellOptions_11 rfl ?_
    refine aw_aload_n (pc := 13) dX4_spellOptions_13 rfl ?_
    refine cx_gtC (pc := 14) 24 hE r18 fl_X4_27 rfl rfl (Nat.le_of_ble_eq_true rfl) dX4_spellOptions_14 ?_
    refine cx_lenC (pc := 17) (c := 10) hE r24 (fun _ => ⟨_, _, rfl, rfl⟩) dX4_spellOptions_17 ?_
    refine cx_icmp_ge (pc := 18) 119 hv4_5 (inR_lit _ rfl) dX4_spellOptions_18 rfl H (fun H => ?_) (fun H => ?_)
    · -- 18: 21
      refine aw_aload_n (pc := 21) dX4_spellOptions_21 rfl ?_
      refine cx_gtC (pc := 22) 24 hE r18 fl_X4_27 rfl rfl (Nat.le_of_ble_eq_true rfl) dX4_spellOptions_22 ?_
      refine aw_iload (pc := 25) dX4_spellOptions_25 rfl ?_
      refine cx_ldI (pc := 27) hE r24 hv4_5 dX4_spellOptions_27 H (fun x27 hx27 H => ?_)
      refine aw_istore (pc := 28) [(5, iv x27), (0, .ref 18), (1, iv p1), (2, iv p2), (3, iv v3_5), (4, iv v4_5)] dX4_spellOptions_28 rfl (by decide) ?_
      refine aw_iload (pc := 30) dX4_spellOptions_30 rfl ?_
      refine jn_ind (fun (f9 : Int → Mem → Option Rz) => ∀ (v3_113 : Int) (m113 : Mem), inR v3_113 → f9 v3_113 m113 = some r → AW l D base sc RX4 yX4_spellOptions cX4_spellOptions 7 none 1 0 0 ad (E mi) (pV E r) 0 0 (E m113) 113 [(0, .ref 18), (1, iv p1), (2, iv p2), (3, iv v3_113), (4, iv v4_5)] []) (fun v3_113 m113 hv3_113 H => ?_) (fun j113 hj113 H => ?_) H
      · -- 113
        refine cx_iinc (pc := 113) [(4, iv (w32 (v4_5 + 1))), (0, .ref 18), (1, iv p1), (2, iv p2), (3, iv v3_113)] dX4_spellOptions_113 rfl rfl (by decide) ?_
        refine aw_goto (pc := 116) 5 dX4_spellOptions_116 rfl ?_
        exact AW.sel [1, 2, 3, 4, 0] rfl (ih5 _ _ _ hv3_113 (inR_w32 _) H)
      refine cx_if_lt (pc := 32) 113 hx27 dX4_spellOptions_32 rfl H (fun H => ?_) (fun H => ?_)
      · -- 32: 113
        exact AW.sel [1, 2, 3, 4, 5] rfl (hj113 _ _ hv3_5 H)
      · -- 32: 35
        refine aw_iload (pc := 35) dX4_spellOptions_35 rfl ?_
        refine aw_aload_n (pc := 37) dX4_spellOptions_37 rfl ?_
        refine cx_gtC (pc := 38) 26 hE r18 fl_X4_33 rfl rfl (Nat.le_of_ble_eq_true rfl) dX4_spellOptions_38 ?_
        refine cx_lenC (pc := 41) (c := 10) hE r26 (fun _ => ⟨_, _, rfl, rfl⟩) dX4_spellOptions_41 ?_
        refine cx_icmp_ge (pc := 42) 113 hx27 (inR_lit _ rfl) dX4_spellOptions_42 rfl H (fun H => ?_) (fun H => ?_)
        · -- 42: 45
          refine aw_iload_n (pc := 45) dX4_spellOptions_45 rfl ?_
          refine aw_iload (pc := 46) dX4_spellOptions_46 rfl ?_
          refine cx_ishr (pc := 48) dX4_spellOptions_48 ?_
          refine cx_iconst (pc := 49) dX4_spellOptions_49 ?_
          refine cx_iand (pc := 50) dX4_spellOptions_50 ?_
          refine cx_if_eq (pc := 51) 113 (inR_32 _) dX4_spellOptions_51 rfl H (fun H => ?_) (fun H => ?_)
          · -- 51: 113
            exact AW.sel [1, 2, 3, 4, 5] rfl (hj113 _ _ hv3_5 H)
          · -- 51: 54
            refine aw_iload_n (pc := 54) dX4_spellOptions_54 rfl ?_
            refine jn_ind (fun (f9 : Mem → Option Rz) => ∀ (m65 : Mem), f9 m65 = some r → AW l D base sc RX4 yX4_spellOptions cX4_spellOptions 7 none 1 0 0 ad (E mi) (pV E r) 0 0 (E m65) 65 [(0, .ref 18), (1, iv p1), (2, iv p2), (4, iv v4_5), (5, iv x27)] []) (fun m65 H => ?_) (fun j65 hj65 H => ?_) H
            · -- 65
              refine cx_iconst (pc := 65) dX4_spellOptions_65 ?_
              refine aw_istore_n (pc := 66) [(3, iv 0), (0, .ref 18), (1, iv p1), (2, iv p2), (4, iv v4_5), (5, iv x27)] dX4_spellOptions_66 rfl (by decide) ?_
              refine cx_iconst (pc := 67) dX4_spellOptions_67 ?_
              refine aw_istore (pc := 68) [(6, iv 0), (3, iv 0), (0, .ref 18), (1, iv p1), (2, iv p2), (4, iv v4_5), (5, iv x27)] dX4_spellOptions_68 rfl (by decide) ?_
              refine AW.sel [2, 3, 4, 1, 5, 6, 0] rfl (lp_ind (bot := fun _ _ => none) (fun (f9 : Int → Mem → Option Rz) => ∀ (v6_70 : Int) (m70 : Mem), inR v6_70 → f9 v6_70 m70 = some r → AW l D base sc RX4 yX4_spellOptions cX4_spellOptions 7 none 1 0 0 ad (E mi) (pV E r) 0 0 (E m70) 70 [(0, .ref 18), (1, iv p1), (2, iv p2), (3, iv 0), (4, iv v4_5), (5, iv x27), (6, iv v6_70)] []) (fun _ _ _ h9 => nomatch h9) (fun w70 ih70 v6_70 m70 hv6_70 H => ?_) n _ _ (inR_lit _ rfl) H)
              refine aw_iload (pc := 70) dX4_spellOptions_70 rfl ?_
              refine aw_aload_n (pc := 72) dX4_spellOptions_72 rfl ?_
              refine cx_gtC (pc := 73) 26 hE r18 fl_X4_33 rfl rfl (Nat.le_of_ble_eq_true rfl) dX4_spellOptions_73 ?_
              refine aw_iload (pc := 76) dX4_spellOptions_76 rfl ?_
              refine cx_ldI (pc := 78) hE r26 hx27 dX4_spellOptions_78 H (fun x78 hx78 H => ?_)
              refine cx_icmp_ge (pc := 79) 113 hv6_70 hx78 dX4_spellOptions_79 rfl H (fun H => ?_) (fun H => ?_)
              · -- 79: 82
                refine aw_iload (pc := 82) dX4_spellOptions_82 rfl ?_
                refine cx_bipush (pc := 84) dX4_spellOptions_84 (by decide) ?_
                refine cx_icmp_ge (pc := 86) 113 hv6_70 (inR_lit _ rfl) dX4_spellOptions_86 rfl H (fun H => ?_) (fun H => ?_)
                · -- 86: 89
                  refine aw_aload_n (pc := 89) dX4_spellOptions_89 rfl ?_
                  refine aw_iload_n (pc := 90) dX4_spellOptions_90 rfl ?_
                  refine aw_aload_n (pc := 91) dX4_spellOptions_91 rfl ?_
                  refine cx_gtC (pc := 92) 27 hE r18 fl_X4_36 rfl rfl (Nat.le_of_ble_eq_true rfl) dX4_spellOptions_92 ?_
                  refine aw_iload (pc := 95) dX4_spellOptions_95 rfl ?_
                  refine cx_bipush (pc := 97) dX4_spellOptions_97 (by decide) ?_
                  refine cx_imul (pc := 99) dX4_spellOptions_99 ?_
                  refine aw_iload (pc := 100) dX4_spellOptions_100 rfl ?_
                  refine cx_iadd (pc := 102) dX4_spellOptions_102 ?_
                  refine cx_ldB (pc := 103) hE r27 (inR_w32 _) dX4_spellOptions_103 H (fun x103 hx103 H => ?_)
                  refine cx_callV (pc := 104) (P := pV) (dC := 0) (mcC := 0) (msC := 0) [iv p1, iv x103] hE r18 (fun r1 H1 => s_X4_type l sc E R hE hR n p1 x103 hp1 hx103 m70 r1 H1) ca_X4_90 rfl ⟨_, rfl, rfl⟩ rfl rfl (Nat.le_of_ble_eq_true rfl) (Nat.le_of_ble_eq_true rfl) (Nat.le_of_ble_eq_true rfl) (Nat.le_of_ble_eq_true rfl) dX4_spellOptions_104 H (fun x104 m104 v104 hh104 H hp => ?_)
                  refine cx_backV hp ?_
                  refine cx_iinc (pc := 107) [(6, iv (w32 (v6_70 + 1))), (0, .ref 18), (1, iv p1), (2, iv p2), (3, iv 0), (4, iv v4_5), (5, iv x27)] dX4_spellOptions_107 rfl rfl (by decide) ?_
                  refine aw_goto (pc := 110) 70 dX4_spellOptions_110 rfl ?_
                  exact AW.sel [1, 2, 3, 4, 5, 6, 0] rfl (ih70 _ _ (inR_w32 _) H)
                · -- 86: 113
                  exact AW.sel [0, 1, 2, 3, 4] rfl (hj113 _ _ (inR_lit _ rfl) H)
              · -- 79: 113
                exact AW.sel [0, 1, 2, 3, 4] rfl (hj113 _ _ (inR_lit _ rfl) H)
            refine cx_if_ne (pc := 55) 65 hv3_5 dX4_spellOptions_55 rfl H (fun H => ?_) (fun H => ?_)
            · -- 55: 58
              refine aw_aload_n (pc := 58) dX4_spellOptions_58 rfl ?_
              refine aw_iload_n (pc := 59) dX4_spellOptions_59 rfl ?_
              refine cx_bipush (pc := 60) dX4_spellOptions_60 (by decide) ?_
              refine cx_callV (pc := 62) (P := pV) (dC := 0) (mcC := 0) (msC := 0) [iv p1, iv 44] hE r18 (fun r1 H1 => s_X4_type l sc E R hE hR n p1 44 hp1 (inR_lit _ rfl) m5 r1 H1) ca_X4_90 rfl ⟨_, rfl, rfl⟩ rfl rfl (Nat.le_of_ble_eq_true rfl) (Nat.le_of_ble_eq_true rfl) (Nat.le_of_ble_eq_true rfl) (Nat.le_of_ble_eq_true rfl) dX4_spellOptions_62 H (fun x62 m62 v62 hh62 H hp => ?_)
              refine cx_backV hp ?_
              exact AW.sel [1, 2, 3, 5, 0] rfl (hj65 _ H)
            · -- 55: 65
              exact AW.sel [1, 2, 3, 5, 0] rfl (hj65 _ H)
        · -- 42: 113
          exact AW.sel [1, 2, 3, 4, 5] rfl (hj113 _ _ hv3_5 H)
    · -- 18: 119
      exact AW.sel [] rfl (hj119 _ H)
  · -- 8: 119
    exact AW.sel [] rfl (hj119 _ H)
/-- X4 spell (I)V -/
def f_X4_spell (n : Nat) (p1 : Int) (mi : Mem) : Option Rz :=
  jn (fun (m13 : Mem) =>
    rt 0 m13
  ) fun (j13 : Mem → Option Rz) =>
  if p1 < 0 then (
    j13 mi
  ) else
  if p1 < 10 then (
    stI mi 26 p1 0 fun m20 =>
    ldI m20 20 p1 fun x26 =>
    jn (fun (m158 : Mem) =>
      rt 0 m158
    ) fun (j158 : Mem → Option Rz) =>
    jn (fun (m39 : Mem) =>
      ldI m39 21 p1 fun x44 =>
      jn (fun (m55 : Mem) =>
        ldI m55 22 p1 fun x64 =>
        cal (f_X4_type n p1 (w32 (48 + x64)) m55) fun _ m66 =>
        j158 m66
      ) fun (j55 : Mem → Option Rz) =>
      if x44 = 0 then (
        j55 m39
      ) else
      cal (f_X4_type n p1 45 m39) fun _ m52 =>
      j55 m52
    ) fun (j39 : Mem → Option Rz) =>
    if x26 = 0 then (
      j39 m20
    ) else
    ldI m20 21 p1 fun x35 =>
    if x35 = 0 then (
      j39 m20
    ) else
    ldI m20 23 p1 fun x77 =>
    if 0 < x77 then (
      cal (f_X4_type n p1 42 m20) fun _ m85 =>
      ldI m85 23 p1 fun x93 =>
      if 1 < x93 then (
        ldI m85 23 p1 fun x107 =>
        cal (f_X4_type n p1 (w32 (48 + x107)) m85) fun _ m109 =>
        j158 m109
      ) else
      j158 m85
    ) else
    cal (f_X4_type n p1 123 m20) fun _ m119 =>
    ldI m119 20 p1 fun x129 =>
    cal (f_X4_spellOptions n p1 x129 m119) fun _ m130 =>
    cal (f_X4_type n p1 124 m130) fun _ m137 =>
    ldI m137 21 p1 fun x147 =>
    cal (f_X4_spellOptions n p1 x147 m137) fun _ m148 =>
    cal (f_X4_type n p1 125 m148) fun _ m155 =>
    j158 m155
  ) else
  j13 mi
set_option maxRecDepth 100000 in
set_option maxHeartbeats 4000000 in
theorem s_X4_spell (l : Launch) (sc : g_S) (E : Mem → g_H) (R : Nat → Prop) (hE : LE E R) (hR : RYS R) (n : Nat)  (p1 : Int) (hp1 : inR p1) (mi : Mem) (r : Rz) (H : f_X4_spell n p1 mi = some r) : AMet l sc yX4_spell cX4_spell 2 none 2 0 0 [.ref 18, iv p1] (E mi) (pV E r) := by
  have r18 : R 18 := hR.1 18 (Nat.le_of_ble_eq_true rfl) (Nat.le_of_ble_eq_true rfl)
  have r20 : R 20 := hR.1 20 (Nat.le_of_ble_eq_true rfl) (Nat.le_of_ble_eq_true rfl)
  have r21 : R 21 := hR.1 21 (Nat.le_of_ble_eq_true rfl) (Nat.le_of_ble_eq_true rfl)
  have r22 : R 22 := hR.1 22 (Nat.le_of_ble_eq_true rfl) (Nat.le_of_ble_eq_true rfl)
  have r23 : R 23 := hR.1 23 (Nat.le_of_ble_eq_true rfl) (Nat.le_of_ble_eq_true rfl)
  have r26 : R 26 := hR.1 26 (Nat.le_of_ble_eq_true rfl) (Nat.le_of_ble_eq_true rfl)
  unfold f_X4_spell at H
  refine AMet.of (own := RX4) (by decide +kernel) rfl (Nat.le_of_ble_eq_true rfl) [(0, .ref 18), (1, iv p1)] rfl (fun D base ad => ?_)
  refine aw_iload_n (pc := 0) dX4_spell_0 rfl ?_
  refine jn_ind (fun (f9 : Mem → Option Rz) => ∀ (m13 : Mem), f9 m13 = some r → AW l D base sc RX4 yX4_spell cX4_spell 2 none 2 0 0 ad (E mi) (pV E r) 0 0 (E m13) 13 [] []) (fun m13 H => ?_) (fun j13 hj13 H => ?_) H
  · -- 13
    exact cx_vret (pc := 13) rfl (Nat.le_of_ble_eq_true rfl) (Nat.le_of_ble_eq_true rfl) dX4_spell_13 H
  refine cx_if_lt (pc := 1) 13 hp1 dX4_spell_1 rfl H (fun H => ?_) (fun H => ?_)
  · -- 1: 13
    exact AW.sel [] rfl (hj13 _ H)
  · -- 1: 4
    refine aw_iload_n (pc := 4) dX4_spell_4 rfl ?_
    refine aw_aload_n (pc := 5) dX4_spell_5 rfl ?_
    refine cx_gtC (pc := 6) 26 hE r18 fl_X4_33 rfl rfl (Nat.le_of_ble_eq_true rfl) dX4_spell_6 ?_
    refine cx_lenC (pc := 9) (c := 10) hE r26 (fun _ => ⟨_, _, rfl, rfl⟩) dX4_spell_9 ?_
    refine cx_icmp_lt (pc := 10) 14 hp1 (inR_lit _ rfl) dX4_spell_10 rfl H (fun H => ?_) (fun H => ?_)
    · -- 10: 14
      refine aw_aload_n (pc := 14) dX4_spell_14 rfl ?_
      refine cx_gtC (pc := 15) 26 hE r18 fl_X4_33 rfl rfl (Nat.le_of_ble_eq_true rfl) dX4_spell_15 ?_
      refine aw_iload_n (pc := 18) dX4_spell_18 rfl ?_
      refine cx_iconst (pc := 19) dX4_spell_19 ?_
      refine cx_stI (pc := 20) hE r26 hp1 dX4_spell_20 H (fun m20 H => ?_)
      refine aw_aload_n (pc := 21) dX4_spell_21 rfl ?_
      refine cx_gtC (pc := 22) 20 hE r18 fl_X4_15 rfl rfl (Nat.le_of_ble_eq_true rfl) dX4_spell_22 ?_
      refine aw_iload_n (pc := 25) dX4_spell_25 rfl ?_
      refine cx_ldI (pc := 26) hE r20 hp1 dX4_spell_26 H (fun x26 hx26 H => ?_)
      refine jn_ind (fun (f9 : Mem → Option Rz) => ∀ (m158 : Mem), f9 m158 = some r → AW l D base sc RX4 yX4_spell cX4_spell 2 none 2 0 0 ad (E mi) (pV E r) 0 0 (E m158) 158 [] []) (fun m158 H => ?_) (fun j158 hj158 H => ?_) H
      · -- 158
        exact cx_vret (pc := 158) rfl (Nat.le_of_ble_eq_true rfl) (Nat.le_of_ble_eq_true rfl) dX4_spell_158 H
      refine jn_ind (fun (f9 : Mem → Option Rz) => ∀ (m39 : Mem), f9 m39 = some r → AW l D base sc RX4 yX4_spell cX4_spell 2 none 2 0 0 ad (E mi) (pV E r) 0 0 (E m39) 39 [(0, .ref 18), (1, iv p1)] []) (fun m39 H => ?_) (fun j39 hj39 H => ?_) H
      · -- 39
        refine aw_aload_n (pc := 39) dX4_spell_39 rfl ?_
        refine cx_gtC (pc := 40) 21 hE r18 fl_X4_18 rfl rfl (Nat.le_of_ble_eq_true rfl) dX4_spell_40 ?_
        refine aw_iload_n (pc := 43) dX4_spell_43 rfl ?_
        refine cx_ldI (pc := 44) hE r21 hp1 dX4_spell_44 H (fun x44 hx44 H => ?_)
        refine jn_ind (fun (f9 : Mem → Option Rz) => ∀ (m55 : Mem), f9 m55 = some r → AW l D base sc RX4 yX4_spell cX4_spell 2 none 2 0 0 ad (E mi) (pV E r) 0 0 (E m55) 55 [(0, .ref 18), (1, iv p1)] []) (fun m55 H => ?_) (fun j55 hj55 H => ?_) H
        · -- 55
          refine aw_aload_n (pc := 55) dX4_spell_55 rfl ?_
          refine aw_iload_n (pc := 56) dX4_spell_56 rfl ?_
          refine cx_bipush (pc := 57) dX4_spell_57 (by decide) ?_
          refine aw_aload_n (pc := 59) dX4_spell_59 rfl ?_
          refine cx_gtC (pc := 60) 22 hE r18 fl_X4_21 rfl rfl (Nat.le_of_ble_eq_true rfl) dX4_spell_60 ?_
          refine aw_iload_n (pc := 63) dX4_spell_63 rfl ?_
          refine cx_ldI (pc := 64) hE r22 hp1 dX4_spell_64 H (fun x64 hx64 H => ?_)
          refine cx_iadd (pc := 65) dX4_spell_65 ?_
          refine cx_callV (pc := 66) (P := pV) (dC := 0) (mcC := 0) (msC := 0) [iv p1, iv (w32 (48 + x64))] hE r18 (fun r1 H1 => s_X4_type l sc E R hE hR n p1 (w32 (48 + x64)) hp1 (inR_w32 _) m55 r1 H1) ca_X4_90 rfl ⟨_, rfl, rfl⟩ rfl rfl (Nat.le_of_ble_eq_true rfl) (Nat.le_of_ble_eq_true rfl) (Nat.le_of_ble_eq_true rfl) (Nat.le_of_ble_eq_true rfl) dX4_spell_66 H (fun x66 m66 v66 hh66 H hp => ?_)
          refine cx_backV hp ?_
          refine aw_goto (pc := 69) 158 dX4_spell_69 rfl ?_
          exact AW.sel [] rfl (hj158 _ H)
        refine cx_if_eq (pc := 45) 55 hx44 dX4_spell_45 rfl H (fun H => ?_) (fun H => ?_)
        · -- 45: 55
          exact AW.sel [0, 1] rfl (hj55 _ H)
        · -- 45: 48
          refine aw_aload_n (pc := 48) dX4_spell_48 rfl ?_
          refine aw_iload_n (pc := 49) dX4_spell_49 rfl ?_
          refine cx_bipush (pc := 50) dX4_spell_50 (by decide) ?_
          refine cx_callV (pc := 52) (P := pV) (dC := 0) (mcC := 0) (msC := 0) [iv p1, iv 45] hE r18 (fun r1 H1 => s_X4_type l sc E R hE hR n p1 45 hp1 (inR_lit _ rfl) m39 r1 H1) ca_X4_90 rfl ⟨_, rfl, rfl⟩ rfl rfl (Nat.le_of_ble_eq_true rfl) (Nat.le_of_ble_eq_true rfl) (Nat.le_of_ble_eq_true rfl) (Nat.le_of_ble_eq_true rfl) dX4_spell_52 H (fun x52 m52 v52 hh52 H hp => ?_)
          refine cx_backV hp ?_
          exact AW.sel [0, 1] rfl (hj55 _ H)
      refine cx_if_eq (pc := 27) 39 hx26 dX4_spell_27 rfl H (fun H => ?_) (fun H => ?_)
      · -- 27: 39
        exact AW.sel [0, 1] rfl (hj39 _ H)
      · -- 27: 30
        refine aw_aload_n (pc := 30) dX4_spell_30 rfl ?_
        refine cx_gtC (pc := 31) 21 hE r18 fl_X4_18 rfl rfl (Nat.le_of_ble_eq_true rfl) dX4_spell_31 ?_
        refine aw_iload_n (pc := 34) dX4_spell_34 rfl ?_
        refine cx_ldI (pc := 35) hE r21 hp1 dX4_spell_35 H (fun x35 hx35 H => ?_)
        refine cx_if_ne (pc := 36) 72 hx35 dX4_spell_36 rfl H (fun H => ?_) (fun H => ?_)
        · -- 36: 39
          exact AW.sel [0, 1] rfl (hj39 _ H)
        · -- 36: 72
          refine aw_aload_n (pc := 72) dX4_spell_72 rfl ?_
          refine cx_gtC (pc := 73) 23 hE r18 fl_X4_24 rfl rfl (Nat.le_of_ble_eq_true rfl) dX4_spell_73 ?_
          refine aw_iload_n (pc := 76) dX4_spell_76 rfl ?_
          refine cx_ldI (pc := 77) hE r23 hp1 dX4_spell_77 H (fun x77 hx77 H => ?_)
          refine cx_if_le (pc := 78) 115 hx77 dX4_spell_78 rfl H (fun H => ?_) (fun H => ?_)
          · -- 78: 81
            refine aw_aload_n (pc := 81) dX4_spell_81 rfl ?_
            refine aw_iload_n (pc := 82) dX4_spell_82 rfl ?_
            refine cx_bipush (pc := 83) dX4_spell_83 (by decide) ?_
            refine cx_callV (pc := 85) (P := pV) (dC := 0) (mcC := 0) (msC := 0) [iv p1, iv 42] hE r18 (fun r1 H1 => s_X4_type l sc E R hE hR n p1 42 hp1 (inR_lit _ rfl) m20 r1 H1) ca_X4_90 rfl ⟨_, rfl, rfl⟩ rfl rfl (Nat.le_of_ble_eq_true rfl) (Nat.le_of_ble_eq_true rfl) (Nat.le_of_ble_eq_true rfl) (Nat.le_of_ble_eq_true rfl) dX4_spell_85 H (fun x85 m85 v85 hh85 H hp => ?_)
            refine cx_backV hp ?_
            refine aw_aload_n (pc := 88) dX4_spell_88 rfl ?_
            refine cx_gtC (pc := 89) 23 hE r18 fl_X4_24 rfl rfl (Nat.le_of_ble_eq_true rfl) dX4_spell_89 ?_
            refine aw_iload_n (pc := 92) dX4_spell_92 rfl ?_
            refine cx_ldI (pc := 93) hE r23 hp1 dX4_spell_93 H (fun x93 hx93 H => ?_)
            refine cx_iconst (pc := 94) dX4_spell_94 ?_
            refine cx_icmp_le (pc := 95) 158 hx93 (inR_lit _ rfl) dX4_spell_95 rfl H (fun H => ?_) (fun H => ?_)
            · -- 95: 98
              refine aw_aload_n (pc := 98) dX4_spell_98 rfl ?_
              refine aw_iload_n (pc := 99) dX4_spell_99 rfl ?_
              refine cx_bipush (pc := 100) dX4_spell_100 (by decide) ?_
              refine aw_aload_n (pc := 102) dX4_spell_102 rfl ?_
              refine cx_gtC (pc := 103) 23 hE r18 fl_X4_24 rfl rfl (Nat.le_of_ble_eq_true rfl) dX4_spell_103 ?_
              refine aw_iload_n (pc := 106) dX4_spell_106 rfl ?_
              refine cx_ldI (pc := 107) hE r23 hp1 dX4_spell_107 H (fun x107 hx107 H => ?_)
              refine cx_iadd (pc := 108) dX4_spell_108 ?_
              refine cx_callV (pc := 109) (P := pV) (dC := 0) (mcC := 0) (msC := 0) [iv p1, iv (w32 (48 + x107))] hE r18 (fun r1 H1 => s_X4_type l sc E R hE hR n p1 (w32 (48 + x107)) hp1 (inR_w32 _) m85 r1 H1) ca_X4_90 rfl ⟨_, rfl, rfl⟩ rfl rfl (Nat.le_of_ble_eq_true rfl) (Nat.le_of_ble_eq_true rfl) (Nat.le_of_ble_eq_true rfl) (Nat.le_of_ble_eq_true rfl) dX4_spell_109 H (fun x109 m109 v109 hh109 H hp => ?_)
              refine cx_backV hp ?_
              refine aw_goto (pc := 112) 158 dX4_spell_112 rfl ?_
              exact AW.sel [] rfl (hj158 _ H)
            · -- 95: 158
              exact AW.sel [] rfl (hj158 _ H)
          · -- 78: 115
            refine aw_aload_n (pc := 115) dX4_spell_115 rfl ?_
            refine aw_iload_n (pc := 116) dX4_spell_116 rfl ?_
            refine cx_bipush (pc := 117) dX4_spell_117 (by decide) ?_
            refine cx_callV (pc := 119) (P := pV) (dC := 0) (mcC := 0) (msC := 0) [iv p1, iv 123] hE r18 (fun r1 H1 => s_X4_type l sc E R hE hR n p1 123 hp1 (inR_lit _ rfl) m20 r1 H1) ca_X4_90 rfl ⟨_, rfl, rfl⟩ rfl rfl (Nat.le_of_ble_eq_true rfl) (Nat.le_of_ble_eq_true rfl) (Nat.le_of_ble_eq_true rfl) (Nat.le_of_ble_eq_true rfl) dX4_spell_119 H (fun x119 m119 v119 hh119 H hp => ?_)
            refine cx_backV hp ?_
            refine aw_aload_n (pc := 122) dX4_spell_122 rfl ?_
            refine aw_iload_n (pc := 123) dX4_spell_123 rfl ?_
            refine aw_aload_n (pc := 124) dX4_spell_124 rfl ?_
            refine cx_gtC (pc := 125) 20 hE r18 fl_X4_15 rfl rfl (Nat.le_of_ble_eq_true rfl) dX4_spell_125 ?_
            refine aw_iload_n (pc := 128) dX4_spell_128 rfl ?_
            refine cx_ldI (pc := 129) hE r20 hp1 dX4_spell_129 H (fun x129 hx129 H => ?_)
            refine cx_callV (pc := 130) (P := pV) (dC := 1) (mcC := 0) (msC := 0) [iv p1, iv x129] hE r18 (fun r1 H1 => s_X4_spellOptions l sc E R hE hR n p1 x129 hp1 hx129 m119 r1 H1) ca_X4_94 rfl ⟨_, rfl, rfl⟩ rfl rfl (Nat.le_of_ble_eq_true rfl) (Nat.le_of_ble_eq_true rfl) (Nat.le_of_ble_eq_true rfl) (Nat.le_of_ble_eq_true rfl) dX4_spell_130 H (fun x130 m130 v130 hh130 H hp => ?_)
            refine cx_backV hp ?_
            refine aw_aload_n (pc := 133) dX4_spell_133 rfl ?_
            refine aw_iload_n (pc := 134) dX4_spell_134 rfl ?_
            refine cx_bipush (pc := 135) dX4_spell_135 (by decide) ?_
            refine cx_callV (pc := 137) (P := pV) (dC := 0) (mcC := 0) (msC := 0) [iv p1, iv 124] hE r18 (fun r1 H1 => s_X4_type l sc E R hE hR n p1 124 hp1 (inR_lit _ rfl) m130 r1 H1) ca_X4_90 rfl ⟨_, rfl, rfl⟩ rfl rfl (Nat.le_of_ble_eq_true rfl) (Nat.le_of_ble_eq_true rfl) (Nat.le_of_ble_eq_true rfl) (Nat.le_of_ble_eq_true rfl) dX4_spell_137 H (fun x137 m137 v137 hh137 H hp => ?_)
            refine cx_backV hp ?_
            refine aw_aload_n (pc := 140) dX4_spell_140 rfl ?_
            refine aw_iload_n (pc := 141) dX4_spell_141 rfl ?_
            refine aw_aload_n (pc := 142) dX4_spell_142 rfl ?_
            refine cx_gtC (pc := 143) 21 hE r18 fl_X4_18 rfl rfl (Nat.le_of_ble_eq_true rfl) dX4_spell_143 ?_
            refine aw_iload_n (pc := 146) dX4_spell_146 rfl ?_
            refine cx_ldI (pc := 147) hE r21 hp1 dX4_spell_147 H (fun x147 hx147 H => ?_)
            refine cx_callV (pc := 148) (P := pV) (dC := 1) (mcC := 0) (msC := 0) [iv p1, iv x147] hE r18 (fun r1 H1 => s_X4_spellOptions l sc E R hE hR n p1 x147 hp1 hx147 m137 r1 H1) ca_X4_94 rfl ⟨_, rfl, rfl⟩ rfl rfl (Nat.le_of_ble_eq_true rfl) (Nat.le_of_ble_eq_true rfl) (Nat.le_of_ble_eq_true rfl) (Nat.le_of_ble_eq_true rfl) dX4_spell_148 H (fun x148 m148 v148 hh148 H hp => ?_)
            refine cx_backV hp ?_
            refine aw_aload_n (pc := 151) dX4_spell_151 rfl ?_
            refine aw_iload_n (pc := 152) dX4_spell_152 rfl ?_
            refine cx_bipush (pc := 153) dX4_spell_153 (by decide) ?_
            refine cx_callV (pc := 155) (P := pV) (dC := 0) (mcC := 0) (msC := 0) [iv p1, iv 125] hE r18 (fun r1 H1 => s_X4_type l sc E R hE hR n p1 125 hp1 (inR_lit _ rfl) m148 r1 H1) ca_X4_90 rfl ⟨_, rfl, rfl⟩ rfl rfl (Nat.le_of_ble_eq_true rfl) (Nat.le_of_ble_eq_true rfl) (Nat.le_of_ble_eq_true rfl) (Nat.le_of_ble_eq_true rfl) dX4_spell_155 H (fun x155 m155 v155 hh155 H hp => ?_)
            refine cx_backV hp ?_
            exact AW.sel [] rfl (hj158 _ H)
    · -- 10: 13
      exact AW.sel [] rfl (hj13 _ H)
/-- X4 written (I)LUppityGames$Game; -/
def f_X4_written (n : Nat) (p1 : Int) (mi : Mem) : Option Rz :=
  cal (f_X9_followers n p1 19 mi) fun x9 m9 =>
  jn (fun (m24 : Mem) =>
    rt (0 : Nat) m24
  ) fun (j24 : Mem → Option Rz) =>
  if x9 < 1 then (
    j24 m9
  ) else
  if 10 < x9 then (
    j24 m9
  ) else
  ptZ m9 18 10 0 fun m28 =>
  lp (F := Int → Mem → Option Rz) (fun _ _ => none) (fun w33 v3_33 m33 =>
    if v3_33 < x9 then (
      cal (f_X4_maskOf n v3_33 0 m33) fun x46 m46 =>
      stI m46 20 v3_33 x46 fun m49 =>
      cal (f_X4_maskOf n v3_33 1 m49) fun x58 m58 =>
      stI m58 21 v3_33 x58 fun m61 =>
      cal (f_X4_dayOf n v3_33 m61) fun x69 m69 =>
      stI m69 22 v3_33 x69 fun m72 =>
      cal (f_X4_heapOf n v3_33 m72) fun x80 m80 =>
      stI m80 23 v3_33 x80 fun m83 =>
      cal (f_X4_spell n v3_33 m83) fun _ m86 =>
      cal (f_X4_sortIn n v3_33 m86) fun _ m91 =>
      w33 (w32 (v3_33 + 1)) m91
    ) else
    gtF m33 18 10 fun x101 =>
    jn (fun (s0_116 : Nat) (m116 : Mem) =>
      rt (s0_116 : Nat) m116
    ) fun (j116 : Nat → Mem → Option Rz) =>
    if x101 = 0 then (
      cal (f_X4_settled n x9 m33) fun x113 m113 =>
      j116 x113.toNat m113
    ) else
    j116 0 m33
  ) n 0 m28
set_option maxRecDepth 100000 in
set_option maxHeartbeats 4000000 in
theorem s_X4_written (l : Launch) (sc : g_S) (E : Mem → g_H) (R : Nat → Prop) (hE : LE E R) (hR : RYS R) (hsc : sc.1 = 0) (n : Nat)  (p1 : Int) (hp1 : inR p1) (mi : Mem) (r : Rz) (H : f_X4_written n p1 mi = some r) : AMet l sc yX4_written cX4_written 4 (some (FieldType.object "UppityGames$Game")) 4 4 125 [.ref 18, iv p1] (E mi) (pG E r) := by
  have r4 : R 4 := hR.1 4 (Nat.le_of_ble_eq_true rfl) (Nat.le_of_ble_eq_true rfl)
  have r18 : R 18 := hR.1 18 (Nat.le_of_ble_eq_true rfl) (Nat.le_of_ble_eq_true rfl)
  have r19 : R 19 := hR.1 19 (Nat.le_of_ble_eq_true rfl) (Nat.le_of_ble_eq_true rfl)
  have r20 : R 20 := hR.1 20 (Nat.le_of_ble_eq_true rfl) (Nat.le_of_ble_eq_true rfl)
  have r21 : R 21 := hR.1 21 (Nat.le_of_ble_eq_true rfl) (Nat.le_of_ble_eq_true rfl)
  have r22 : R 22 := hR.1 22 (Nat.le_of_ble_eq_true rfl) (Nat.le_of_ble_eq_true rfl)
  have r23 : R 23 := hR.1 23 (Nat.le_of_ble_eq_true rfl) (Nat.le_of_ble_eq_true rfl)
  unfold f_X4_written at H
  refine AMet.of (own := RX4) (by decide +kernel) rfl (Nat.le_of_ble_eq_true rfl) [(0, .ref 18), (1, iv p1)] rfl (fun D base ad => ?_)
  refine aw_aload_n (pc := 0) dX4_written_0 rfl ?_
  refine cx_gtC (pc := 1) 4 hE r18 fl_X4_40 rfl rfl (Nat.le_of_ble_eq_true rfl) dX4_written_1 ?_
  refine aw_iload_n (pc := 4) dX4_written_4 rfl ?_
  refine aw_aload_n (pc := 5) dX4_written_5 rfl ?_
  refine cx_gtC (pc := 6) 19 hE r18 fl_X4_9 rfl rfl (Nat.le_of_ble_eq_true rfl) dX4_written_6 ?_
  refine cx_callV (pc := 9) (P := pI) (dC := 2) (mcC := 0) (msC := 0) [iv p1, .ref 19] hE r4 (fun r1 H1 => s_X9_followers l sc E R hE hR n p1 19 hp1 r19 mi r1 H1) ca_X4_44 rfl ⟨_, rfl, rfl⟩ rfl rfl (Nat.le_of_ble_eq_true rfl) (Nat.le_of_ble_eq_true rfl) (Nat.le_of_ble_eq_true rfl) (Nat.le_of_ble_eq_true rfl) dX4_written_9 H (fun x9 m9 v9 hh9 H hp => ?_)
  refine cx_backI hp (fun hx9 => ?_)
  refine aw_istore_n (pc := 12) [(2, iv x9), (0, .ref 18), (1, iv p1)] dX4_written_12 rfl (by decide) ?_
  refine aw_iload_n (pc := 13) dX4_written_13 rfl ?_
  refine cx_iconst (pc := 14) dX4_written_14 ?_
  refine jn_ind (fun (f9 : Mem → Option Rz) => ∀ (m24 : Mem), f9 m24 = some r → AW l D base sc RX4 yX4_written cX4_written 4 (some (FieldType.object "UppityGames$Game")) 4 4 125 ad (E mi) (pG E r) 0 0 (E m24) 24 [] []) (fun m24 H => ?_) (fun j24 hj24 H => ?_) H
  · -- 24
    refine cx_null (pc := 24) dX4_written_24 ?_
    exact cx_aret (pc := 25) ⟨_, rfl, Or.inl ⟨_, rfl⟩⟩ (Nat.le_of_ble_eq_true rfl) (Nat.le_of_ble_eq_true rfl) dX4_written_25 H
  refine cx_icmp_lt (pc := 15) 24 hx9 (inR_lit _ rfl) dX4_written_15 rfl H (fun H => ?_) (fun H => ?_)
  · -- 15: 24
    exact AW.sel [] rfl (hj24 _ H)
  · -- 15: 18
    refine aw_iload_n (pc := 18) dX4_written_18 rfl ?_
    refine cx_bipush (pc := 19) dX4_written_19 (by decide) ?_
    refine cx_icmp_le (pc := 21) 26 hx9 (inR_lit _ rfl) dX4_written_21 rfl H (fun H => ?_) (fun H => ?_)
    · -- 21: 24
      exact AW.sel [] rfl (hj24 _ H)
    · -- 21: 26
      refine aw_aload_n (pc := 26) dX4_written_26 rfl ?_
      refine cx_iconst (pc := 27) dX4_written_27 ?_
      refine cx_ptZ (pc := 28) tyX4 hE r18 fl_X4_50 (fun r h => ⟨gty_X4 r h, by cases h; rfl⟩) rfl rfl rfl (Nat.le_of_ble_eq_true rfl) dX4_written_28 H (fun m28 H => ?_)
      refine cx_iconst (pc := 31) dX4_written_31 ?_
      refine aw_istore_n (pc := 32) [(3, iv 0), (2, iv x9), (0, .ref 18), (1, iv p1)] dX4_written_32 rfl (by decide) ?_
      refine AW.sel [2, 1, 0] rfl (lp_ind (bot := fun _ _ => none) (fun (f9 : Int → Mem → Option Rz) => ∀ (v3_33 : Int) (m33 : Mem), inR v3_33 → f9 v3_33 m33 = some r → AW l D base sc RX4 yX4_written cX4_written 4 (some (FieldType.object "UppityGames$Game")) 4 4 125 ad (E mi) (pG E r) 0 0 (E m33) 33 [(0, .ref 18), (2, iv x9), (3, iv v3_33)] []) (fun _ _ _ h9 => nomatch h9) (fun w33 ih33 v3_33 m33 hv3_33 H => ?_) n _ _ (inR_lit _ rfl) H)
      refine aw_iload_n (pc := 33) dX4_written_33 rfl ?_
      refine aw_iload_n (pc := 34) dX4_written_34 rfl ?_
      refine cx_icmp_ge (pc := 35) 100 hv3_33 hx9 dX4_written_35 rfl H (fun H => ?_) (fun H => ?_)
      · -- 35: 38
        refine aw_aload_n (pc := 38) dX4_written_38 rfl ?_
        refine cx_gtC (pc := 39) 20 hE r18 fl_X4_15 rfl rfl (Nat.le_of_ble_eq_true rfl) dX4_written_39 ?_
        refine aw_iload_n (pc := 42) dX4_written_42 rfl ?_
        refine aw_aload_n (pc := 43) dX4_written_43 rfl ?_
        refine aw_iload_n (pc := 44) dX4_written_44 rfl ?_
        refine cx_iconst (pc := 45) dX4_written_45 ?_
        refine cx_callV (pc := 46) (P := pI) (dC := 2) (mcC := 0) (msC := 0) [iv v3_33, iv 0] hE r18 (fun r1 H1 => s_X4_maskOf l sc E R hE hR n v3_33 0 hv3_33 (inR_lit _ rfl) m33 r1 H1) ca_X4_54 rfl ⟨_, rfl, rfl⟩ rfl rfl (Nat.le_of_ble_eq_true rfl) (Nat.le_of_ble_eq_true rfl) (Nat.le_of_ble_eq_true rfl) (Nat.le_of_ble_eq_true rfl) dX4_written_46 H (fun x46 m46 v46 hh46 H hp => ?_)
        refine cx_backI hp (fun hx46 => ?_)
        refine cx_stI (pc := 49) hE r20 hv3_33 dX4_written_49 H (fun m49 H => ?_)
        refine aw_aload_n (pc := 50) dX4_written_50 rfl ?_
        refine cx_gtC (pc := 51) 21 hE r18 fl_X4_18 rfl rfl (Nat.le_of_ble_eq_true rfl) dX4_written_51 ?_
        refine aw_iload_n (pc := 54) dX4_written_54 rfl ?_
        refine aw_aload_n (pc := 55) dX4_written_55 rfl ?_
        refine aw_iload_n (pc := 56) dX4_written_56 rfl ?_
        refine cx_iconst (pc := 57) dX4_written_57 ?_
        refine cx_callV (pc := 58) (P := pI) (dC := 2) (mcC := 0) (msC := 0) [iv v3_33, iv 1] hE r18 (fun r1 H1 => s_X4_maskOf l sc E R hE hR n v3_33 1 hv3_33 (inR_lit _ rfl) m49 r1 H1) ca_X4_54 rfl ⟨_, rfl, rfl⟩ rfl rfl (Nat.le_of_ble_eq_true rfl) (Nat.le_of_ble_eq_true rfl) (Nat.le_of_ble_eq_true rfl) (Nat.le_of_ble_eq_true rfl) dX4_written_58 H (fun x58 m58 v58 hh58 H hp => ?_)
        refine cx_backI hp (fun hx58 => ?_)
        refine cx_stI (pc := 61) hE r21 hv3_33 dX4_written_61 H (fun m61 H => ?_)
        refine aw_aload_n (pc := 62) dX4_written_62 rfl ?_
        refine cx_gtC (pc := 63) 22 hE r18 fl_X4_21 rfl rfl (Nat.le_of_ble_eq_true rfl) dX4_written_63 ?_
        refine aw_iload_n (pc := 66) dX4_written_66 rfl ?_
        refine aw_aload_n (pc := 67) dX4_written_67 rfl ?_
        refine aw_iload_n (pc := 68) dX4_written_68 rfl ?_
        refine cx_callV (pc := 69) (P := pI) (dC := 1) (mcC := 0) (msC := 0) [iv v3_33] hE r18 (fun r1 H1 => s_X4_dayOf l sc E R hE hR n v3_33 hv3_33 m61 r1 H1) ca_X4_58 rfl ⟨_, rfl, rfl⟩ rfl rfl (Nat.le_of_ble_eq_true rfl) (Nat.le_of_ble_eq_true rfl) (Nat.le_of_ble_eq_true rfl) (Nat.le_of_ble_eq_true rfl) dX4_written_69 H (fun x69 m69 v69 hh69 H hp => ?_)
        refine cx_backI hp (fun hx69 => ?_)
        refine cx_stI (pc := 72) hE r22 hv3_33 dX4_written_72 H (fun m72 H => ?_)
        refine aw_aload_n (pc := 73) dX4_written_73 rfl ?_
        refine cx_gtC (pc := 74) 23 hE r18 fl_X4_24 rfl rfl (Nat.le_of_ble_eq_true rfl) dX4_written_74 ?_
        refine aw_iload_n (pc := 77) dX4_written_77 rfl ?_
        refine aw_aload_n (pc := 78) dX4_written_78 rfl ?_
        refine aw_iload_n (pc := 79) dX4_written_79 rfl ?_
        refine cx_callV (pc := 80) (P := pI) (dC := 1) (mcC := 0) (msC := 0) [iv v3_33] hE r18 (fun r1 H1 => s_X4_heapOf l sc E R hE hR n v3_33 hv3_33 m72 r1 H1) ca_X4_62 rfl ⟨_, rfl, rfl⟩ rfl rfl (Nat.le_of_ble_eq_true rfl) (Nat.le_of_ble_eq_true rfl) (Nat.le_of_ble_eq_true rfl) (Nat.le_of_ble_eq_true rfl) dX4_written_80 H (fun x80 m80 v80 hh80 H hp => ?_)
        refine cx_backI hp (fun hx80 => ?_)
        refine cx_stI (pc := 83) hE r23 hv3_33 dX4_written_83 H (fun m83 H => ?_)
        refine aw_aload_n (pc := 84) dX4_written_84 rfl ?_
        refine aw_iload_n (pc := 85) dX4_written_85 rfl ?_
        refine cx_callV (pc := 86) (P := pV) (dC := 2) (mcC := 0) (msC := 0) [iv v3_33] hE r18 (fun r1 H1 => s_X4_spell l sc E R hE hR n v3_33 hv3_33 m83 r1 H1) ca_X4_65 rfl ⟨_, rfl, rfl⟩ rfl rfl (Nat.le_of_ble_eq_true rfl) (Nat.le_of_ble_eq_true rfl) (Nat.le_of_ble_eq_true rfl) (Nat.le_of_ble_eq_true rfl) dX4_written_86 H (fun x86 m86 v86 hh86 H hp => ?_)
        refine cx_backV hp ?_
        refine aw_aload_n (pc := 89) dX4_written_89 rfl ?_
        refine aw_iload_n (pc := 90) dX4_written_90 rfl ?_
        refine cx_callV (pc := 91) (P := pV) (dC := 1) (mcC := 0) (msC := 0) [iv v3_33] hE r18 (fun r1 H1 => s_X4_sortIn l sc E R hE hR n v3_33 hv3_33 m86 r1 H1) ca_X4_69 rfl ⟨_, rfl, rfl⟩ rfl rfl (Nat.le_of_ble_eq_true rfl) (Nat.le_of_ble_eq_true rfl) (Nat.le_of_ble_eq_true rfl) (Nat.le_of_ble_eq_true rfl) dX4_written_91 H (fun x91 m91 v91 hh91 H hp => ?_)
        refine cx_backV hp ?_
        refine cx_iinc (pc := 94) [(3, iv (w32 (v3_33 + 1))), (0, .ref 18), (2, iv x9)] dX4_written_94 rfl rfl (by decide) ?_
        refine aw_goto (pc := 97) 33 dX4_written_97 rfl ?_
        exact AW.sel [1, 2, 0] rfl (ih33 _ _ (inR_w32 _) H)
      · -- 35: 100
        refine aw_aload_n (pc := 100) dX4_written_100 rfl ?_
        refine cx_gtF (pc := 101) hE r18 fl_X4_50 rfl rfl (Nat.le_of_ble_eq_true rfl) dX4_written_101 H (fun x101 hx101 H => ?_)
        refine jn_ind (fun (f9 : Nat → Mem → Option Rz) => ∀ (s0_116 : Nat) (m116 : Mem), f9 s0_116 m116 = some r → AW l D base sc RX4 yX4_written cX4_written 4 (some (FieldType.object "UppityGames$Game")) 4 4 125 ad (E mi) (pG E r) 4 125 (E m116) 116 [] [rv s0_116]) (fun s0_116 m116 H => ?_) (fun j116 hj116 H => ?_) H
        · -- 116
          exact cx_aret (pc := 116) ⟨_, rfl, Or.inl ⟨_, rfl⟩⟩ (Nat.le_of_ble_eq_true rfl) (Nat.le_of_ble_eq_true rfl) dX4_written_116 H
        refine cx_if_eq (pc := 104) 111 hx101 dX4_written_104 rfl H (fun H => ?_) (fun H => ?_)
        · -- 104: 111
          refine aw_aload_n (pc := 111) dX4_written_111 rfl ?_
          refine aw_iload_n (pc := 112) dX4_written_112 rfl ?_
          refine cx_callV (pc := 113) (P := pG) (dC := 3) (mcC := 4) (msC := 125) [iv x9] hE r18 (fun r1 H1 => s_X4_settled l sc E R hE hR hsc n x9 hx9 m33 r1 H1) ca_X4_72 rfl ⟨_, rfl, rfl⟩ rfl rfl (Nat.le_of_ble_eq_true rfl) (Nat.le_of_ble_eq_true rfl) (Nat.le_of_ble_eq_true rfl) (Nat.le_of_ble_eq_true rfl) dX4_written_113 H (fun x113 m113 v113 hh113 H hp => ?_)
          refine cx_backG hp ?_
          exact AW.sel [] rfl (hj116 _ _ H)
        · -- 104: 107
          refine cx_null (pc := 107) dX4_written_107 ?_
          refine aw_goto (pc := 108) 116 dX4_written_108 rfl ?_
          refine AW.widen (k' := 4) (n' := 125) (Nat.le_of_ble_eq_true rfl) (Nat.le_of_ble_eq_true rfl) ?_
          exact AW.sel [] rfl (hj116 _ _ H)
theorem dX8_furthest_0 : decode cX8_furthest 0 = .ok (.iload_n 2, 1) := by decide +kernel
theorem dX8_furthest_1 : decode cX8_furthest 1 = .ok (.istore 4, 2) := by decide +kernel
theorem dX8_furthest_3 : decode cX8_furthest 3 = .ok (.iconst 0, 1) := by decide +kernel
theorem dX8_furthest_4 : decode cX8_furthest 4 = .ok (.istore 5, 2) := by decide +kernel
theorem dX8_furthest_6 : decode cX8_furthest 6 = .ok (.iload 5, 2) := by decide +kernel
theorem dX8_furthest_8 : decode cX8_furthest 8 = .ok (.bipush 64, 2) := by decide +kernel
theorem dX8_furthest_10 : decode cX8_furthest 10 = .ok (.if_icmp .ge 44, 3) := by decide +kernel
theorem dX8_furthest_13 : decode cX8_furthest 13 = .ok (.aload_n 0, 1) := by decide +kernel
theorem dX8_furthest_14 : decode cX8_furthest 14 = .ok (.getfield 18, 3) := by decide +kernel
theorem dX8_furthest_17 : decode cX8_furthest 17 = .ok (.iload 4, 2) := by decide +kernel
theorem dX8_furthest_19 : decode cX8_furthest 19 = .ok (.iload_n 3, 1) := by decide +kernel
theorem dX8_furthest_20 : decode cX8_furthest 20 = .ok (.invokevirtual 78, 3) := by decide +kernel
theorem dX8_furthest_23 : decode cX8_furthest 23 = .ok (.istore 6, 2) := by decide +kernel
theorem dX8_furthest_25 : decode cX8_furthest 25 = .ok (.iload 6, 2) := by decide +kernel
theorem dX8_furthest_27 : decode cX8_furthest 27 = .ok (.ifCond .lt 14, 3) := by decide +kernel
theorem dX8_furthest_30 : decode cX8_furthest 30 = .ok (.aload_n 0, 1) := by decide +kernel
theorem dX8_furthest_31 : decode cX8_furthest 31 = .ok (.iload_n 1, 1) := by decide +kernel
theorem dX8_furthest_32 : decode cX8_furthest 32 = .ok (.iload 6, 2) := by decide +kernel
theorem dX8_furthest_34 : decode cX8_furthest 34 = .ok (.iload_n 3, 1) := by decide +kernel
theorem dX8_furthest_35 : decode cX8_furthest 35 = .ok (.invokevirtual 82, 3) := by decide +kernel
theorem dX8_furthest_38 : decode cX8_furthest 38 = .ok (.ifCond .eq 6, 3) := by decide +kernel
theorem dX8_furthest_41 : decode cX8_furthest 41 = .ok (.iload 4, 2) := by decide +kernel
theorem dX8_furthest_43 : decode cX8_furthest 43 = .ok (.ireturn, 1) := by decide +kernel
theorem dX8_furthest_44 : decode cX8_furthest 44 = .ok (.iload 6, 2) := by decide +kernel
theorem dX8_furthest_46 : decode cX8_furthest 46 = .ok (.istore 4, 2) := by decide +kernel
theorem dX8_furthest_48 : decode cX8_furthest 48 = .ok (.iinc 5 1, 3) := by decide +kernel
theorem dX8_furthest_51 : decode cX8_furthest 51 = .ok (.goto (-45), 3) := by decide +kernel
theorem dX8_furthest_54 : decode cX8_furthest 54 = .ok (.iload 4, 2) := by decide +kernel
theorem dX8_furthest_56 : decode cX8_furthest 56 = .ok (.ireturn, 1) := by decide +kernel
theorem dX8_isBarred_0 : decode cX8_isBarred 0 = .ok (.iconst 0, 1) := by decide +kernel
theorem dX8_isBarred_1 : decode cX8_isBarred 1 = .ok (.istore 4, 2) := by decide +kernel
theorem dX8_isBarred_3 : decode cX8_isBarred 3 = .ok (.iload 4, 2) := by decide +kernel
theorem dX8_isBarred_5 : decode cX8_isBarred 5 = .ok (.bipush 10, 2) := by decide +kernel
theorem dX8_isBarred_7 : decode cX8_isBarred 7 = .ok (.if_icmp .ge 64, 3) := by decide +kernel
theorem dX8_isBarred_10 : decode cX8_isBarred 10 = .ok (.iload_n 1, 1) := by decide +kernel
theorem dX8_isBarred_11 : decode cX8_isBarred 11 = .ok (.iload 4, 2) := by decide +kernel
theorem dX8_isBarred_13 : decode cX8_isBarred 13 = .ok (.ishr, 1) := by decide +kernel
theorem dX8_isBarred_14 : decode cX8_isBarred 14 = .ok (.iconst 1, 1) := by decide +kernel
theorem dX8_isBarred_15 : decode cX8_isBarred 15 = .ok (.iand, 1) := by decide +kernel
theorem dX8_isBarred_16 : decode cX8_isBarred 16 = .ok (.ifCond .eq 49, 3) := by decide +kernel
theorem dX8_isBarred_19 : decode cX8_isBarred 19 = .ok (.iload_n 3, 1) := by decide +kernel
theorem dX8_isBarred_20 : decode cX8_isBarred 20 = .ok (.ifCond .eq 21, 3) := by decide +kernel
theorem dX8_isBarred_23 : decode cX8_isBarred 23 = .ok (.aload_n 0, 1) := by decide +kernel
theorem dX8_isBarred_24 : decode cX8_isBarred 24 = .ok (.getfield 18, 3) := by decide +kernel
theorem dX8_isBarred_27 : decode cX8_isBarred 27 = .ok (.aload_n 0, 1) := by decide +kernel
theorem dX8_isBarred_28 : decode cX8_isBarred 28 = .ok (.getfield 15, 3) := by decide +kernel
theorem dX8_isBarred_31 : decode cX8_isBarred 31 = .ok (.iload 4, 2) := by decide +kernel
theorem dX8_isBarred_33 : decode cX8_isBarred 33 = .ok (.iaload, 1) := by decide +kernel
theorem dX8_isBarred_34 : decode cX8_isBarred 34 = .ok (.iload_n 2, 1) := by decide +kernel
theorem dX8_isBarred_35 : decode cX8_isBarred 35 = .ok (.invokevirtual 86, 3) := by decide +kernel
theorem dX8_isBarred_38 : decode cX8_isBarred 38 = .ok (.goto 18, 3) := by decide +kernel
theorem dX8_isBarred_41 : decode cX8_isBarred 41 = .ok (.aload_n 0, 1) := by decide +kernel
theorem dX8_isBarred_42 : decode cX8_isBarred 42 = .ok (.getfield 18, 3) := by decide +kernel
theorem dX8_isBarred_45 : decode cX8_isBarred 45 = .ok (.iload_n 2, 1) := by decide +kernel
theorem dX8_isBarred_46 : decode cX8_isBarred 46 = .ok (.aload_n 0, 1) := by decide +kernel
theorem dX8_isBarred_47 : decode cX8_isBarred 47 = .ok (.getfield 9, 3) := by decide +kernel
theorem dX8_isBarred_50 : decode cX8_isBarred 50 = .ok (.iload 4, 2) := by decide +kernel
theorem dX8_isBarred_52 : decode cX8_isBarred 52 = .ok (.iaload, 1) := by decide +kernel
theorem dX8_isBarred_53 : decode cX8_isBarred 53 = .ok (.invokevirtual 86, 3) := by decide +kernel
theorem dX8_isBarred_56 : decode cX8_isBarred 56 = .ok (.istore 5, 2) := by decide +kernel
theorem dX8_isBarred_58 : decode cX8_isBarred 58 = .ok (.iload 5, 2) := by decide +kernel
theorem dX8_isBarred_60 : decode cX8_isBarred 60 = .ok (.ifCond .eq 5, 3) := by decide +kernel
theorem dX8_isBarred_63 : decode cX8_isBarred 63 = .ok (.iconst 1, 1) := by decide +kernel
theorem dX8_isBarred_64 : decode cX8_isBarred 64 = .ok (.ireturn, 1) := by decide +kernel
theorem dX8_isBarred_65 : decode cX8_isBarred 65 = .ok (.iinc 4 1, 3) := by decide +kernel
theorem dX8_isBarred_68 : decode cX8_isBarred 68 = .ok (.goto (-65), 3) := by decide +kernel
theorem dX8_isBarred_71 : decode cX8_isBarred 71 = .ok (.iconst 0, 1) := by decide +kernel
theorem dX8_isBarred_72 : decode cX8_isBarred 72 = .ok (.ireturn, 1) := by decide +kernel
theorem dX8_weigh_0 : decode cX8_weigh 0 = .ok (.aload_n 0, 1) := by decide +kernel
theorem dX8_weigh_1 : decode cX8_weigh 1 = .ok (.getfield 22, 3) := by decide +kernel
theorem dX8_weigh_4 : decode cX8_weigh 4 = .ok (.aload_n 1, 1) := by decide +kernel
theorem dX8_weigh_5 : decode cX8_weigh 5 = .ok (.aload_n 0, 1) := by decide +kernel
theorem dX8_weigh_6 : decode cX8_weigh 6 = .ok (.getfield 26, 3) := by decide +kernel
theorem dX8_weigh_9 : decode cX8_weigh 9 = .ok (.iconst 1, 1) := by decide +kernel
theorem dX8_weigh_10 : decode cX8_weigh 10 = .ok (.invokevirtual 30, 3) := by decide +kernel
theorem dX8_weigh_13 : decode cX8_weigh 13 = .ok (.aload_n 0, 1) := by decide +kernel
theorem dX8_weigh_14 : decode cX8_weigh 14 = .ok (.getfield 18, 3) := by decide +kernel
theorem dX8_weigh_17 : decode cX8_weigh 17 = .ok (.invokevirtual 36, 3) := by decide +kernel
theorem dX8_weigh_20 : decode cX8_weigh 20 = .ok (.iconst 0, 1) := by decide +kernel
theorem dX8_weigh_21 : decode cX8_weigh 21 = .ok (.istore_n 2, 1) := by decide +kernel
theorem dX8_weigh_22 : decode cX8_weigh 22 = .ok (.iconst 0, 1) := by decide +kernel
theorem dX8_weigh_23 : decode cX8_weigh 23 = .ok (.istore_n 3, 1) := by decide +kernel
theorem dX8_weigh_24 : decode cX8_weigh 24 = .ok (.iload_n 3, 1) := by decide +kernel
theorem dX8_weigh_25 : decode cX8_weigh 25 = .ok (.aload_n 1, 1) := by decide +kernel
theorem dX8_weigh_26 : decode cX8_weigh 26 = .ok (.invokevirtual 41, 3) := by decide +kernel
theorem dX8_weigh_29 : decode cX8_weigh 29 = .ok (.if_icmp .ge 230, 3) := by decide +kernel
theorem dX8_weigh_32 : decode cX8_weigh 32 = .ok (.iload_n 3, 1) := by decide +kernel
theorem dX8_weigh_33 : decode cX8_weigh 33 = .ok (.bipush 10, 2) := by decide +kernel
theorem dX8_weigh_35 : decode cX8_weigh 35 = .ok (.if_icmp .ge 224, 3) := by decide +kernel
theorem dX8_weigh_38 : decode cX8_weigh 38 = .ok (.aload_n 0, 1) := by decide +kernel
theorem dX8_weigh_39 : decode cX8_weigh 39 = .ok (.getfield 18, 3) := by decide +kernel
theorem dX8_weigh_42 : decode cX8_weigh 42 = .ok (.invokevirtual 47, 3) := by decide +kernel
theorem dX8_weigh_45 : decode cX8_weigh 45 = .ok (.iconst 0, 1) := by decide +kernel
theorem dX8_weigh_46 : decode cX8_weigh 46 = .ok (.istore 4, 2) := by decide +kernel
theorem dX8_weigh_48 : decode cX8_weigh 48 = .ok (.iload 4, 2) := by decide +kernel
theorem dX8_weigh_50 : decode cX8_weigh 50 = .ok (.iload_n 3, 1) := by decide +kernel
theorem dX8_weigh_51 : decode cX8_weigh 51 = .ok (.if_icmp .ge 65, 3) := by decide +kernel
theorem dX8_weigh_54 : decode cX8_weigh 54 = .ok (.aload_n 1, 1) := by decide +kernel
theorem dX8_weigh_55 : decode cX8_weigh 55 = .ok (.iload_n 3, 1) := by decide +kernel
theorem dX8_weigh_56 : decode cX8_weigh 56 = .ok (.iconst 0, 1) := by decide +kernel
theorem dX8_weigh_57 : decode cX8_weigh 57 = .ok (.invokevirtual 50, 3) := by decide +kernel
theorem dX8_weigh_60 : decode cX8_weigh 60 = .ok (.iload 4, 2) := by decide +kernel
theorem dX8_weigh_62 : decode cX8_weigh 62 = .ok (.ishr, 1) := by decide +kernel
theorem dX8_weigh_63 : decode cX8_weigh 63 = .ok (.iconst 1, 1) := by decide +kernel
theorem dX8_weigh_64 : decode cX8_weigh 64 = .ok (.iand, 1) := by decide +kernel
theorem dX8_weigh_65 : decode cX8_weigh 65 = .ok (.ifCond .eq 17, 3) := by decide +kernel
theorem dX8_weigh_68 : decode cX8_weigh 68 = .ok (.aload_n 0, 1) := by decide +kernel
theorem dX8_weigh_69 : decode cX8_weigh 69 = .ok (.getfield 18, 3) := by decide +kernel
theorem dX8_weigh_72 : decode cX8_weigh 72 = .ok (.aload_n 0, 1) := by decide +kernel
theorem dX8_weigh_73 : decode cX8_weigh 73 = .ok (.getfield 9, 3) := by decide +kernel
theorem dX8_weigh_76 : decode cX8_weigh 76 = .ok (.iload 4, 2) := by decide +kernel
theorem dX8_weigh_78 : decode cX8_weigh 78 = .ok (.iaload, 1) := by decide +kernel
theorem dX8_weigh_79 : decode cX8_weigh 79 = .ok (.invokevirtual 54, 3) := by decide +kernel
theorem dX8_weigh_82 : decode cX8_weigh 82 = .ok (.aload_n 1, 1) := by decide +kernel
theorem dX8_weigh_83 : decode cX8_weigh 83 = .ok (.iload_n 3, 1) := by decide +kernel
theorem dX8_weigh_84 : decode cX8_weigh 84 = .ok (.iconst 1, 1) := by decide +kernel
theorem dX8_weigh_85 : decode cX8_weigh 85 = .ok (.invokevirtual 50, 3) := by decide +kernel
theorem dX8_weigh_88 : decode cX8_weigh 88 = .ok (.iload 4, 2) := by decide +kernel
theorem dX8_weigh_90 : decode cX8_weigh 90 = .ok (.ishr, 1) := by decide +kernel
theorem dX8_weigh_91 : decode cX8_weigh 91 = .ok (.iconst 1, 1) := by decide +kernel
theorem dX8_weigh_92 : decode cX8_weigh 92 = .ok (.iand, 1) := by decide +kernel
theorem dX8_weigh_93 : decode cX8_weigh 93 = .ok (.ifCond .eq 17, 3) := by decide +kernel
theorem dX8_weigh_96 : decode cX8_weigh 96 = .ok (.aload_n 0, 1) := by decide +kernel
theorem dX8_weigh_97 : decode cX8_weigh 97 = .ok (.getfield 18, 3) := by decide +kernel
theorem dX8_weigh_100 : decode cX8_weigh 100 = .ok (.aload_n 0, 1) := by decide +kernel
theorem dX8_weigh_101 : decode cX8_weigh 101 = .ok (.getfield 15, 3) := by decide +kernel
theorem dX8_weigh_104 : decode cX8_weigh 104 = .ok (.iload 4, 2) := by decide +kernel
theorem dX8_weigh_106 : decode cX8_weigh 106 = .ok (.iaload, 1) := by decide +kernel
theorem dX8_weigh_107 : decode cX8_weigh 107 = .ok (.invokevirtual 58, 3) := by decide +kernel
theorem dX8_weigh_110 : decode cX8_weigh 110 = .ok (.iinc 4 1, 3) := by decide +kernel
theorem dX8_weigh_113 : decode cX8_weigh 113 = .ok (.goto (-65), 3) := by decide +kernel
theorem dX8_weigh_116 : decode cX8_weigh 116 = .ok (.aload_n 0, 1) := by decide +kernel
theorem dX8_weigh_117 : decode cX8_weigh 117 = .ok (.getfield 18, 3) := by decide +kernel
theorem dX8_weigh_120 : decode cX8_weigh 120 = .ok (.invokevirtual 61, 3) := by decide +kernel
theorem dX8_weigh_123 : decode cX8_weigh 123 = .ok (.istore_n 2, 1) := by decide +kernel
theorem dX8_weigh_124 : decode cX8_weigh 124 = .ok (.iload_n 3, 1) := by decide +kernel
theorem dX8_weigh_125 : decode cX8_weigh 125 = .ok (.ifCond .le 82, 3) := by decide +kernel
theorem dX8_weigh_128 : decode cX8_weigh 128 = .ok (.aload_n 0, 1) := by decide +kernel
theorem dX8_weigh_129 : decode cX8_weigh 129 = .ok (.getfield 18, 3) := by decide +kernel
theorem dX8_weigh_132 : decode cX8_weigh 132 = .ok (.iload_n 2, 1) := by decide +kernel
theorem dX8_weigh_133 : decode cX8_weigh 133 = .ok (.invokevirtual 64, 3) := by decide +kernel
theorem dX8_weigh_136 : decode cX8_weigh 136 = .ok (.ifCond .eq 71, 3) := by decide +kernel
theorem dX8_weigh_139 : decode cX8_weigh 139 = .ok (.aload_n 0, 1) := by decide +kernel
theorem dX8_weigh_140 : decode cX8_weigh 140 = .ok (.getfield 22, 3) := by decide +kernel
theorem dX8_weigh_143 : decode cX8_weigh 143 = .ok (.iload_n 3, 1) := by decide +kernel
theorem dX8_weigh_144 : decode cX8_weigh 144 = .ok (.aload_n 0, 1) := by decide +kernel
theorem dX8_weigh_145 : decode cX8_weigh 145 = .ok (.getfield 26, 3) := by decide +kernel
theorem dX8_weigh_148 : decode cX8_weigh 148 = .ok (.invokevirtual 68, 3) := by decide +kernel
theorem dX8_weigh_151 : decode cX8_weigh 151 = .ok (.invokevirtual 71, 3) := by decide +kernel
theorem dX8_weigh_154 : decode cX8_weigh 154 = .ok (.istore 4, 2) := by decide +kernel
theorem dX8_weigh_156 : decode cX8_weigh 156 = .ok (.iload 4, 2) := by decide +kernel
theorem dX8_weigh_158 : decode cX8_weigh 158 = .ok (.iconst 1, 1) := by decide +kernel
theorem dX8_weigh_159 : decode cX8_weigh 159 = .ok (.if_icmp .ne 7, 3) := by decide +kernel
theorem dX8_weigh_162 : decode cX8_weigh 162 = .ok (.iconst 1, 1) := by decide +kernel
theorem dX8_weigh_163 : decode cX8_weigh 163 = .ok (.goto 4, 3) := by decide +kernel
theorem dX8_weigh_166 : decode cX8_weigh 166 = .ok (.iconst 0, 1) := by decide +kernel
theorem dX8_weigh_167 : decode cX8_weigh 167 = .ok (.istore 5, 2) := by decide +kernel
theorem dX8_weigh_169 : decode cX8_weigh 169 = .ok (.iload 5, 2) := by decide +kernel
theorem dX8_weigh_171 : decode cX8_weigh 171 = .ok (.ifCond .ne 9, 3) := by decide +kernel
theorem dX8_weigh_174 : decode cX8_weigh 174 = .ok (.iload 4, 2) := by decide +kernel
theorem dX8_weigh_176 : decode cX8_weigh 176 = .ok (.iconst (-1), 1) := by decide +kernel
theorem dX8_weigh_177 : decode cX8_weigh 177 = .ok (.if_icmp .ne 28, 3) := by decide +kernel
theorem dX8_weigh_180 : decode cX8_weigh 180 = .ok (.aload_n 0, 1) := by decide +kernel
theorem dX8_weigh_181 : decode cX8_weigh 181 = .ok (.aload_n 1, 1) := by decide +kernel
theorem dX8_weigh_182 : decode cX8_weigh 182 = .ok (.iload_n 3, 1) := by decide +kernel
theorem dX8_weigh_183 : decode cX8_weigh 183 = .ok (.iload 5, 2) := by decide +kernel
theorem dX8_weigh_185 : decode cX8_weigh 185 = .ok (.ifCond .eq 7, 3) := by decide +kernel
theorem dX8_weigh_188 : decode cX8_weigh 188 = .ok (.iconst 1, 1) := by decide +kernel
theorem dX8_weigh_189 : decode cX8_weigh 189 = .ok (.goto 4, 3) := by decide +kernel
theorem dX8_weigh_192 : decode cX8_weigh 192 = .ok (.iconst 0, 1) := by decide +kernel
theorem dX8_weigh_193 : decode cX8_weigh 193 = .ok (.invokevirtual 50, 3) := by decide +kernel
theorem dX8_weigh_196 : decode cX8_weigh 196 = .ok (.iload_n 2, 1) := by decide +kernel
theorem dX8_weigh_197 : decode cX8_weigh 197 = .ok (.iload 5, 2) := by decide +kernel
theorem dX8_weigh_199 : decode cX8_weigh 199 = .ok (.invokevirtual 74, 3) := by decide +kernel
theorem dX8_weigh_202 : decode cX8_weigh 202 = .ok (.goto 4, 3) := by decide +kernel
theorem dX8_weigh_205 : decode cX8_weigh 205 = .ok (.iconst 0, 1) := by decide +kernel
theorem dX8_weigh_206 : decode cX8_weigh 206 = .ok (.istore_n 2, 1) := by decide +kernel
theorem dX8_weigh_207 : decode cX8_weigh 207 = .ok (.aload_n 0, 1) := by decide +kernel
theorem dX8_weigh_208 : decode cX8_weigh 208 = .ok (.getfield 9, 3) := by decide +kernel
theorem dX8_weigh_211 : decode cX8_weigh 211 = .ok (.iload_n 3, 1) := by decide +kernel
theorem dX8_weigh_212 : decode cX8_weigh 212 = .ok (.aload_n 0, 1) := by decide +kernel
theorem dX8_weigh_213 : decode cX8_weigh 213 = .ok (.getfield 18, 3) := by decide +kernel
theorem dX8_weigh_216 : decode cX8_weigh 216 = .ok (.aload_n 0, 1) := by decide +kernel
theorem dX8_weigh_217 : decode cX8_weigh 217 = .ok (.getfield 18, 3) := by decide +kernel
theorem dX8_weigh_220 : decode cX8_weigh 220 = .ok (.iload_n 2, 1) := by decide +kernel
theorem dX8_weigh_221 : decode cX8_weigh 221 = .ok (.iconst 0, 1) := by decide +kernel
theorem dX8_weigh_222 : decode cX8_weigh 222 = .ok (.invokevirtual 78, 3) := by decide +kernel
theorem dX8_weigh_225 : decode cX8_weigh 225 = .ok (.iconst 0, 1) := by decide +kernel
theorem dX8_weigh_226 : decode cX8_weigh 226 = .ok (.invokevirtual 78, 3) := by decide +kernel
theorem dX8_weigh_229 : decode cX8_weigh 229 = .ok (.iastore, 1) := by decide +kernel
theorem dX8_weigh_230 : decode cX8_weigh 230 = .ok (.aload_n 0, 1) := by decide +kernel
theorem dX8_weigh_231 : decode cX8_weigh 231 = .ok (.getfield 15, 3) := by decide +kernel
theorem dX8_weigh_234 : decode cX8_weigh 234 = .ok (.iload_n 3, 1) := by decide +kernel
theorem dX8_weigh_235 : decode cX8_weigh 235 = .ok (.aload_n 0, 1) := by decide +kernel
theorem dX8_weigh_236 : decode cX8_weigh 236 = .ok (.getfield 18, 3) := by decide +kernel
theorem dX8_weigh_239 : decode cX8_weigh 239 = .ok (.aload_n 0, 1) := by decide +kernel
theorem dX8_weigh_240 : decode cX8_weigh 240 = .ok (.getfield 18, 3) := by decide +kernel
theorem dX8_weigh_243 : decode cX8_weigh 243 = .ok (.iload_n 2, 1) := by decide +kernel
theorem dX8_weigh_244 : decode cX8_weigh 244 = .ok (.iconst 1, 1) := by decide +kernel
theorem dX8_weigh_245 : decode cX8_weigh 245 = .ok (.invokevirtual 78, 3) := by decide +kernel
theorem dX8_weigh_248 : decode cX8_weigh 248 = .ok (.iconst 1, 1) := by decide +kernel
theorem dX8_weigh_249 : decode cX8_weigh 249 = .ok (.invokevirtual 78, 3) := by decide +kernel
theorem dX8_weigh_252 : decode cX8_weigh 252 = .ok (.iastore, 1) := by decide +kernel
theorem dX8_weigh_253 : decode cX8_weigh 253 = .ok (.iinc 3 1, 3) := by decide +kernel
theorem dX8_weigh_256 : decode cX8_weigh 256 = .ok (.goto (-232), 3) := by decide +kernel
theorem dX8_weigh_259 : decode cX8_weigh 259 = .ok (.iload_n 2, 1) := by decide +kernel
theorem dX8_weigh_260 : decode cX8_weigh 260 = .ok (.ireturn, 1) := by decide +kernel
/-- X8 isBarred (IIZ)Z -/
def f_X8_isBarred (n : Nat) (p1 : Int) (p2 : Int) (p3 : Int) (mi : Mem) : Option Rz :=
  lp (F := Int → Mem → Option Rz) (fun _ _ => none) (fun w3 v4_3 m3 =>
    if v4_3 < 10 then (
      jn (fun (m65 : Mem) =>
        w3 (w32 (v4_3 + 1)) m65
      ) fun (j65 : Mem → Option Rz) =>
      if iand (ishr p1 v4_3) 1 = 0 then (
        j65 m3
      ) else
      jn (fun (s0_56 : Int) (m56 : Mem) =>
        if s0_56 = 0 then (
          j65 m56
        ) else
        rtZ 1 m56
      ) fun (j56 : Int → Mem → Option Rz) =>
      if p3 = 0 then (
        ldI m3 37 v4_3 fun x52 =>
        cal (f_X9_isAtMost n p2 x52 m3) fun x53 m53 =>
        j56 x53 m53
      ) else
      ldI m3 38 v4_3 fun x33 =>
      cal (f_X9_isAtMost n x33 p2 m3) fun x35 m35 =>
      j56 x35 m35
    ) else
    rtZ 0 m3
  ) n 0 mi
set_option maxRecDepth 100000 in
set_option maxHeartbeats 4000000 in
theorem s_X8_isBarred (l : Launch) (sc : g_S) (E : Mem → g_H) (R : Nat → Prop) (hE : LE E R) (hR : RCL R) (n : Nat)  (p1 : Int) (p2 : Int) (p3 : Int) (hp1 : inR p1) (hp2 : inR p2) (hp3 : inR p3) (mi : Mem) (r : Rz) (H : f_X8_isBarred n p1 p2 p3 mi = some r) : AMet l sc yX8_isBarred cX8_isBarred 6 (some FieldType.boolean) 2 0 0 [.ref 36, iv p1, iv p2, iv p3] (E mi) (pI E r) := by
  have r4 : R 4 := hR.1 4 (Nat.le_of_ble_eq_true rfl) (Nat.le_of_ble_eq_true rfl)
  have r36 : R 36 := hR.1 36 (Nat.le_of_ble_eq_true rfl) (Nat.le_of_ble_eq_true rfl)
  have r37 : R 37 := hR.1 37 (Nat.le_of_ble_eq_true rfl) (Nat.le_of_ble_eq_true rfl)
  have r38 : R 38 := hR.1 38 (Nat.le_of_ble_eq_true rfl) (Nat.le_of_ble_eq_true rfl)
  unfold f_X8_isBarred at H
  refine AMet.of (own := RX8) (by decide +kernel) rfl (Nat.le_of_ble_eq_true rfl) [(0, .ref 36), (1, iv p1), (2, iv p2), (3, iv p3)] rfl (fun D base ad => ?_)
  refine cx_iconst (pc := 0) dX8_isBarred_0 ?_
  refine aw_istore (pc := 1) [(4, iv 0), (0, .ref 36), (1, iv p1), (2, iv p2), (3, iv p3)] dX8_isBarred_1 rfl (by decide) ?_
  refine AW.sel [1, 2, 3, 4, 0] rfl (lp_ind (bot := fun _ _ => none) (fun (f9 : Int → Mem → Option Rz) => ∀ (v4_3 : Int) (m3 : Mem), inR v4_3 → f9 v4_3 m3 = some r → AW l D base sc RX8 yX8_isBarred cX8_isBarred 6 (some FieldType.boolean) 2 0 0 ad (E mi) (pI E r) 0 0 (E m3) 3 [(0, .ref 36), (1, iv p1), (2, iv p2), (3, iv p3), (4, iv v4_3)] []) (fun _ _ _ h9 => nomatch h9) (fun w3 ih3 v4_3 m3 hv4_3 H => ?_) n _ _ (inR_lit _ rfl) H)
  refine aw_iload (pc := 3) dX8_isBarred_3 rfl ?_
  refine cx_bipush (pc := 5) dX8_isBarred_5 (by decide) ?_
  refine cx_icmp_ge (pc := 7) 71 hv4_3 (inR_lit _ rfl) dX8_isBarred_7 rfl H (fun H => ?_) (fun H => ?_)
  · -- 7: 10
    refine aw_iload_n (pc := 10) dX8_isBarred_10 rfl ?_
    refine aw_iload (pc := 11) dX8_isBarred_11 rfl ?_
    refine cx_ishr (pc := 13) dX8_isBarred_13 ?_
    refine cx_iconst (pc := 14) dX8_isBarred_14 ?_
    refine cx_iand (pc := 15) dX8_isBarred_15 ?_
    refine jn_ind (fun (f9 : Mem → Option Rz) => ∀ (m65 : Mem), f9 m65 = some r → AW l D base sc RX8 yX8_isBarred cX8_isBarred 6 (some FieldType.boolean) 2 0 0 ad (E mi) (pI E r) 0 0 (E m65) 65 [(0, .ref 36), (1, iv p1), (2, iv p2), (3, iv p3), (4, iv v4_3)] []) (fun m65 H => ?_) (fun j65 hj65 H => ?_) H
    · -- 65
      refine cx_iinc (pc := 65) [(4, iv (w32 (v4_3 + 1))), (0, .ref 36), (1, iv p1), (2, iv p2), (3, iv p3)] dX8_isBarred_65 rfl rfl (by decide) ?_
      refine aw_goto (pc := 68) 3 dX8_isBarred_68 rfl ?_
      exact AW.sel [1, 2, 3, 4, 0] rfl (ih3 _ _ (inR_w32 _) H)
    refine cx_if_eq (pc := 16) 65 (inR_32 _) dX8_isBarred_16 rfl H (fun H => ?_) (fun H => ?_)
    · -- 16: 65
      exact AW.sel [0, 1, 2, 3, 4] rfl (hj65 _ H)
    · -- 16: 19
      refine aw_iload_n (pc := 19) dX8_isBarred_19 rfl ?_
      refine jn_ind (fun (f9 : Int → Mem → Option Rz) => ∀ (s0_56 : Int) (m56 : Mem), inR s0_56 → f9 s0_56 m56 = some r → AW l D base sc RX8 yX8_isBarred cX8_isBarred 6 (some FieldType.boolean) 2 0 0 ad (E mi) (pI E r) 0 0 (E m56) 56 [(0, .ref 36), (1, iv p1), (2, iv p2), (3, iv p3), (4, iv v4_3)] [iv s0_56]) (fun s0_56 m56 hs0_56 H => ?_) (fun j56 hj56 H => ?_) H
      · -- 56
        refine aw_istore (pc := 56) [(5, iv s0_56), (0, .ref 36), (1, iv p1), (2, iv p2), (3, iv p3), (4, iv v4_3)] dX8_isBarred_56 rfl (by decide) ?_
        refine aw_iload (pc := 58) dX8_isBarred_58 rfl ?_
        refine cx_if_eq (pc := 60) 65 hs0_56 dX8_isBarred_60 rfl H (fun H => ?_) (fun H => ?_)
        · -- 60: 65
          exact AW.sel [1, 2, 3, 4, 5] rfl (hj65 _ H)
        · -- 60: 63
          refine cx_iconst (pc := 63) dX8_isBarred_63 ?_
          exact cx_zret (pc := 64) rfl (Nat.le_of_ble_eq_true rfl) (Nat.le_of_ble_eq_true rfl) dX8_isBarred_64 H
      refine cx_if_eq (pc := 20) 41 hp3 dX8_isBarred_20 rfl H (fun H => ?_) (fun H => ?_)
      · -- 20: 41
        refine aw_aload_n (pc := 41) dX8_isBarred_41 rfl ?_
        refine cx_gtC (pc := 42) 4 hE r36 fl_X8_18 rfl rfl (Nat.le_of_ble_eq_true rfl) dX8_isBarred_42 ?_
        refine aw_iload_n (pc := 45) dX8_isBarred_45 rfl ?_
        refine aw_aload_n (pc := 46) dX8_isBarred_46 rfl ?_
        refine cx_gtC (pc := 47) 37 hE r36 fl_X8_9 rfl rfl (Nat.le_of_ble_eq_true rfl) dX8_isBarred_47 ?_
        refine aw_iload (pc := 50) dX8_isBarred_50 rfl ?_
        refine cx_ldI (pc := 52) hE r37 hv4_3 dX8_isBarred_52 H (fun x52 hx52 H => ?_)
        refine cx_callV (pc := 53) (P := pI) (dC := 1) (mcC := 0) (msC := 0) [iv p2, iv x52] hE r4 (fun r1 H1 => s_X9_isAtMost l sc E R hE hR.ys n p2 x52 hp2 hx52 m3 r1 H1) ca_X8_86 rfl ⟨_, rfl, rfl⟩ rfl rfl (Nat.le_of_ble_eq_true rfl) (Nat.le_of_ble_eq_true rfl) (Nat.le_of_ble_eq_true rfl) (Nat.le_of_ble_eq_true rfl) dX8_isBarred_53 H (fun x53 m53 v53 hh53 H hp => ?_)
        refine cx_backI hp (fun hx53 => ?_)
        exact AW.sel [0, 1, 2, 3, 4] rfl (hj56 _ _ hx53 H)
      · -- 20: 23
        refine aw_aload_n (pc := 23) dX8_isBarred_23 rfl ?_
        refine cx_gtC (pc := 24) 4 hE r36 fl_X8_18 rfl rfl (Nat.le_of_ble_eq_true rfl) dX8_isBarred_24 ?_
        refine aw_aload_n (pc := 27) dX8_isBarred_27 rfl ?_
        refine cx_gtC (pc := 28) 38 hE r36 fl_X8_15 rfl rfl (Nat.le_of_ble_eq_true rfl) dX8_isBarred_28 ?_
        refine aw_iload (pc := 31) dX8_isBarred_31 rfl ?_
        refine cx_ldI (pc := 33) hE r38 hv4_3 dX8_isBarred_33 H (fun x33 hx33 H => ?_)
        refine aw_iload_n (pc := 34) dX8_isBarred_34 rfl ?_
        refine cx_callV (pc := 35) (P := pI) (dC := 1) (mcC := 0) (msC := 0) [iv x33, iv p2] hE r4 (fun r1 H1 => s_X9_isAtMost l sc E R hE hR.ys n x33 p2 hx33 hp2 m3 r1 H1) ca_X8_86 rfl ⟨_, rfl, rfl⟩ rfl rfl (Nat.le_of_ble_eq_true rfl) (Nat.le_of_ble_eq_true rfl) (Nat.le_of_ble_eq_true rfl) (Nat.le_of_ble_eq_true rfl) dX8_isBarred_35 H (fun x35 m35 v35 hh35 H hp => ?_)
        refine cx_backI hp (fun hx35 => ?_)
        refine aw_goto (pc := 38) 56 dX8_isBarred_38 rfl ?_
        exact AW.sel [0, 1, 2, 3, 4] rfl (hj56 _ _ hx35 H)
  · -- 7: 71
    refine cx_iconst (pc := 71) dX8_isBarred_71 ?_
    exact cx_zret (pc := 72) rfl (Nat.le_of_ble_eq_true rfl) (Nat.le_of_ble_eq_true rfl) dX8_isBarred_72 H
/-- X8 furthest (IIZ)I -/
def f_X8_furthest (n : Nat) (p1 : Int) (p2 : Int) (p3 : Int) (mi : Mem) : Option Rz :=
  lp (F := Int → Int → Mem → Option Rz) (fun _ _ _ => none) (fun w6 v4_6 v5_6 m6 =>
    if v5_6 < 64 then (
      cal (f_X9_shifted n v4_6 p3 m6) fun x20 m20 =>
      jn (fun (m41 : Mem) =>
        rt v4_6 m41
      ) fun (j41 : Mem → Option Rz) =>
      if x20 < 0 then (
        j41 m20
      ) else
      cal (f_X8_isBarred n p1 x20 p3 m20) fun x35 m35 =>
      if x35 = 0 then (
        w6 x20 (w32 (v5_6 + 1)) m35
      ) else
      j41 m35
    ) else
    rt v4_6 m6
  ) n p2 0 mi
set_option maxRecDepth 100000 in
set_option maxHeartbeats 4000000 in
theorem s_X8_furthest (l : Launch) (sc : g_S) (E : Mem → g_H) (R : Nat → Prop) (hE : LE E R) (hR : RCL R) (n : Nat)  (p1 : Int) (p2 : Int) (p3 : Int) (hp1 : inR p1) (hp2 : inR p2) (hp3 : inR p3) (mi : Mem) (r : Rz) (H : f_X8_furthest n p1 p2 p3 mi = some r) : AMet l sc yX8_furthest cX8_furthest 7 (some FieldType.int) 4 0 0 [.ref 36, iv p1, iv p2, iv p3] (E mi) (pI E r) := by
  have r4 : R 4 := hR.1 4 (Nat.le_of_ble_eq_true rfl) (Nat.le_of_ble_eq_true rfl)
  have r36 : R 36 := hR.1 36 (Nat.le_of_ble_eq_true rfl) (Nat.le_of_ble_eq_true rfl)
  unfold f_X8_furthest at H
  refine AMet.of (own := RX8) (by decide +kernel) rfl (Nat.le_of_ble_eq_true rfl) [(0, .ref 36), (1, iv p1), (2, iv p2), (3, iv p3)] rfl (fun D base ad => ?_)
  refine aw_iload_n (pc := 0) dX8_furthest_0 rfl ?_
  refine aw_istore (pc := 1) [(4, iv p2), (0, .ref 36), (1, iv p1), (2, iv p2), (3, iv p3)] dX8_furthest_1 rfl (by decide) ?_
  refine cx_iconst (pc := 3) dX8_furthest_3 ?_
  refine aw_istore (pc := 4) [(5, iv 0), (4, iv p2), (0, .ref 36), (1, iv p1), (2, iv p2), (3, iv p3)] dX8_furthest_4 rfl (by decide) ?_
  refine AW.sel [2, 3, 5, 1, 0] rfl (lp_ind (bot := fun _ _ _ => none) (fun (f9 : Int → Int → Mem → Option Rz) => ∀ (v4_6 : Int) (v5_6 : Int) (m6 : Mem), inR v4_6 → inR v5_6 → f9 v4_6 v5_6 m6 = some r → AW l D base sc RX8 yX8_furthest cX8_furthest 7 (some FieldType.int) 4 0 0 ad (E mi) (pI E r) 0 0 (E m6) 6 [(0, .ref 36), (1, iv p1), (3, iv p3), (4, iv v4_6), (5, iv v5_6)] []) (fun _ _ _ _ _ h9 => nomatch h9) (fun w6 ih6 v4_6 v5_6 m6 hv4_6 hv5_6 H => ?_) n _ _ _ hp2 (inR_lit _ rfl) H)
  refine aw_iload (pc := 6) dX8_furthest_6 rfl ?_
  refine cx_bipush (pc := 8) dX8_furthest_8 (by decide) ?_
  refine cx_icmp_ge (pc := 10) 54 hv5_6 (inR_lit _ rfl) dX8_furthest_10 rfl H (fun H => ?_) (fun H => ?_)
  · -- 10: 13
    refine aw_aload_n (pc := 13) dX8_furthest_13 rfl ?_
    refine cx_gtC (pc := 14) 4 hE r36 fl_X8_18 rfl rfl (Nat.le_of_ble_eq_true rfl) dX8_furthest_14 ?_
    refine aw_iload (pc := 17) dX8_furthest_17 rfl ?_
    refine aw_iload_n (pc := 19) dX8_furthest_19 rfl ?_
    refine cx_callV (pc := 20) (P := pI) (dC := 3) (mcC := 0) (msC := 0) [iv v4_6, iv p3] hE r4 (fun r1 H1 => s_X9_shifted l sc E R hE hR.ys n v4_6 p3 hv4_6 hp3 m6 r1 H1) ca_X8_78 rfl ⟨_, rfl, rfl⟩ rfl rfl (Nat.le_of_ble_eq_true rfl) (Nat.le_of_ble_eq_true rfl) (Nat.le_of_ble_eq_true rfl) (Nat.le_of_ble_eq_true rfl) dX8_furthest_20 H (fun x20 m20 v20 hh20 H hp => ?_)
    refine cx_backI hp (fun hx20 => ?_)
    refine aw_istore (pc := 23) [(6, iv x20), (0, .ref 36), (1, iv p1), (3, iv p3), (4, iv v4_6), (5, iv v5_6)] dX8_furthest_23 rfl (by decide) ?_
    refine aw_iload (pc := 25) dX8_furthest_25 rfl ?_
    refine jn_ind (fun (f9 : Mem → Option Rz) => ∀ (m41 : Mem), f9 m41 = some r → AW l D base sc RX8 yX8_furthest cX8_furthest 7 (some FieldType.int) 4 0 0 ad (E mi) (pI E r) 0 0 (E m41) 41 [(4, iv v4_6)] []) (fun m41 H => ?_) (fun j41 hj41 H => ?_) H
    · -- 41
      refine aw_iload (pc := 41) dX8_furthest_41 rfl ?_
      exact cx_iret (pc := 43) hv4_6 rfl (Nat.le_of_ble_eq_true rfl) (Nat.le_of_ble_eq_true rfl) dX8_furthest_43 H
    refine cx_if_lt (pc := 27) 41 hx20 dX8_furthest_27 rfl H (fun H => ?_) (fun H => ?_)
    · -- 27: 41
      exact AW.sel [4] rfl (hj41 _ H)
    · -- 27: 30
      refine aw_aload_n (pc := 30) dX8_furthest_30 rfl ?_
      refine aw_iload_n (pc := 31) dX8_furthest_31 rfl ?_
      refine aw_iload (pc := 32) dX8_furthest_32 rfl ?_
      refine aw_iload_n (pc := 34) dX8_furthest_34 rfl ?_
      refine cx_callV (pc := 35) (P := pI) (dC := 2) (mcC := 0) (msC := 0) [iv p1, iv x20, iv p3] hE r36 (fun r1 H1 => s_X8_isBarred l sc E R hE hR n p1 x20 p3 hp1 hx20 hp3 m20 r1 H1) ca_X8_82 rfl ⟨_, rfl, rfl⟩ rfl rfl (Nat.le_of_ble_eq_true rfl) (Nat.le_of_ble_eq_true rfl) (Nat.le_of_ble_eq_true rfl) (Nat.le_of_ble_eq_true rfl) dX8_furthest_35 H (fun x35 m35 v35 hh35 H hp => ?_)
      refine cx_backI hp (fun hx35 => ?_)
      refine cx_if_eq (pc := 38) 44 hx35 dX8_furthest_38 rfl H (fun H => ?_) (fun H => ?_)
      · -- 38: 44
        refine aw_iload (pc := 44) dX8_furthest_44 rfl ?_
        refine aw_istore (pc := 46) [(4, iv x20), (6, iv x20), (0, .ref 36), (1, iv p1), (3, iv p3), (5, iv v5_6)] dX8_furthest_46 rfl (by decide) ?_
        refine cx_iinc (pc := 48) [(5, iv (w32 (v5_6 + 1))), (4, iv x20), (6, iv x20), (0, .ref 36), (1, iv p1), (3, iv p3)] dX8_furthest_48 rfl rfl (by decide) ?_
        refine aw_goto (pc := 51) 6 dX8_furthest_51 rfl ?_
        exact AW.sel [3, 4, 5, 1, 0] rfl (ih6 _ _ _ hx20 (inR_w32 _) H)
      · -- 38: 41
        exact AW.sel [4] rfl (hj41 _ H)
  · -- 10: 54
    refine aw_iload (pc := 54) dX8_furthest_54 rfl ?_
    exact cx_iret (pc := 56) hv4_6 rfl (Nat.le_of_ble_eq_true rfl) (Nat.le_of_ble_eq_true rfl) dX8_furthest_56 H
/-- X8 weigh (LUppityGames$Game;)I -/
def f_X8_weigh (n : Nat) (p1 : Nat) (mi : Mem) : Option Rz :=
  gtG mi 36 2 fun x6 =>
  cal (f_X0_fill n p1 x6 1 mi) fun _ m10 =>
  cal (f_X9_clear n m10) fun _ m17 =>
  lp (F := Int → Int → Mem → Option Rz) (fun _ _ _ => none) (fun w24 v2_24 v3_24 m24 =>
    isD p1 <|
    isG m24 p1 <| cal (f_X1_width n p1 m24) fun x26 m26 =>
    jn (fun (m259 : Mem) =>
      rt v2_24 m259
    ) fun (j259 : Mem → Option Rz) =>
    if v3_24 < x26 then (
      if v3_24 < 10 then (
        cal (f_X9_begin n m26) fun _ m42 =>
        lp (F := Int → Mem → Option Rz) (fun _ _ => none) (fun w48 v4_48 m48 =>
          if v4_48 < v3_24 then (
            isD p1 <|
            isG m48 p1 <| cal (f_X1_options n p1 v3_24 0 m48) fun x57 m57 =>
            jn (fun (m82 : Mem) =>
              isD p1 <|
              isG m82 p1 <| cal (f_X1_options n p1 v3_24 1 m82) fun x85 m85 =>
              jn (fun (m110 : Mem) =>
                w48 (w32 (v4_48 + 1)) m110
              ) fun (j110 : Mem → Option Rz) =>
              if iand (ishr x85 v4_48) 1 = 0 then (
                j110 m85
              ) else
              ldI m85 38 v4_48 fun x106 =>
              cal (f_X9_addRight n x106 m85) fun _ m107 =>
              j110 m107
            ) fun (j82 : Mem → Option Rz) =>
            if iand (ishr x57 v4_48) 1 = 0 then (
              j82 m57
            ) else
            ldI m57 37 v4_48 fun x78 =>
            cal (f_X9_addLeft n x78 m57) fun _ m79 =>
            j82 m79
          ) else
          cal (f_X9_end n m48) fun x120 m120 =>
          jn (fun (v2_207 : Int) (m207 : Mem) =>
            cal (f_X9_shifted n v2_207 0 m207) fun x222 m222 =>
            cal (f_X9_shifted n x222 0 m222) fun x226 m226 =>
            stI m226 37 v3_24 x226 fun m229 =>
            cal (f_X9_shifted n v2_207 1 m229) fun x245 m245 =>
            cal (f_X9_shifted n x245 1 m245) fun x249 m249 =>
            stI m249 38 v3_24 x249 fun m252 =>
            w24 v2_207 (w32 (v3_24 + 1)) m252
          ) fun (j207 : Int → Mem → Option Rz) =>
          if 0 < v3_24 then (
            cal (f_X9_isWhole n x120 m120) fun x133 m133 =>
            if x133 = 0 then (
              j207 x120 m133
            ) else
            gtG m133 36 2 fun x145 =>
            isD x145 <|
            isG m133 x145 <| cal (f_X1_top n x145 m133) fun x148 m148 =>
            cal (f_X0_verdict n v3_24 x148 m148) fun x151 m151 =>
            jn (fun (s0_167 : Int) (m167 : Mem) =>
              jn (fun (s0_206 : Int) (m206 : Mem) =>
                j207 s0_206 m206
              ) fun (j206 : Int → Mem → Option Rz) =>
              jn (fun (m180 : Mem) =>
                jn (fun (s0_193 : Int) (m193 : Mem) =>
                  isD p1 <|
                  isG m193 p1 <| cal (f_X1_options n p1 v3_24 s0_193 m193) fun x193 m193 =>
                  cal (f_X8_furthest n x193 x120 s0_167 m193) fun x199 m199 =>
                  j206 x199 m199
                ) fun (j193 : Int → Mem → Option Rz) =>
                if s0_167 = 0 then (
                  j193 0 m180
                ) else
                j193 1 m180
              ) fun (j180 : Mem → Option Rz) =>
              if s0_167 = 0 then (
                if x151 = (-1) then (
                  j180 m167
                ) else
                j206 0 m167
              ) else
              j180 m167
            ) fun (j167 : Int → Mem → Option Rz) =>
            if x151 = 1 then (
              j167 1 m151
            ) else
            j167 0 m151
          ) else
          j207 x120 m120
        ) n 0 m42
      ) else
      j259 m26
    ) else
    j259 m26
  ) n 0 0 m17
set_option maxRecDepth 100000 in
set_option maxHeartbeats 4000000 in
theorem s_X8_weigh (l : Launch) (sc : g_S) (E : Mem → g_H) (R : Nat → Prop) (hE : LE E R) (hR : RCL R) (n : Nat)  (p1 : Nat)  (mi : Mem) (r : Rz) (H : f_X8_weigh n p1 mi = some r) : AMet l sc yX8_weigh cX8_weigh 6 (some FieldType.int) 5 0 0 [.ref 36, rv p1] (E mi) (pI E r) := by
  have r4 : R 4 := hR.1 4 (Nat.le_of_ble_eq_true rfl) (Nat.le_of_ble_eq_true rfl)
  have r33 : R 33 := hR.1 33 (Nat.le_of_ble_eq_true rfl) (Nat.le_of_ble_eq_true rfl)
  have r36 : R 36 := hR.1 36 (Nat.le_of_ble_eq_true rfl) (Nat.le_of_ble_eq_true rfl)
  have r37 : R 37 := hR.1 37 (Nat.le_of_ble_eq_true rfl) (Nat.le_of_ble_eq_true rfl)
  have r38 : R 38 := hR.1 38 (Nat.le_of_ble_eq_true rfl) (Nat.le_of_ble_eq_true rfl)
  unfold f_X8_weigh at H
  refine AMet.of (own := RX8) (by decide +kernel) rfl (by rcases rv_or p1 with ep1 | ⟨_, ep1⟩ <;> simp only [ep1] <;> exact Nat.le_of_ble_eq_true rfl) [(0, .ref 36), (1, rv p1)] (by rcases rv_or p1 with ep1 | ⟨_, ep1⟩ <;> simp only [ep1] <;> rfl) (fun D base ad => ?_)
  refine aw_aload_n (pc := 0) dX8_weigh_0 rfl ?_
  refine cx_gtC (pc := 1) 33 hE r36 fl_X8_22 rfl rfl (Nat.le_of_ble_eq_true rfl) dX8_weigh_1 ?_
  refine cx_aload_n (pc := 4) dX8_weigh_4 rfl ?_
  refine aw_aload_n (pc := 5) dX8_weigh_5 rfl ?_
  refine cx_gtG (pc := 6) hE r36 fl_X8_26 rfl rfl (Nat.le_of_ble_eq_true rfl) dX8_weigh_6 H (fun x6 H => ?_)
  refine cx_iconst (pc := 9) dX8_weigh_9 ?_
  refine cx_callV (pc := 10) (P := pV) (dC := 2) (mcC := 0) (msC := 0) [rv p1, rv x6, iv 1] hE r33 (fun r1 H1 => s_X0_fill l sc E R hE hR n p1 x6 1 (inR_lit _ rfl) mi r1 H1) ca_X8_30 rfl ⟨_, rfl, rfl⟩ rfl rfl (Nat.le_of_ble_eq_true rfl) (Nat.le_of_ble_eq_true rfl) (Nat.le_of_ble_eq_true rfl) (Nat.le_of_ble_eq_true rfl) dX8_weigh_10 H (fun x10 m10 v10 hh10 H hp => ?_)
  refine cx_backV hp ?_
  refine aw_aload_n (pc := 13) dX8_weigh_13 rfl ?_
  refine cx_gtC (pc := 14) 4 hE r36 fl_X8_18 rfl rfl (Nat.le_of_ble_eq_true rfl) dX8_weigh_14 ?_
  refine cx_callV (pc := 17) (P := pV) (dC := 3) (mcC := 0) (msC := 0) [] hE r4 (fun r1 H1 => s_X9_clear l sc E R hE hR.ys n m10 r1 H1) ca_X8_36 rfl ⟨_, rfl, rfl⟩ rfl rfl (Nat.le_of_ble_eq_true rfl) (Nat.le_of_ble_eq_true rfl) (Nat.le_of_ble_eq_true rfl) (Nat.le_of_ble_eq_true rfl) dX8_weigh_17 H (fun x17 m17 v17 hh17 H hp => ?_)
  refine cx_backV hp ?_
  refine cx_iconst (pc := 20) dX8_weigh_20 ?_
  refine aw_istore_n (pc := 21) [(2, iv 0), (0, .ref 36), (1, rv p1)] dX8_weigh_21 (by unfold g_st1; simp only [List.filter, rv_cat]; rfl) (by decide) ?_
  refine cx_iconst (pc := 22) dX8_weigh_22 ?_
  refine aw_istore_n (pc := 23) [(3, iv 0), (2, iv 0), (0, .ref 36), (1, rv p1)] dX8_weigh_23 rfl (by decide) ?_
  refine AW.sel [2, 3, 1, 0] rfl (lp_ind (bot := fun _ _ _ => none) (fun (f9 : Int → Int → Mem → Option Rz) => ∀ (v2_24 : Int) (v3_24 : Int) (m24 : Mem), inR v2_24 → inR v3_24 → f9 v2_24 v3_24 m24 = some r → AW l D base sc RX8 yX8_weigh cX8_weigh 6 (some FieldType.int) 5 0 0 ad (E mi) (pI E r) 0 0 (E m24) 24 [(0, .ref 36), (1, rv p1), (2, iv v2_24), (3, iv v3_24)] []) (fun _ _ _ _ _ h9 => nomatch h9) (fun w24 ih24 v2_24 v3_24 m24 hv2_24 hv3_24 H => ?_) n _ _ _ (inR_lit _ rfl) (inR_lit _ rfl) H)
  refine aw_iload_n (pc := 24) dX8_weigh_24 rfl ?_
  refine cx_aload_n (pc := 25) dX8_weigh_25 rfl ?_
  refine cx_nn0 H (fun hg26_1 H => ?_)
  refine cx_callG (pc := 26) (P := pI) (dC := 0) (mcC := 0) (msC := 0) [] hE hR.d (fun r1 H1 => s_X1_width l sc E R hE hR.d n p1 hg26_1 m24 r1 H1) ca_X8_41 ⟨_, rfl, rfl⟩ rfl rfl (Nat.le_of_ble_eq_true rfl) (Nat.le_of_ble_eq_true rfl) (Nat.le_of_ble_eq_true rfl) (Nat.le_of_ble_eq_true rfl) dX8_weigh_26 H (fun x26 m26 v26 hh26 H hp => ?_)
  refine cx_backI hp (fun hx26 => ?_)
  refine jn_ind (fun (f9 : Mem → Option Rz) => ∀ (m259 : Mem), f9 m259 = some r → AW l D base sc RX8 yX8_weigh cX8_weigh 6 (some FieldType.int) 5 0 0 ad (E mi) (pI E r) 0 0 (E m259) 259 [(2, iv v2_24)] []) (fun m259 H => ?_) (fun j259 hj259 H => ?_) H
  · -- 259
    refine aw_iload_n (pc := 259) dX8_weigh_259 rfl ?_
    exact cx_iret (pc := 260) hv2_24 rfl (Nat.le_of_ble_eq_true rfl) (Nat.le_of_ble_eq_true rfl) dX8_weigh_260 H
  refine cx_icmp_ge (pc := 29) 259 hv3_24 hx26 dX8_weigh_29 rfl H (fun H => ?_) (fun H => ?_)
  · -- 29: 32
    refine aw_iload_n (pc := 32) dX8_weigh_32 rfl ?_
    refine cx_bipush (pc := 33) dX8_weigh_33 (by decide) ?_
    refine cx_icmp_ge (pc := 35) 259 hv3_24 (inR_lit _ rfl) dX8_weigh_35 rfl H (fun H => ?_) (fun H => ?_)
    · -- 35: 38
      refine aw_aload_n (pc := 38) dX8_weigh_38 rfl ?_
      refine cx_gtC (pc := 39) 4 hE r36 fl_X8_18 rfl rfl (Nat.le_of_ble_eq_true rfl) dX8_weigh_39 ?_
      refine cx_callV (pc := 42) (P := pV) (dC := 1) (mcC := 0) (msC := 0) [] hE r4 (fun r1 H1 => s_X9_begin l sc E R hE hR.ys n m26 r1 H1) ca_X8_47 rfl ⟨_, rfl, rfl⟩ rfl rfl (Nat.le_of_ble_eq_true rfl) (Nat.le_of_ble_eq_true rfl) (Nat.le_of_ble_eq_true rfl) (Nat.le_of_ble_eq_true rfl) dX8_weigh_42 H (fun x42 m42 v42 hh42 H hp => ?_)
      refine cx_backV hp ?_
      refine cx_iconst (pc := 45) dX8_weigh_45 ?_
      refine aw_istore (pc := 46) [(4, iv 0), (0, .ref 36), (1, rv p1), (2, iv v2_24), (3, iv v3_24)] dX8_weigh_46 rfl (by decide) ?_
      refine AW.sel [1, 2, 4, 0] rfl (lp_ind (bot := fun _ _ => none) (fun (f9 : Int → Mem → Option Rz) => ∀ (v4_48 : Int) (m48 : Mem), inR v4_48 → f9 v4_48 m48 = some r → AW l D base sc RX8 yX8_weigh cX8_weigh 6 (some FieldType.int) 5 0 0 ad (E mi) (pI E r) 0 0 (E m48) 48 [(0, .ref 36), (1, rv p1), (3, iv v3_24), (4, iv v4_48)] []) (fun _ _ _ h9 => nomatch h9) (fun w48 ih48 v4_48 m48 hv4_48 H => ?_) n _ _ (inR_lit _ rfl) H)
      refine aw_iload (pc := 48) dX8_weigh_48 rfl ?_
      refine aw_iload_n (pc := 50) dX8_weigh_50 rfl ?_
      refine cx_icmp_ge (pc := 51) 116 hv4_48 hv3_24 dX8_weigh_51 rfl H (fun H => ?_) (fun H => ?_)
      · -- 51: 54
        refine cx_aload_n (pc := 54) dX8_weigh_54 rfl ?_
        refine aw_iload_n (pc := 55) dX8_weigh_55 rfl ?_
        refine cx_iconst (pc := 56) dX8_weigh_56 ?_
        refine cx_nn2 H (fun hg57_2 H => ?_)
        refine cx_callG (pc := 57) (P := pI) (dC := 0) (mcC := 0) (msC := 0) [iv v3_24, iv 0] hE hR.d (fun r1 H1 => s_X1_options l sc E R hE hR.d n p1 v3_24 0 hg57_2 hv3_24 (inR_lit _ rfl) m48 r1 H1) ca_X8_50 ⟨_, rfl, rfl⟩ rfl rfl (Nat.le_of_ble_eq_true rfl) (Nat.le_of_ble_eq_true rfl) (Nat.le_of_ble_eq_true rfl) (Nat.le_of_ble_eq_true rfl) dX8_weigh_57 H (fun x57 m57 v57 hh57 H hp => ?_)
        refine cx_backI hp (fun hx57 => ?_)
        refine aw_iload (pc := 60) dX8_weigh_60 rfl ?_
        refine cx_ishr (pc := 62) dX8_weigh_62 ?_
        refine cx_iconst (pc := 63) dX8_weigh_63 ?_
        refine cx_iand (pc := 64) dX8_weigh_64 ?_
        refine jn_ind (fun (f9 : Mem → Option Rz) => ∀ (m82 : Mem), f9 m82 = some r → AW l D base sc RX8 yX8_weigh cX8_weigh 6 (some FieldType.int) 5 0 0 ad (E mi) (pI E r) 0 0 (E m82) 82 [(0, .ref 36), (1, rv p1), (3, iv v3_24), (4, iv v4_48)] []) (fun m82 H => ?_) (fun j82 hj82 H => ?_) H
        · -- 82
          refine cx_aload_n (pc := 82) dX8_weigh_82 rfl ?_
          refine aw_iload_n (pc := 83) dX8_weigh_83 rfl ?_
          refine cx_iconst (pc := 84) dX8_weigh_84 ?_
          refine cx_nn2 H (fun hg85_3 H => ?_)
          refine cx_callG (pc := 85) (P := pI) (dC := 0) (mcC := 0) (msC := 0) [iv v3_24, iv 1] hE hR.d (fun r1 H1 => s_X1_options l sc E R hE hR.d n p1 v3_24 1 hg85_3 hv3_24 (inR_lit _ rfl) m82 r1 H1) ca_X8_50 ⟨_, rfl, rfl⟩ rfl rfl (Nat.le_of_ble_eq_true rfl) (Nat.le_of_ble_eq_true rfl) (Nat.le_of_ble_eq_true rfl) (Nat.le_of_ble_eq_true rfl) dX8_weigh_85 H (fun x85 m85 v85 hh85 H hp => ?_)
          refine cx_backI hp (fun hx85 => ?_)
          refine aw_iload (pc := 88) dX8_weigh_88 rfl ?_
          refine cx_ishr (pc := 90) dX8_weigh_90 ?_
          refine cx_iconst (pc := 91) dX8_weigh_91 ?_
          refine cx_iand (pc := 92) dX8_weigh_92 ?_
          refine jn_ind (fun (f9 : Mem → Option Rz) => ∀ (m110 : Mem), f9 m110 = some r → AW l D base sc RX8 yX8_weigh cX8_weigh 6 (some FieldType.int) 5 0 0 ad (E mi) (pI E r) 0 0 (E m110) 110 [(0, .ref 36), (1, rv p1), (3, iv v3_24), (4, iv v4_48)] []) (fun m110 H => ?_) (fun j110 hj110 H => ?_) H
          · -- 110
            refine cx_iinc (pc := 110) [(4, iv (w32 (v4_48 + 1))), (0, .ref 36), (1, rv p1), (3, iv v3_24)] dX8_weigh_110 rfl rfl (by decide) ?_
            refine aw_goto (pc := 113) 48 dX8_weigh_113 rfl ?_
            exact AW.sel [1, 2, 3, 0] rfl (ih48 _ _ (inR_w32 _) H)
          refine cx_if_eq (pc := 93) 110 (inR_32 _) dX8_weigh_93 rfl H (fun H => ?_) (fun H => ?_)
          · -- 93: 110
            exact AW.sel [0, 1, 2, 3] rfl (hj110 _ H)
          · -- 93: 96
            refine aw_aload_n (pc := 96) dX8_weigh_96 rfl ?_
            refine cx_gtC (pc := 97) 4 hE r36 fl_X8_18 rfl rfl (Nat.le_of_ble_eq_true rfl) dX8_weigh_97 ?_
            refine aw_aload_n (pc := 100) dX8_weigh_100 rfl ?_
            refine cx_gtC (pc := 101) 38 hE r36 fl_X8_15 rfl rfl (Nat.le_of_ble_eq_true rfl) dX8_weigh_101 ?_
            refine aw_iload (pc := 104) dX8_weigh_104 rfl ?_
            refine cx_ldI (pc := 106) hE r38 hv4_48 dX8_weigh_106 H (fun x106 hx106 H => ?_)
            refine cx_callV (pc := 107) (P := pV) (dC := 1) (mcC := 0) (msC := 0) [iv x106] hE r4 (fun r1 H1 => s_X9_addRight l sc E R hE hR.ys n x106 hx106 m85 r1 H1) ca_X8_58 rfl ⟨_, rfl, rfl⟩ rfl rfl (Nat.le_of_ble_eq_true rfl) (Nat.le_of_ble_eq_true rfl) (Nat.le_of_ble_eq_true rfl) (Nat.le_of_ble_eq_true rfl) dX8_weigh_107 H (fun x107 m107 v107 hh107 H hp => ?_)
            refine cx_backV hp ?_
            exact AW.sel [0, 1, 2, 3] rfl (hj110 _ H)
        refine cx_if_eq (pc := 65) 82 (inR_32 _) dX8_weigh_65 rfl H (fun H => ?_) (fun H => ?_)
        · -- 65: 82
          exact AW.sel [0, 1, 2, 3] rfl (hj82 _ H)
        · -- 65: 68
          refine aw_aload_n (pc := 68) dX8_weigh_68 rfl ?_
          refine cx_gtC (pc := 69) 4 hE r36 fl_X8_18 rfl rfl (Nat.le_of_ble_eq_true rfl) dX8_weigh_69 ?_
          refine aw_aload_n (pc := 72) dX8_weigh_72 rfl ?_
          refine cx_gtC (pc := 73) 37 hE r36 fl_X8_9 rfl rfl (Nat.le_of_ble_eq_true rfl) dX8_weigh_73 ?_
          refine aw_iload (pc := 76) dX8_weigh_76 rfl ?_
          refine cx_ldI (pc := 78) hE r37 hv4_48 dX8_weigh_78 H (fun x78 hx78 H => ?_)
          refine cx_callV (pc := 79) (P := pV) (dC := 1) (mcC := 0) (msC := 0) [iv x78] hE r4 (fun r1 H1 => s_X9_addLeft l sc E R hE hR.ys n x78 hx78 m57 r1 H1) ca_X8_54 rfl ⟨_, rfl, rfl⟩ rfl rfl (Nat.le_of_ble_eq_true rfl) (Nat.le_of_ble_eq_true rfl) (Nat.le_of_ble_eq_true rfl) (Nat.le_of_ble_eq_true rfl) dX8_weigh_79 H (fun x79 m79 v79 hh79 H hp => ?_)
          refine cx_backV hp ?_
          exact AW.sel [0, 1, 2, 3] rfl (hj82 _ H)
      · -- 51: 116
        refine aw_aload_n (pc := 116) dX8_weigh_116 rfl ?_
        refine cx_gtC (pc := 117) 4 hE r36 fl_X8_18 rfl rfl (Nat.le_of_ble_eq_true rfl) dX8_weigh_117 ?_
        refine cx_callV (pc := 120) (P := pI) (dC := 2) (mcC := 0) (msC := 0) [] hE r4 (fun r1 H1 => s_X9_end l sc E R hE hR.ys n m48 r1 H1) ca_X8_61 rfl ⟨_, rfl, rfl⟩ rfl rfl (Nat.le_of_ble_eq_true rfl) (Nat.le_of_ble_eq_true rfl) (Nat.le_of_ble_eq_true rfl) (Nat.le_of_ble_eq_true rfl) dX8_weigh_120 H (fun x120 m120 v120 hh120 H hp => ?_)
        refine cx_backI hp (fun hx120 => ?_)
        refine aw_istore_n (pc := 123) [(2, iv x120), (0, .ref 36), (1, rv p1), (3, iv v3_24), (4, iv v4_48)] dX8_weigh_123 (by unfold g_st1; simp only [List.filter, rv_cat]; rfl) (by decide) ?_
        refine aw_iload_n (pc := 124) dX8_weigh_124 rfl ?_
        refine jn_ind (fun (f9 : Int → Mem → Option Rz) => ∀ (v2_207 : Int) (m207 : Mem), inR v2_207 → f9 v2_207 m207 = some r → AW l D base sc RX8 yX8_weigh cX8_weigh 6 (some FieldType.int) 5 0 0 ad (E mi) (pI E r) 0 0 (E m207) 207 [(0, .ref 36), (1, rv p1), (2, iv v2_207), (3, iv v3_24)] []) (fun v2_207 m207 hv2_207 H => ?_) (fun j207 hj207 H => ?_) H
        · -- 207
          refine aw_aload_n (pc := 207) dX8_weigh_207 rfl ?_
          refine cx_gtC (pc := 208) 37 hE r36 fl_X8_9 rfl rfl (Nat.le_of_ble_eq_true rfl) dX8_weigh_208 ?_
          refine aw_iload_n (pc := 211) dX8_weigh_211 rfl ?_
          refine aw_aload_n (pc := 212) dX8_weigh_212 rfl ?_
          refine cx_gtC (pc := 213) 4 hE r36 fl_X8_18 rfl rfl (Nat.le_of_ble_eq_true rfl) dX8_weigh_213 ?_
          refine aw_aload_n (pc := 216) dX8_weigh_216 rfl ?_
          refine cx_gtC (pc := 217) 4 hE r36 fl_X8_18 rfl rfl (Nat.le_of_ble_eq_true rfl) dX8_weigh_217 ?_
          refine aw_iload_n (pc := 220) dX8_weigh_220 rfl ?_
          refine cx_iconst (pc := 221) dX8_weigh_221 ?_
          refine cx_callV (pc := 222) (P := pI) (dC := 3) (mcC := 0) (msC := 0) [iv v2_207, iv 0] hE r4 (fun r1 H1 => s_X9_shifted l sc E R hE hR.ys n v2_207 0 hv2_207 (inR_lit _ rfl) m207 r1 H1) ca_X8_78 rfl ⟨_, rfl, rfl⟩ rfl rfl (Nat.le_of_ble_eq_true rfl) (Nat.le_of_ble_eq_true rfl) (Nat.le_of_ble_eq_true rfl) (Nat.le_of_ble_eq_true rfl) dX8_weigh_222 H (fun x222 m222 v222 hh222 H hp => ?_)
          refine cx_backI hp (fun hx222 => ?_)
          refine cx_iconst (pc := 225) dX8_weigh_225 ?_
          refine cx_callV (pc := 226) (P := pI) (dC := 3) (mcC := 0) (msC := 0) [iv x222, iv 0] hE r4 (fun r1 H1 => s_X9_shifted l sc E R hE hR.ys n x222 0 hx222 (inR_lit _ rfl) m222 r1 H1) ca_X8_78 rfl ⟨_, rfl, rfl⟩ rfl rfl (Nat.le_of_ble_eq_true rfl) (Nat.le_of_ble_eq_true rfl) (Nat.le_of_ble_eq_true rfl) (Nat.le_of_ble_eq_true rfl) dX8_weigh_226 H (fun x226 m226 v226 hh226 H hp => ?_)
          refine cx_backI hp (fun hx226 => ?_)
          refine cx_stI (pc := 229) hE r37 hv3_24 dX8_weigh_229 H (fun m229 H => ?_)
          refine aw_aload_n (pc := 230) dX8_weigh_230 rfl ?_
          refine cx_gtC (pc := 231) 38 hE r36 fl_X8_15 rfl rfl (Nat.le_of_ble_eq_true rfl) dX8_weigh_231 ?_
          refine aw_iload_n (pc := 234) dX8_weigh_234 rfl ?_
          refine aw_aload_n (pc := 235) dX8_weigh_235 rfl ?_
          refine cx_gtC (pc := 236) 4 hE r36 fl_X8_18 rfl rfl (Nat.le_of_ble_eq_true rfl) dX8_weigh_236 ?_
          refine aw_aload_n (pc := 239) dX8_weigh_239 rfl ?_
          refine cx_gtC (pc := 240) 4 hE r36 fl_X8_18 rfl rfl (Nat.le_of_ble_eq_true rfl) dX8_weigh_240 ?_
          refine aw_iload_n (pc := 243) dX8_weigh_243 rfl ?_
          refine cx_iconst (pc := 244) dX8_weigh_244 ?_
          refine cx_callV (pc := 245) (P := pI) (dC := 3) (mcC := 0) (msC := 0) [iv v2_207, iv 1] hE r4 (fun r1 H1 => s_X9_shifted l sc E R hE hR.ys n v2_207 1 hv2_207 (inR_lit _ rfl) m229 r1 H1) ca_X8_78 rfl ⟨_, rfl, rfl⟩ rfl rfl (Nat.le_of_ble_eq_true rfl) (Nat.le_of_ble_eq_true rfl) (Nat.le_of_ble_eq_true rfl) (Nat.le_of_ble_eq_true rfl) dX8_weigh_245 H (fun x245 m245 v245 hh245 H hp => ?_)
          refine cx_backI hp (fun hx245 => ?_)
          refine cx_iconst (pc := 248) dX8_weigh_248 ?_
          refine cx_callV (pc := 249) (P := pI) (dC := 3) (mcC := 0) (msC := 0) [iv x245, iv 1] hE r4 (fun r1 H1 => s_X9_shifted l sc E R hE hR.ys n x245 1 hx245 (inR_lit _ rfl) m245 r1 H1) ca_X8_78 rfl ⟨_, rfl, rfl⟩ rfl rfl (Nat.le_of_ble_eq_true rfl) (Nat.le_of_ble_eq_true rfl) (Nat.le_of_ble_eq_true rfl) (Nat.le_of_ble_eq_true rfl) dX8_weigh_249 H (fun x249 m249 v249 hh249 H hp => ?_)
          refine cx_backI hp (fun hx249 => ?_)
          refine cx_stI (pc := 252) hE r38 hv3_24 dX8_weigh_252 H (fun m252 H => ?_)
          refine cx_iinc (pc := 253) [(3, iv (w32 (v3_24 + 1))), (0, .ref 36), (1, rv p1), (2, iv v2_207)] dX8_weigh_253 rfl rfl (by decide) ?_
          refine aw_goto (pc := 256) 24 dX8_weigh_256 rfl ?_
          exact AW.sel [1, 2, 3, 0] rfl (ih24 _ _ _ hv2_207 (inR_w32 _) H)
        refine cx_if_le (pc := 125) 207 hv3_24 dX8_weigh_125 rfl H (fun H => ?_) (fun H => ?_)
        · -- 125: 128
          refine aw_aload_n (pc := 128) dX8_weigh_128 rfl ?_
          refine cx_gtC (pc := 129) 4 hE r36 fl_X8_18 rfl rfl (Nat.le_of_ble_eq_true rfl) dX8_weigh_129 ?_
          refine aw_iload_n (pc := 132) dX8_weigh_132 rfl ?_
          refine cx_callV (pc := 133) (P := pI) (dC := 1) (mcC := 0) (msC := 0) [iv x120] hE r4 (fun r1 H1 => s_X9_isWhole l sc E R hE hR.ys n x120 hx120 m120 r1 H1) ca_X8_64 rfl ⟨_, rfl, rfl⟩ rfl rfl (Nat.le_of_ble_eq_true rfl) (Nat.le_of_ble_eq_true rfl) (Nat.le_of_ble_eq_true rfl) (Nat.le_of_ble_eq_true rfl) dX8_weigh_133 H (fun x133 m133 v133 hh133 H hp => ?_)
          refine cx_backI hp (fun hx133 => ?_)
          refine cx_if_eq (pc := 136) 207 hx133 dX8_weigh_136 rfl H (fun H => ?_) (fun H => ?_)
          · -- 136: 207
            exact AW.sel [1, 2, 0, 3] rfl (hj207 _ _ hx120 H)
          · -- 136: 139
            refine aw_aload_n (pc := 139) dX8_weigh_139 rfl ?_
            refine cx_gtC (pc := 140) 33 hE r36 fl_X8_22 rfl rfl (Nat.le_of_ble_eq_true rfl) dX8_weigh_140 ?_
            refine aw_iload_n (pc := 143) dX8_weigh_143 rfl ?_
            refine aw_aload_n (pc := 144) dX8_weigh_144 rfl ?_
            refine cx_gtG (pc := 145) hE r36 fl_X8_26 rfl rfl (Nat.le_of_ble_eq_true rfl) dX8_weigh_145 H (fun x145 H => ?_)
            refine cx_nn0 H (fun hg148_4 H => ?_)
            refine cx_callG (pc := 148) (P := pI) (dC := 0) (mcC := 0) (msC := 0) [] hE hR.d (fun r1 H1 => s_X1_top l sc E R hE hR.d n x145 hg148_4 m133 r1 H1) ca_X8_68 ⟨_, rfl, rfl⟩ rfl rfl (Nat.le_of_ble_eq_true rfl) (Nat.le_of_ble_eq_true rfl) (Nat.le_of_ble_eq_true rfl) (Nat.le_of_ble_eq_true rfl) dX8_weigh_148 H (fun x148 m148 v148 hh148 H hp => ?_)
            refine cx_backI hp (fun hx148 => ?_)
            refine cx_callV (pc := 151) (P := pI) (dC := 0) (mcC := 0) (msC := 0) [iv v3_24, iv x148] hE r33 (fun r1 H1 => s_X0_verdict l sc E R hE hR n v3_24 x148 hv3_24 hx148 m148 r1 H1) ca_X8_71 rfl ⟨_, rfl, rfl⟩ rfl rfl (Nat.le_of_ble_eq_true rfl) (Nat.le_of_ble_eq_true rfl) (Nat.le_of_ble_eq_true rfl) (Nat.le_of_ble_eq_true rfl) dX8_weigh_151 H (fun x151 m151 v151 hh151 H hp => ?_)
            refine cx_backI hp (fun hx151 => ?_)
            refine aw_istore (pc := 154) [(4, iv x151), (2, iv x120), (0, .ref 36), (1, rv p1), (3, iv v3_24)] dX8_weigh_154 rfl (by decide) ?_
            refine aw_iload (pc := 156) dX8_weigh_156 rfl ?_
            refine cx_iconst (pc := 158) dX8_weigh_158 ?_
            refine jn_ind (fun (f9 : Int → Mem → Option Rz) => ∀ (s0_167 : Int) (m167 : Mem), inR s0_167 → f9 s0_167 m167 = some r → AW l D base sc RX8 yX8_weigh cX8_weigh 6 (some FieldType.int) 5 0 0 ad (E mi) (pI E r) 0 0 (E m167) 167 [(0, .ref 36), (1, rv p1), (2, iv x120), (3, iv v3_24), (4, iv x151)] [iv s0_167]) (fun s0_167 m167 hs0_167 H => ?_) (fun j167 hj167 H => ?_) H
            · -- 167
              refine aw_istore (pc := 167) [(5, iv s0_167), (0, .ref 36), (1, rv p1), (2, iv x120), (3, iv v3_24), (4, iv x151)] dX8_weigh_167 rfl (by decide) ?_
              refine aw_iload (pc := 169) dX8_weigh_169 rfl ?_
              refine jn_ind (fun (f9 : Int → Mem → Option Rz) => ∀ (s0_206 : Int) (m206 : Mem), inR s0_206 → f9 s0_206 m206 = some r → AW l D base sc RX8 yX8_weigh cX8_weigh 6 (some FieldType.int) 5 0 0 ad (E mi) (pI E r) 0 0 (E m206) 206 [(0, .ref 36), (1, rv p1), (3, iv v3_24)] [iv s0_206]) (fun s0_206 m206 hs0_206 H => ?_) (fun j206 hj206 H => ?_) H
              · -- 206
                refine aw_istore_n (pc := 206) [(2, iv s0_206), (0, .ref 36), (1, rv p1), (3, iv v3_24)] dX8_weigh_206 (by unfold g_st1; simp only [List.filter, rv_cat]; rfl) (by decide) ?_
                exact AW.sel [1, 2, 0, 3] rfl (hj207 _ _ hs0_206 H)
              refine jn_ind (fun (f9 : Mem → Option Rz) => ∀ (m180 : Mem), f9 m180 = some r → AW l D base sc RX8 yX8_weigh cX8_weigh 6 (some FieldType.int) 5 0 0 ad (E mi) (pI E r) 0 0 (E m180) 180 [(0, .ref 36), (1, rv p1), (2, iv x120), (3, iv v3_24), (5, iv s0_167)] []) (fun m180 H => ?_) (fun j180 hj180 H => ?_) H
              · -- 180
                refine aw_aload_n (pc := 180) dX8_weigh_180 rfl ?_
                refine cx_aload_n (pc := 181) dX8_weigh_181 rfl ?_
                refine aw_iload_n (pc := 182) dX8_weigh_182 rfl ?_
                refine aw_iload (pc := 183) dX8_weigh_183 rfl ?_
                refine jn_ind (fun (f9 : Int → Mem → Option Rz) => ∀ (s0_193 : Int) (m193 : Mem), inR s0_193 → f9 s0_193 m193 = some r → AW l D base sc RX8 yX8_weigh cX8_weigh 6 (some FieldType.int) 5 0 0 ad (E mi) (pI E r) 0 0 (E m193) 193 [(0, .ref 36), (1, rv p1), (2, iv x120), (3, iv v3_24), (5, iv s0_167)] [iv s0_193, iv v3_24, rv p1, .ref 36]) (fun s0_193 m193 hs0_193 H => ?_) (fun j193 hj193 H => ?_) H
                · -- 193
                  refine cx_nn2 H (fun hg193_5 H => ?_)
                  refine cx_callG (pc := 193) (P := pI) (dC := 0) (mcC := 0) (msC := 0) [iv v3_24, iv s0_193] hE hR.d (fun r1 H1 => s_X1_options l sc E R hE hR.d n p1 v3_24 s0_193 hg193_5 hv3_24 hs0_193 m193 r1 H1) ca_X8_50 ⟨_, rfl, rfl⟩ rfl rfl (Nat.le_of_ble_eq_true rfl) (Nat.le_of_ble_eq_true rfl) (Nat.le_of_ble_eq_true rfl) (Nat.le_of_ble_eq_true rfl) dX8_weigh_193 H (fun x193 m193 v193 hh193 H hp => ?_)
                  refine cx_backI hp (fun hx193 => ?_)
                  refine aw_iload_n (pc := 196) dX8_weigh_196 rfl ?_
                  refine aw_iload (pc := 197) dX8_weigh_197 rfl ?_
                  refine cx_callV (pc := 199) (P := pI) (dC := 4) (mcC := 0) (msC := 0) [iv x193, iv x120, iv s0_167] hE r36 (fun r1 H1 => s_X8_furthest l sc E R hE hR n x193 x120 s0_167 hx193 hx120 hs0_167 m193 r1 H1) ca_X8_74 rfl ⟨_, rfl, rfl⟩ rfl rfl (Nat.le_of_ble_eq_true rfl) (Nat.le_of_ble_eq_true rfl) (Nat.le_of_ble_eq_true rfl) (Nat.le_of_ble_eq_true rfl) dX8_weigh_199 H (fun x199 m199 v199 hh199 H hp => ?_)
                  refine cx_backI hp (fun hx199 => ?_)
                  refine aw_goto (pc := 202) 206 dX8_weigh_202 rfl ?_
                  exact AW.sel [0, 1, 3] rfl (hj206 _ _ hx199 H)
                refine cx_if_eq (pc := 185) 192 hs0_167 dX8_weigh_185 rfl H (fun H => ?_) (fun H => ?_)
                · -- 185: 192
                  refine cx_iconst (pc := 192) dX8_weigh_192 ?_
                  exact AW.sel [0, 1, 2, 3, 4] rfl (hj193 _ _ (inR_lit _ rfl) H)
                · -- 185: 188
                  refine cx_iconst (pc := 188) dX8_weigh_188 ?_
                  refine aw_goto (pc := 189) 193 dX8_weigh_189 rfl ?_
                  exact AW.sel [0, 1, 2, 3, 4] rfl (hj193 _ _ (inR_lit _ rfl) H)
              refine cx_if_ne (pc := 171) 180 hs0_167 dX8_weigh_171 rfl H (fun H => ?_) (fun H => ?_)
              · -- 171: 174
                refine aw_iload (pc := 174) dX8_weigh_174 rfl ?_
                refine cx_iconst (pc := 176) dX8_weigh_176 ?_
                refine cx_icmp_ne (pc := 177) 205 hx151 (inR_lit _ rfl) dX8_weigh_177 rfl H (fun H => ?_) (fun H => ?_)
                · -- 177: 180
                  exact AW.sel [1, 2, 3, 4, 0] rfl (hj180 _ H)
                · -- 177: 205
                  refine cx_iconst (pc := 205) dX8_weigh_205 ?_
                  exact AW.sel [1, 2, 4] rfl (hj206 _ _ (inR_lit _ rfl) H)
              · -- 171: 180
                exact AW.sel [1, 2, 3, 4, 0] rfl (hj180 _ H)
            refine cx_icmp_ne (pc := 159) 166 hx151 (inR_lit _ rfl) dX8_weigh_159 rfl H (fun H => ?_) (fun H => ?_)
            · -- 159: 162
              refine cx_iconst (pc := 162) dX8_weigh_162 ?_
              refine aw_goto (pc := 163) 167 dX8_weigh_163 rfl ?_
              exact AW.sel [2, 3, 1, 4, 0] rfl (hj167 _ _ (inR_lit _ rfl) H)
            · -- 159: 166
              refine cx_iconst (pc := 166) dX8_weigh_166 ?_
              exact AW.sel [2, 3, 1, 4, 0] rfl (hj167 _ _ (inR_lit _ rfl) H)
        · -- 125: 207
          exact AW.sel [1, 2, 0, 3] rfl (hj207 _ _ hx120 H)
    · -- 35: 259
      exact AW.sel [2] rfl (hj259 _ H)
  · -- 29: 259
    exact AW.sel [2] rfl (hj259 _ H)
