theorem dX9_add_0 : decode cX9_add 0 = .ok (.aload_n 0, 1) := by decide +kernel
theorem dX9_add_1 : decode cX9_add 1 = .ok (.getfield 50, 3) := by decide +kernel
theorem dX9_add_4 : decode cX9_add 4 = .ok (.sipush 256, 3) := by decide +kernel
theorem dX9_add_7 : decode cX9_add 7 = .ok (.if_icmp .lt 5, 3) := by decide +kernel
theorem dX9_add_10 : decode cX9_add 10 = .ok (.iconst (-1), 1) := by decide +kernel
theorem dX9_add_11 : decode cX9_add 11 = .ok (.ireturn, 1) := by decide +kernel
theorem dX9_add_12 : decode cX9_add 12 = .ok (.aload_n 0, 1) := by decide +kernel
theorem dX9_add_13 : decode cX9_add 13 = .ok (.getfield 50, 3) := by decide +kernel
theorem dX9_add_16 : decode cX9_add 16 = .ok (.istore_n 1, 1) := by decide +kernel
theorem dX9_add_17 : decode cX9_add 17 = .ok (.aload_n 0, 1) := by decide +kernel
theorem dX9_add_18 : decode cX9_add 18 = .ok (.dup, 1) := by decide +kernel
theorem dX9_add_19 : decode cX9_add 19 = .ok (.getfield 50, 3) := by decide +kernel
theorem dX9_add_22 : decode cX9_add 22 = .ok (.iconst 1, 1) := by decide +kernel
theorem dX9_add_23 : decode cX9_add 23 = .ok (.iadd, 1) := by decide +kernel
theorem dX9_add_24 : decode cX9_add 24 = .ok (.putfield 50, 3) := by decide +kernel
theorem dX9_add_27 : decode cX9_add 27 = .ok (.aload_n 0, 1) := by decide +kernel
theorem dX9_add_28 : decode cX9_add 28 = .ok (.getfield 9, 3) := by decide +kernel
theorem dX9_add_31 : decode cX9_add 31 = .ok (.iload_n 1, 1) := by decide +kernel
theorem dX9_add_32 : decode cX9_add 32 = .ok (.aload_n 0, 1) := by decide +kernel
theorem dX9_add_33 : decode cX9_add 33 = .ok (.getfield 29, 3) := by decide +kernel
theorem dX9_add_36 : decode cX9_add 36 = .ok (.invokestatic 108, 3) := by decide +kernel
theorem dX9_add_39 : decode cX9_add 39 = .ok (.aload_n 0, 1) := by decide +kernel
theorem dX9_add_40 : decode cX9_add 40 = .ok (.getfield 13, 3) := by decide +kernel
theorem dX9_add_43 : decode cX9_add 43 = .ok (.iload_n 1, 1) := by decide +kernel
theorem dX9_add_44 : decode cX9_add 44 = .ok (.aload_n 0, 1) := by decide +kernel
theorem dX9_add_45 : decode cX9_add 45 = .ok (.getfield 32, 3) := by decide +kernel
theorem dX9_add_48 : decode cX9_add 48 = .ok (.invokestatic 108, 3) := by decide +kernel
theorem dX9_add_51 : decode cX9_add 51 = .ok (.aload_n 0, 1) := by decide +kernel
theorem dX9_add_52 : decode cX9_add 52 = .ok (.getfield 16, 3) := by decide +kernel
theorem dX9_add_55 : decode cX9_add 55 = .ok (.iload_n 1, 1) := by decide +kernel
theorem dX9_add_56 : decode cX9_add 56 = .ok (.aload_n 0, 1) := by decide +kernel
theorem dX9_add_57 : decode cX9_add 57 = .ok (.getfield 35, 3) := by decide +kernel
theorem dX9_add_60 : decode cX9_add 60 = .ok (.invokestatic 108, 3) := by decide +kernel
theorem dX9_add_63 : decode cX9_add 63 = .ok (.aload_n 0, 1) := by decide +kernel
theorem dX9_add_64 : decode cX9_add 64 = .ok (.getfield 19, 3) := by decide +kernel
theorem dX9_add_67 : decode cX9_add 67 = .ok (.iload_n 1, 1) := by decide +kernel
theorem dX9_add_68 : decode cX9_add 68 = .ok (.aload_n 0, 1) := by decide +kernel
theorem dX9_add_69 : decode cX9_add 69 = .ok (.getfield 38, 3) := by decide +kernel
theorem dX9_add_72 : decode cX9_add 72 = .ok (.invokestatic 108, 3) := by decide +kernel
theorem dX9_add_75 : decode cX9_add 75 = .ok (.iconst 0, 1) := by decide +kernel
theorem dX9_add_76 : decode cX9_add 76 = .ok (.istore_n 2, 1) := by decide +kernel
theorem dX9_add_77 : decode cX9_add 77 = .ok (.iload_n 2, 1) := by decide +kernel
theorem dX9_add_78 : decode cX9_add 78 = .ok (.iload_n 1, 1) := by decide +kernel
theorem dX9_add_79 : decode cX9_add 79 = .ok (.if_icmp .ge 51, 3) := by decide +kernel
theorem dX9_add_82 : decode cX9_add 82 = .ok (.aload_n 0, 1) := by decide +kernel
theorem dX9_add_83 : decode cX9_add 83 = .ok (.getfield 35, 3) := by decide +kernel
theorem dX9_add_86 : decode cX9_add 86 = .ok (.iconst 0, 1) := by decide +kernel
theorem dX9_add_87 : decode cX9_add 87 = .ok (.iload_n 2, 1) := by decide +kernel
theorem dX9_add_88 : decode cX9_add 88 = .ok (.invokestatic 93, 3) := by decide +kernel
theorem dX9_add_91 : decode cX9_add 91 = .ok (.ifCond .eq 12, 3) := by decide +kernel
theorem dX9_add_94 : decode cX9_add 94 = .ok (.aload_n 0, 1) := by decide +kernel
theorem dX9_add_95 : decode cX9_add 95 = .ok (.getfield 19, 3) := by decide +kernel
theorem dX9_add_98 : decode cX9_add 98 = .ok (.iload_n 2, 1) := by decide +kernel
theorem dX9_add_99 : decode cX9_add 99 = .ok (.iload_n 1, 1) := by decide +kernel
theorem dX9_add_100 : decode cX9_add 100 = .ok (.invokestatic 75, 3) := by decide +kernel
theorem dX9_add_103 : decode cX9_add 103 = .ok (.aload_n 0, 1) := by decide +kernel
theorem dX9_add_104 : decode cX9_add 104 = .ok (.getfield 38, 3) := by decide +kernel
theorem dX9_add_107 : decode cX9_add 107 = .ok (.iconst 0, 1) := by decide +kernel
theorem dX9_add_108 : decode cX9_add 108 = .ok (.iload_n 2, 1) := by decide +kernel
theorem dX9_add_109 : decode cX9_add 109 = .ok (.invokestatic 93, 3) := by decide +kernel
theorem dX9_add_112 : decode cX9_add 112 = .ok (.ifCond .eq 12, 3) := by decide +kernel
theorem dX9_add_115 : decode cX9_add 115 = .ok (.aload_n 0, 1) := by decide +kernel
theorem dX9_add_116 : decode cX9_add 116 = .ok (.getfield 16, 3) := by decide +kernel
theorem dX9_add_119 : decode cX9_add 119 = .ok (.iload_n 2, 1) := by decide +kernel
theorem dX9_add_120 : decode cX9_add 120 = .ok (.iload_n 1, 1) := by decide +kernel
theorem dX9_add_121 : decode cX9_add 121 = .ok (.invokestatic 75, 3) := by decide +kernel
theorem dX9_add_124 : decode cX9_add 124 = .ok (.iinc 2 1, 3) := by decide +kernel
theorem dX9_add_127 : decode cX9_add 127 = .ok (.goto (-50), 3) := by decide +kernel
theorem dX9_add_130 : decode cX9_add 130 = .ok (.aload_n 0, 1) := by decide +kernel
theorem dX9_add_131 : decode cX9_add 131 = .ok (.getfield 16, 3) := by decide +kernel
theorem dX9_add_134 : decode cX9_add 134 = .ok (.iload_n 1, 1) := by decide +kernel
theorem dX9_add_135 : decode cX9_add 135 = .ok (.iload_n 1, 1) := by decide +kernel
theorem dX9_add_136 : decode cX9_add 136 = .ok (.invokestatic 75, 3) := by decide +kernel
theorem dX9_add_139 : decode cX9_add 139 = .ok (.aload_n 0, 1) := by decide +kernel
theorem dX9_add_140 : decode cX9_add 140 = .ok (.getfield 19, 3) := by decide +kernel
theorem dX9_add_143 : decode cX9_add 143 = .ok (.iload_n 1, 1) := by decide +kernel
theorem dX9_add_144 : decode cX9_add 144 = .ok (.iload_n 1, 1) := by decide +kernel
theorem dX9_add_145 : decode cX9_add 145 = .ok (.invokestatic 75, 3) := by decide +kernel
theorem dX9_add_148 : decode cX9_add 148 = .ok (.aload_n 0, 1) := by decide +kernel
theorem dX9_add_149 : decode cX9_add 149 = .ok (.getfield 22, 3) := by decide +kernel
theorem dX9_add_152 : decode cX9_add 152 = .ok (.iload_n 1, 1) := by decide +kernel
theorem dX9_add_153 : decode cX9_add 153 = .ok (.iconst (-1), 1) := by decide +kernel
theorem dX9_add_154 : decode cX9_add 154 = .ok (.iastore, 1) := by decide +kernel
theorem dX9_add_155 : decode cX9_add 155 = .ok (.aload_n 0, 1) := by decide +kernel
theorem dX9_add_156 : decode cX9_add 156 = .ok (.getfield 26, 3) := by decide +kernel
theorem dX9_add_159 : decode cX9_add 159 = .ok (.iload_n 1, 1) := by decide +kernel
theorem dX9_add_160 : decode cX9_add 160 = .ok (.iconst (-1), 1) := by decide +kernel
theorem dX9_add_161 : decode cX9_add 161 = .ok (.iastore, 1) := by decide +kernel
theorem dX9_add_162 : decode cX9_add 162 = .ok (.iload_n 1, 1) := by decide +kernel
theorem dX9_add_163 : decode cX9_add 163 = .ok (.ireturn, 1) := by decide +kernel
theorem dX9_addLeft_0 : decode cX9_addLeft 0 = .ok (.aload_n 0, 1) := by decide +kernel
theorem dX9_addLeft_1 : decode cX9_addLeft 1 = .ok (.dup, 1) := by decide +kernel
theorem dX9_addLeft_2 : decode cX9_addLeft 2 = .ok (.getfield 61, 3) := by decide +kernel
theorem dX9_addLeft_5 : decode cX9_addLeft 5 = .ok (.aload_n 0, 1) := by decide +kernel
theorem dX9_addLeft_6 : decode cX9_addLeft 6 = .ok (.iload_n 1, 1) := by decide +kernel
theorem dX9_addLeft_7 : decode cX9_addLeft 7 = .ok (.invokevirtual 71, 3) := by decide +kernel
theorem dX9_addLeft_10 : decode cX9_addLeft 10 = .ok (.ifCond .ne 7, 3) := by decide +kernel
theorem dX9_addLeft_13 : decode cX9_addLeft 13 = .ok (.iconst 1, 1) := by decide +kernel
theorem dX9_addLeft_14 : decode cX9_addLeft 14 = .ok (.goto 4, 3) := by decide +kernel
theorem dX9_addLeft_17 : decode cX9_addLeft 17 = .ok (.iconst 0, 1) := by decide +kernel
theorem dX9_addLeft_18 : decode cX9_addLeft 18 = .ok (.ior, 1) := by decide +kernel
theorem dX9_addLeft_19 : decode cX9_addLeft 19 = .ok (.putfield 61, 3) := by decide +kernel
theorem dX9_addLeft_22 : decode cX9_addLeft 22 = .ok (.aload_n 0, 1) := by decide +kernel
theorem dX9_addLeft_23 : decode cX9_addLeft 23 = .ok (.getfield 29, 3) := by decide +kernel
theorem dX9_addLeft_26 : decode cX9_addLeft 26 = .ok (.iconst 0, 1) := by decide +kernel
theorem dX9_addLeft_27 : decode cX9_addLeft 27 = .ok (.iload_n 1, 1) := by decide +kernel
theorem dX9_addLeft_28 : decode cX9_addLeft 28 = .ok (.invokestatic 75, 3) := by decide +kernel
theorem dX9_addLeft_31 : decode cX9_addLeft 31 = .ok (.return_, 1) := by decide +kernel
theorem dX9_addRight_0 : decode cX9_addRight 0 = .ok (.aload_n 0, 1) := by decide +kernel
theorem dX9_addRight_1 : decode cX9_addRight 1 = .ok (.dup, 1) := by decide +kernel
theorem dX9_addRight_2 : decode cX9_addRight 2 = .ok (.getfield 61, 3) := by decide +kernel
theorem dX9_addRight_5 : decode cX9_addRight 5 = .ok (.aload_n 0, 1) := by decide +kernel
theorem dX9_addRight_6 : decode cX9_addRight 6 = .ok (.iload_n 1, 1) := by decide +kernel
theorem dX9_addRight_7 : decode cX9_addRight 7 = .ok (.invokevirtual 71, 3) := by decide +kernel
theorem dX9_addRight_10 : decode cX9_addRight 10 = .ok (.ifCond .ne 7, 3) := by decide +kernel
theorem dX9_addRight_13 : decode cX9_addRight 13 = .ok (.iconst 1, 1) := by decide +kernel
theorem dX9_addRight_14 : decode cX9_addRight 14 = .ok (.goto 4, 3) := by decide +kernel
theorem dX9_addRight_17 : decode cX9_addRight 17 = .ok (.iconst 0, 1) := by decide +kernel
theorem dX9_addRight_18 : decode cX9_addRight 18 = .ok (.ior, 1) := by decide +kernel
theorem dX9_addRight_19 : decode cX9_addRight 19 = .ok (.putfield 61, 3) := by decide +kernel
theorem dX9_addRight_22 : decode cX9_addRight 22 = .ok (.aload_n 0, 1) := by decide +kernel
theorem dX9_addRight_23 : decode cX9_addRight 23 = .ok (.getfield 32, 3) := by decide +kernel
theorem dX9_addRight_26 : decode cX9_addRight 26 = .ok (.iconst 0, 1) := by decide +kernel
theorem dX9_addRight_27 : decode cX9_addRight 27 = .ok (.iload_n 1, 1) := by decide +kernel
theorem dX9_addRight_28 : decode cX9_addRight 28 = .ok (.invokestatic 75, 3) := by decide +kernel
theorem dX9_addRight_31 : decode cX9_addRight 31 = .ok (.return_, 1) := by decide +kernel
theorem dX9_begin_0 : decode cX9_begin 0 = .ok (.aload_n 0, 1) := by decide +kernel
theorem dX9_begin_1 : decode cX9_begin 1 = .ok (.iconst 0, 1) := by decide +kernel
theorem dX9_begin_2 : decode cX9_begin 2 = .ok (.putfield 61, 3) := by decide +kernel
theorem dX9_begin_5 : decode cX9_begin 5 = .ok (.aload_n 0, 1) := by decide +kernel
theorem dX9_begin_6 : decode cX9_begin 6 = .ok (.getfield 29, 3) := by decide +kernel
theorem dX9_begin_9 : decode cX9_begin 9 = .ok (.lconst 0, 1) := by decide +kernel
theorem dX9_begin_10 : decode cX9_begin 10 = .ok (.invokestatic 65, 3) := by decide +kernel
theorem dX9_begin_13 : decode cX9_begin 13 = .ok (.aload_n 0, 1) := by decide +kernel
theorem dX9_begin_14 : decode cX9_begin 14 = .ok (.getfield 32, 3) := by decide +kernel
theorem dX9_begin_17 : decode cX9_begin 17 = .ok (.lconst 0, 1) := by decide +kernel
theorem dX9_begin_18 : decode cX9_begin 18 = .ok (.invokestatic 65, 3) := by decide +kernel
theorem dX9_begin_21 : decode cX9_begin 21 = .ok (.return_, 1) := by decide +kernel
theorem dX9_beginWith_0 : decode cX9_beginWith 0 = .ok (.aload_n 0, 1) := by decide +kernel
theorem dX9_beginWith_1 : decode cX9_beginWith 1 = .ok (.invokevirtual 54, 3) := by decide +kernel
theorem dX9_beginWith_4 : decode cX9_beginWith 4 = .ok (.aload_n 0, 1) := by decide +kernel
theorem dX9_beginWith_5 : decode cX9_beginWith 5 = .ok (.getfield 29, 3) := by decide +kernel
theorem dX9_beginWith_8 : decode cX9_beginWith 8 = .ok (.iconst 0, 1) := by decide +kernel
theorem dX9_beginWith_9 : decode cX9_beginWith 9 = .ok (.lload_n 1, 1) := by decide +kernel
theorem dX9_beginWith_10 : decode cX9_beginWith 10 = .ok (.lastore, 1) := by decide +kernel
theorem dX9_beginWith_11 : decode cX9_beginWith 11 = .ok (.aload_n 0, 1) := by decide +kernel
theorem dX9_beginWith_12 : decode cX9_beginWith 12 = .ok (.getfield 32, 3) := by decide +kernel
theorem dX9_beginWith_15 : decode cX9_beginWith 15 = .ok (.iconst 0, 1) := by decide +kernel
theorem dX9_beginWith_16 : decode cX9_beginWith 16 = .ok (.lload_n 3, 1) := by decide +kernel
theorem dX9_beginWith_17 : decode cX9_beginWith 17 = .ok (.lastore, 1) := by decide +kernel
theorem dX9_beginWith_18 : decode cX9_beginWith 18 = .ok (.return_, 1) := by decide +kernel
theorem dX9_bypass_0 : decode cX9_bypass 0 = .ok (.aload_n 1, 1) := by decide +kernel
theorem dX9_bypass_1 : decode cX9_bypass 1 = .ok (.iconst 0, 1) := by decide +kernel
theorem dX9_bypass_2 : decode cX9_bypass 2 = .ok (.iload_n 2, 1) := by decide +kernel
theorem dX9_bypass_3 : decode cX9_bypass 3 = .ok (.invokestatic 93, 3) := by decide +kernel
theorem dX9_bypass_6 : decode cX9_bypass 6 = .ok (.ifCond .ne 4, 3) := by decide +kernel
theorem dX9_bypass_9 : decode cX9_bypass 9 = .ok (.return_, 1) := by decide +kernel
theorem dX9_bypass_10 : decode cX9_bypass 10 = .ok (.iconst 0, 1) := by decide +kernel
theorem dX9_bypass_11 : decode cX9_bypass 11 = .ok (.istore 6, 2) := by decide +kernel
theorem dX9_bypass_13 : decode cX9_bypass 13 = .ok (.iload 6, 2) := by decide +kernel
theorem dX9_bypass_15 : decode cX9_bypass 15 = .ok (.iload_n 2, 1) := by decide +kernel
theorem dX9_bypass_16 : decode cX9_bypass 16 = .ok (.if_icmp .ge 45, 3) := by decide +kernel
theorem dX9_bypass_19 : decode cX9_bypass 19 = .ok (.aload_n 3, 1) := by decide +kernel
theorem dX9_bypass_20 : decode cX9_bypass 20 = .ok (.iload_n 2, 1) := by decide +kernel
theorem dX9_bypass_21 : decode cX9_bypass 21 = .ok (.iload 6, 2) := by decide +kernel
theorem dX9_bypass_23 : decode cX9_bypass 23 = .ok (.invokestatic 93, 3) := by decide +kernel
theorem dX9_bypass_26 : decode cX9_bypass 26 = .ok (.ifCond .eq 29, 3) := by decide +kernel
theorem dX9_bypass_29 : decode cX9_bypass 29 = .ok (.aload 4, 2) := by decide +kernel
theorem dX9_bypass_31 : decode cX9_bypass 31 = .ok (.iconst 0, 1) := by decide +kernel
theorem dX9_bypass_32 : decode cX9_bypass 32 = .ok (.iload 6, 2) := by decide +kernel
theorem dX9_bypass_34 : decode cX9_bypass 34 = .ok (.invokestatic 93, 3) := by decide +kernel
theorem dX9_bypass_37 : decode cX9_bypass 37 = .ok (.ifCond .eq 18, 3) := by decide +kernel
theorem dX9_bypass_40 : decode cX9_bypass 40 = .ok (.aload_n 1, 1) := by decide +kernel
theorem dX9_bypass_41 : decode cX9_bypass 41 = .ok (.iconst 0, 1) := by decide +kernel
theorem dX9_bypass_42 : decode cX9_bypass 42 = .ok (.iload_n 2, 1) := by decide +kernel
theorem dX9_bypass_43 : decode cX9_bypass 43 = .ok (.invokestatic 105, 3) := by decide +kernel
theorem dX9_bypass_46 : decode cX9_bypass 46 = .ok (.aload_n 1, 1) := by decide +kernel
theorem dX9_bypass_47 : decode cX9_bypass 47 = .ok (.aload 5, 2) := by decide +kernel
theorem dX9_bypass_49 : decode cX9_bypass 49 = .ok (.iload 6, 2) := by decide +kernel
theorem dX9_bypass_51 : decode cX9_bypass 51 = .ok (.invokestatic 97, 3) := by decide +kernel
theorem dX9_bypass_54 : decode cX9_bypass 54 = .ok (.return_, 1) := by decide +kernel
theorem dX9_bypass_55 : decode cX9_bypass 55 = .ok (.iinc 6 1, 3) := by decide +kernel
theorem dX9_bypass_58 : decode cX9_bypass 58 = .ok (.goto (-45), 3) := by decide +kernel
theorem dX9_bypass_61 : decode cX9_bypass 61 = .ok (.return_, 1) := by decide +kernel
theorem dX9_clear_0 : decode cX9_clear 0 = .ok (.aload_n 0, 1) := by decide +kernel
theorem dX9_clear_1 : decode cX9_clear 1 = .ok (.iconst 0, 1) := by decide +kernel
theorem dX9_clear_2 : decode cX9_clear 2 = .ok (.putfield 50, 3) := by decide +kernel
theorem dX9_clear_5 : decode cX9_clear 5 = .ok (.aload_n 0, 1) := by decide +kernel
theorem dX9_clear_6 : decode cX9_clear 6 = .ok (.invokevirtual 54, 3) := by decide +kernel
theorem dX9_clear_9 : decode cX9_clear 9 = .ok (.aload_n 0, 1) := by decide +kernel
theorem dX9_clear_10 : decode cX9_clear 10 = .ok (.invokevirtual 57, 3) := by decide +kernel
theorem dX9_clear_13 : decode cX9_clear 13 = .ok (.pop, 1) := by decide +kernel
theorem dX9_clear_14 : decode cX9_clear 14 = .ok (.return_, 1) := by decide +kernel
theorem dX9_compareAll_0 : decode cX9_compareAll 0 = .ok (.aload_n 0, 1) := by decide +kernel
theorem dX9_compareAll_1 : decode cX9_compareAll 1 = .ok (.getfield 35, 3) := by decide +kernel
theorem dX9_compareAll_4 : decode cX9_compareAll 4 = .ok (.lconst 0, 1) := by decide +kernel
theorem dX9_compareAll_5 : decode cX9_compareAll 5 = .ok (.invokestatic 65, 3) := by decide +kernel
theorem dX9_compareAll_8 : decode cX9_compareAll 8 = .ok (.aload_n 0, 1) := by decide +kernel
theorem dX9_compareAll_9 : decode cX9_compareAll 9 = .ok (.getfield 38, 3) := by decide +kernel
theorem dX9_compareAll_12 : decode cX9_compareAll 12 = .ok (.lconst 0, 1) := by decide +kernel
theorem dX9_compareAll_13 : decode cX9_compareAll 13 = .ok (.invokestatic 65, 3) := by decide +kernel
theorem dX9_compareAll_16 : decode cX9_compareAll 16 = .ok (.aload_n 0, 1) := by decide +kernel
theorem dX9_compareAll_17 : decode cX9_compareAll 17 = .ok (.getfield 41, 3) := by decide +kernel
theorem dX9_compareAll_20 : decode cX9_compareAll 20 = .ok (.lconst 0, 1) := by decide +kernel
theorem dX9_compareAll_21 : decode cX9_compareAll 21 = .ok (.invokestatic 65, 3) := by decide +kernel
theorem dX9_compareAll_24 : decode cX9_compareAll 24 = .ok (.aload_n 0, 1) := by decide +kernel
theorem dX9_compareAll_25 : decode cX9_compareAll 25 = .ok (.getfield 44, 3) := by decide +kernel
theorem dX9_compareAll_28 : decode cX9_compareAll 28 = .ok (.lconst 0, 1) := by decide +kernel
theorem dX9_compareAll_29 : decode cX9_compareAll 29 = .ok (.invokestatic 65, 3) := by decide +kernel
theorem dX9_compareAll_32 : decode cX9_compareAll 32 = .ok (.iconst 0, 1) := by decide +kernel
theorem dX9_compareAll_33 : decode cX9_compareAll 33 = .ok (.istore_n 1, 1) := by decide +kernel
theorem dX9_compareAll_34 : decode cX9_compareAll 34 = .ok (.iload_n 1, 1) := by decide +kernel
theorem dX9_compareAll_35 : decode cX9_compareAll 35 = .ok (.aload_n 0, 1) := by decide +kernel
theorem dX9_compareAll_36 : decode cX9_compareAll 36 = .ok (.getfield 50, 3) := by decide +kernel
theorem dX9_compareAll_39 : decode cX9_compareAll 39 = .ok (.if_icmp .ge 57, 3) := by decide +kernel
theorem dX9_compareAll_42 : decode cX9_compareAll 42 = .ok (.aload_n 0, 1) := by decide +kernel
theorem dX9_compareAll_43 : decode cX9_compareAll 43 = .ok (.getfield 29, 3) := by decide +kernel
theorem dX9_compareAll_46 : decode cX9_compareAll 46 = .ok (.iconst 0, 1) := by decide +kernel
theorem dX9_compareAll_47 : decode cX9_compareAll 47 = .ok (.iload_n 1, 1) := by decide +kernel
theorem dX9_compareAll_48 : decode cX9_compareAll 48 = .ok (.invokestatic 93, 3) := by decide +kernel
theorem dX9_compareAll_51 : decode cX9_compareAll 51 = .ok (.ifCond .eq 15, 3) := by decide +kernel
theorem dX9_compareAll_54 : decode cX9_compareAll 54 = .ok (.aload_n 0, 1) := by decide +kernel
theorem dX9_compareAll_55 : decode cX9_compareAll 55 = .ok (.getfield 41, 3) := by decide +kernel
theorem dX9_compareAll_58 : decode cX9_compareAll 58 = .ok (.aload_n 0, 1) := by decide +kernel
theorem dX9_compareAll_59 : decode cX9_compareAll 59 = .ok (.getfield 19, 3) := by decide +kernel
theorem dX9_compareAll_62 : decode cX9_compareAll 62 = .ok (.iload_n 1, 1) := by decide +kernel
theorem dX9_compareAll_63 : decode cX9_compareAll 63 = .ok (.invokestatic 97, 3) := by decide +kernel
theorem dX9_compareAll_66 : decode cX9_compareAll 66 = .ok (.aload_n 0, 1) := by decide +kernel
theorem dX9_compareAll_67 : decode cX9_compareAll 67 = .ok (.getfield 32, 3) := by decide +kernel
theorem dX9_compareAll_70 : decode cX9_compareAll 70 = .ok (.iconst 0, 1) := by decide +kernel
theorem dX9_compareAll_71 : decode cX9_compareAll 71 = .ok (.iload_n 1, 1) := by decide +kernel
theorem dX9_compareAll_72 : decode cX9_compareAll 72 = .ok (.invokestatic 93, 3) := by decide +kernel
theorem dX9_compareAll_75 : decode cX9_compareAll 75 = .ok (.ifCond .eq 15, 3) := by decide +kernel
theorem dX9_compareAll_78 : decode cX9_compareAll 78 = .ok (.aload_n 0, 1) := by decide +kernel
theorem dX9_compareAll_79 : decode cX9_compareAll 79 = .ok (.getfield 44, 3) := by decide +kernel
theorem dX9_compareAll_82 : decode cX9_compareAll 82 = .ok (.aload_n 0, 1) := by decide +kernel
theorem dX9_compareAll_83 : decode cX9_compareAll 83 = .ok (.getfield 16, 3) := by decide +kernel
theorem dX9_compareAll_86 : decode cX9_compareAll 86 = .ok (.iload_n 1, 1) := by decide +kernel
theorem dX9_compareAll_87 : decode cX9_compareAll 87 = .ok (.invokestatic 97, 3) := by decide +kernel
theorem dX9_compareAll_90 : decode cX9_compareAll 90 = .ok (.iinc 1 1, 3) := by decide +kernel
theorem dX9_compareAll_93 : decode cX9_compareAll 93 = .ok (.goto (-59), 3) := by decide +kernel
theorem dX9_compareAll_96 : decode cX9_compareAll 96 = .ok (.iconst 0, 1) := by decide +kernel
theorem dX9_compareAll_97 : decode cX9_compareAll 97 = .ok (.istore_n 1, 1) := by decide +kernel
theorem dX9_compareAll_98 : decode cX9_compareAll 98 = .ok (.iload_n 1, 1) := by decide +kernel
theorem dX9_compareAll_99 : decode cX9_compareAll 99 = .ok (.aload_n 0, 1) := by decide +kernel
theorem dX9_compareAll_100 : decode cX9_compareAll 100 = .ok (.getfield 50, 3) := by decide +kernel
theorem dX9_compareAll_103 : decode cX9_compareAll 103 = .ok (.if_icmp .ge 111, 3) := by decide +kernel
theorem dX9_compareAll_106 : decode cX9_compareAll 106 = .ok (.aload_n 0, 1) := by decide +kernel
theorem dX9_compareAll_107 : decode cX9_compareAll 107 = .ok (.getfield 41, 3) := by decide +kernel
theorem dX9_compareAll_110 : decode cX9_compareAll 110 = .ok (.iconst 0, 1) := by decide +kernel
theorem dX9_compareAll_111 : decode cX9_compareAll 111 = .ok (.iload_n 1, 1) := by decide +kernel
theorem dX9_compareAll_112 : decode cX9_compareAll 112 = .ok (.invokestatic 93, 3) := by decide +kernel
theorem dX9_compareAll_115 : decode cX9_compareAll 115 = .ok (.ifCond .ne 22, 3) := by decide +kernel
theorem dX9_compareAll_118 : decode cX9_compareAll 118 = .ok (.aload_n 0, 1) := by decide +kernel
theorem dX9_compareAll_119 : decode cX9_compareAll 119 = .ok (.getfield 13, 3) := by decide +kernel
theorem dX9_compareAll_122 : decode cX9_compareAll 122 = .ok (.iload_n 1, 1) := by decide +kernel
theorem dX9_compareAll_123 : decode cX9_compareAll 123 = .ok (.aload_n 0, 1) := by decide +kernel
theorem dX9_compareAll_124 : decode cX9_compareAll 124 = .ok (.getfield 38, 3) := by decide +kernel
theorem dX9_compareAll_127 : decode cX9_compareAll 127 = .ok (.invokestatic 101, 3) := by decide +kernel
theorem dX9_compareAll_130 : decode cX9_compareAll 130 = .ok (.ifCond .ne 7, 3) := by decide +kernel
theorem dX9_compareAll_133 : decode cX9_compareAll 133 = .ok (.iconst 1, 1) := by decide +kernel
theorem dX9_compareAll_134 : decode cX9_compareAll 134 = .ok (.goto 4, 3) := by decide +kernel
theorem dX9_compareAll_137 : decode cX9_compareAll 137 = .ok (.iconst 0, 1) := by decide +kernel
theorem dX9_compareAll_138 : decode cX9_compareAll 138 = .ok (.istore_n 2, 1) := by decide +kernel
theorem dX9_compareAll_139 : decode cX9_compareAll 139 = .ok (.aload_n 0, 1) := by decide +kernel
theorem dX9_compareAll_140 : decode cX9_compareAll 140 = .ok (.getfield 44, 3) := by decide +kernel
theorem dX9_compareAll_143 : decode cX9_compareAll 143 = .ok (.iconst 0, 1) := by decide +kernel
theorem dX9_compareAll_144 : decode cX9_compareAll 144 = .ok (.iload_n 1, 1) := by decide +kernel
theorem dX9_compareAll_145 : decode cX9_compareAll 145 = .ok (.invokestatic 93, 3) := by decide +kernel
theorem dX9_compareAll_148 : decode cX9_compareAll 148 = .ok (.ifCond .ne 22, 3) := by decide +kernel
theorem dX9_compareAll_151 : decode cX9_compareAll 151 = .ok (.aload_n 0, 1) := by decide +kernel
theorem dX9_compareAll_152 : decode cX9_compareAll 152 = .ok (.getfield 9, 3) := by decide +kernel
theorem dX9_compareAll_155 : decode cX9_compareAll 155 = .ok (.iload_n 1, 1) := by decide +kernel
theorem dX9_compareAll_156 : decode cX9_compareAll 156 = .ok (.aload_n 0, 1) := by decide +kernel
theorem dX9_compareAll_157 : decode cX9_compareAll 157 = .ok (.getfield 35, 3) := by decide +kernel
theorem dX9_compareAll_160 : decode cX9_compareAll 160 = .ok (.invokestatic 101, 3) := by decide +kernel
theorem dX9_compareAll_163 : decode cX9_compareAll 163 = .ok (.ifCond .ne 7, 3) := by decide +kernel
theorem dX9_compareAll_166 : decode cX9_compareAll 166 = .ok (.iconst 1, 1) := by decide +kernel
theorem dX9_compareAll_167 : decode cX9_compareAll 167 = .ok (.goto 4, 3) := by decide +kernel
theorem dX9_compareAll_170 : decode cX9_compareAll 170 = .ok (.iconst 0, 1) := by decide +kernel
theorem dX9_compareAll_171 : decode cX9_compareAll 171 = .ok (.istore_n 3, 1) := by decide +kernel
theorem dX9_compareAll_172 : decode cX9_compareAll 172 = .ok (.iload_n 2, 1) := by decide +kernel
theorem dX9_compareAll_173 : decode cX9_compareAll 173 = .ok (.ifCond .eq 9, 3) := by decide +kernel
theorem dX9_compareAll_176 : decode cX9_compareAll 176 = .ok (.iload_n 3, 1) := by decide +kernel
theorem dX9_compareAll_177 : decode cX9_compareAll 177 = .ok (.ifCond .eq 5, 3) := by decide +kernel
theorem dX9_compareAll_180 : decode cX9_compareAll 180 = .ok (.iload_n 1, 1) := by decide +kernel
theorem dX9_compareAll_181 : decode cX9_compareAll 181 = .ok (.ireturn, 1) := by decide +kernel
theorem dX9_compareAll_182 : decode cX9_compareAll 182 = .ok (.iload_n 2, 1) := by decide +kernel
theorem dX9_compareAll_183 : decode cX9_compareAll 183 = .ok (.ifCond .eq 12, 3) := by decide +kernel
theorem dX9_compareAll_186 : decode cX9_compareAll 186 = .ok (.aload_n 0, 1) := by decide +kernel
theorem dX9_compareAll_187 : decode cX9_compareAll 187 = .ok (.getfield 35, 3) := by decide +kernel
theorem dX9_compareAll_190 : decode cX9_compareAll 190 = .ok (.iconst 0, 1) := by decide +kernel
theorem dX9_compareAll_191 : decode cX9_compareAll 191 = .ok (.iload_n 1, 1) := by decide +kernel
theorem dX9_compareAll_192 : decode cX9_compareAll 192 = .ok (.invokestatic 75, 3) := by decide +kernel
theorem dX9_compareAll_195 : decode cX9_compareAll 195 = .ok (.iload_n 3, 1) := by decide +kernel
theorem dX9_compareAll_196 : decode cX9_compareAll 196 = .ok (.ifCond .eq 12, 3) := by decide +kernel
theorem dX9_compareAll_199 : decode cX9_compareAll 199 = .ok (.aload_n 0, 1) := by decide +kernel
theorem dX9_compareAll_200 : decode cX9_compareAll 200 = .ok (.getfield 38, 3) := by decide +kernel
theorem dX9_compareAll_203 : decode cX9_compareAll 203 = .ok (.iconst 0, 1) := by decide +kernel
theorem dX9_compareAll_204 : decode cX9_compareAll 204 = .ok (.iload_n 1, 1) := by decide +kernel
theorem dX9_compareAll_205 : decode cX9_compareAll 205 = .ok (.invokestatic 75, 3) := by decide +kernel
theorem dX9_compareAll_208 : decode cX9_compareAll 208 = .ok (.iinc 1 1, 3) := by decide +kernel
theorem dX9_compareAll_211 : decode cX9_compareAll 211 = .ok (.goto (-113), 3) := by decide +kernel
theorem dX9_compareAll_214 : decode cX9_compareAll 214 = .ok (.iconst (-1), 1) := by decide +kernel
theorem dX9_compareAll_215 : decode cX9_compareAll 215 = .ok (.ireturn, 1) := by decide +kernel
theorem dX9_dropIfOutdone_0 : decode cX9_dropIfOutdone 0 = .ok (.aload_n 1, 1) := by decide +kernel
theorem dX9_dropIfOutdone_1 : decode cX9_dropIfOutdone 1 = .ok (.iconst 0, 1) := by decide +kernel
theorem dX9_dropIfOutdone_2 : decode cX9_dropIfOutdone 2 = .ok (.iload_n 2, 1) := by decide +kernel
theorem dX9_dropIfOutdone_3 : decode cX9_dropIfOutdone 3 = .ok (.invokestatic 93, 3) := by decide +kernel
theorem dX9_dropIfOutdone_6 : decode cX9_dropIfOutdone 6 = .ok (.ifCond .eq 24, 3) := by decide +kernel
theorem dX9_dropIfOutdone_9 : decode cX9_dropIfOutdone 9 = .ok (.aload_n 1, 1) := by decide +kernel
theorem dX9_dropIfOutdone_10 : decode cX9_dropIfOutdone 10 = .ok (.iconst 0, 1) := by decide +kernel
theorem dX9_dropIfOutdone_11 : decode cX9_dropIfOutdone 11 = .ok (.iload_n 2, 1) := by decide +kernel
theorem dX9_dropIfOutdone_12 : decode cX9_dropIfOutdone 12 = .ok (.invokestatic 105, 3) := by decide +kernel
theorem dX9_dropIfOutdone_15 : decode cX9_dropIfOutdone 15 = .ok (.aload_n 3, 1) := by decide +kernel
theorem dX9_dropIfOutdone_16 : decode cX9_dropIfOutdone 16 = .ok (.iload_n 2, 1) := by decide +kernel
theorem dX9_dropIfOutdone_17 : decode cX9_dropIfOutdone 17 = .ok (.aload_n 1, 1) := by decide +kernel
theorem dX9_dropIfOutdone_18 : decode cX9_dropIfOutdone 18 = .ok (.invokestatic 101, 3) := by decide +kernel
theorem dX9_dropIfOutdone_21 : decode cX9_dropIfOutdone 21 = .ok (.ifCond .ne 9, 3) := by decide +kernel
theorem dX9_dropIfOutdone_24 : decode cX9_dropIfOutdone 24 = .ok (.aload_n 1, 1) := by decide +kernel
theorem dX9_dropIfOutdone_25 : decode cX9_dropIfOutdone 25 = .ok (.iconst 0, 1) := by decide +kernel
theorem dX9_dropIfOutdone_26 : decode cX9_dropIfOutdone 26 = .ok (.iload_n 2, 1) := by decide +kernel
theorem dX9_dropIfOutdone_27 : decode cX9_dropIfOutdone 27 = .ok (.invokestatic 75, 3) := by decide +kernel
theorem dX9_dropIfOutdone_30 : decode cX9_dropIfOutdone 30 = .ok (.return_, 1) := by decide +kernel
theorem dX9_end_0 : decode cX9_end 0 = .ok (.aload_n 0, 1) := by decide +kernel
theorem dX9_end_1 : decode cX9_end 1 = .ok (.getfield 61, 3) := by decide +kernel
theorem dX9_end_4 : decode cX9_end 4 = .ok (.ifCond .eq 5, 3) := by decide +kernel
theorem dX9_end_7 : decode cX9_end 7 = .ok (.iconst (-1), 1) := by decide +kernel
theorem dX9_end_8 : decode cX9_end 8 = .ok (.ireturn, 1) := by decide +kernel
theorem dX9_end_9 : decode cX9_end 9 = .ok (.aload_n 0, 1) := by decide +kernel
theorem dX9_end_10 : decode cX9_end 10 = .ok (.invokevirtual 79, 3) := by decide +kernel
theorem dX9_end_13 : decode cX9_end 13 = .ok (.istore_n 1, 1) := by decide +kernel
theorem dX9_end_14 : decode cX9_end 14 = .ok (.iload_n 1, 1) := by decide +kernel
theorem dX9_end_15 : decode cX9_end 15 = .ok (.ifCond .lt 5, 3) := by decide +kernel
theorem dX9_end_18 : decode cX9_end 18 = .ok (.iload_n 1, 1) := by decide +kernel
theorem dX9_end_19 : decode cX9_end 19 = .ok (.ireturn, 1) := by decide +kernel
theorem dX9_end_20 : decode cX9_end 20 = .ok (.aload_n 0, 1) := by decide +kernel
theorem dX9_end_21 : decode cX9_end 21 = .ok (.getfield 50, 3) := by decide +kernel
theorem dX9_end_24 : decode cX9_end 24 = .ok (.iconst 1, 1) := by decide +kernel
theorem dX9_end_25 : decode cX9_end 25 = .ok (.isub, 1) := by decide +kernel
theorem dX9_end_26 : decode cX9_end 26 = .ok (.istore_n 2, 1) := by decide +kernel
theorem dX9_end_27 : decode cX9_end 27 = .ok (.iload_n 2, 1) := by decide +kernel
theorem dX9_end_28 : decode cX9_end 28 = .ok (.ifCond .lt 51, 3) := by decide +kernel
theorem dX9_end_31 : decode cX9_end 31 = .ok (.aload_n 0, 1) := by decide +kernel
theorem dX9_end_32 : decode cX9_end 32 = .ok (.aload_n 0, 1) := by decide +kernel
theorem dX9_end_33 : decode cX9_end 33 = .ok (.getfield 29, 3) := by decide +kernel
theorem dX9_end_36 : decode cX9_end 36 = .ok (.iload_n 2, 1) := by decide +kernel
theorem dX9_end_37 : decode cX9_end 37 = .ok (.aload_n 0, 1) := by decide +kernel
theorem dX9_end_38 : decode cX9_end 38 = .ok (.getfield 13, 3) := by decide +kernel
theorem dX9_end_41 : decode cX9_end 41 = .ok (.aload_n 0, 1) := by decide +kernel
theorem dX9_end_42 : decode cX9_end 42 = .ok (.getfield 38, 3) := by decide +kernel
theorem dX9_end_45 : decode cX9_end 45 = .ok (.aload_n 0, 1) := by decide +kernel
theorem dX9_end_46 : decode cX9_end 46 = .ok (.getfield 9, 3) := by decide +kernel
theorem dX9_end_49 : decode cX9_end 49 = .ok (.invokevirtual 82, 3) := by decide +kernel
theorem dX9_end_52 : decode cX9_end 52 = .ok (.aload_n 0, 1) := by decide +kernel
theorem dX9_end_53 : decode cX9_end 53 = .ok (.aload_n 0, 1) := by decide +kernel
theorem dX9_end_54 : decode cX9_end 54 = .ok (.getfield 32, 3) := by decide +kernel
theorem dX9_end_57 : decode cX9_end 57 = .ok (.iload_n 2, 1) := by decide +kernel
theorem dX9_end_58 : decode cX9_end 58 = .ok (.aload_n 0, 1) := by decide +kernel
theorem dX9_end_59 : decode cX9_end 59 = .ok (.getfield 9, 3) := by decide +kernel
theorem dX9_end_62 : decode cX9_end 62 = .ok (.aload_n 0, 1) := by decide +kernel
theorem dX9_end_63 : decode cX9_end 63 = .ok (.getfield 35, 3) := by decide +kernel
theorem dX9_end_66 : decode cX9_end 66 = .ok (.aload_n 0, 1) := by decide +kernel
theorem dX9_end_67 : decode cX9_end 67 = .ok (.getfield 13, 3) := by decide +kernel
theorem dX9_end_70 : decode cX9_end 70 = .ok (.invokevirtual 82, 3) := by decide +kernel
theorem dX9_end_73 : decode cX9_end 73 = .ok (.iinc 2 (-1), 3) := by decide +kernel
theorem dX9_end_76 : decode cX9_end 76 = .ok (.goto (-49), 3) := by decide +kernel
theorem dX9_end_79 : decode cX9_end 79 = .ok (.iconst 0, 1) := by decide +kernel
theorem dX9_end_80 : decode cX9_end 80 = .ok (.istore_n 2, 1) := by decide +kernel
theorem dX9_end_81 : decode cX9_end 81 = .ok (.iload_n 2, 1) := by decide +kernel
theorem dX9_end_82 : decode cX9_end 82 = .ok (.aload_n 0, 1) := by decide +kernel
theorem dX9_end_83 : decode cX9_end 83 = .ok (.getfield 50, 3) := by decide +kernel
theorem dX9_end_86 : decode cX9_end 86 = .ok (.if_icmp .ge 35, 3) := by decide +kernel
theorem dX9_end_89 : decode cX9_end 89 = .ok (.aload_n 0, 1) := by decide +kernel
theorem dX9_end_90 : decode cX9_end 90 = .ok (.aload_n 0, 1) := by decide +kernel
theorem dX9_end_91 : decode cX9_end 91 = .ok (.getfield 29, 3) := by decide +kernel
theorem dX9_end_94 : decode cX9_end 94 = .ok (.iload_n 2, 1) := by decide +kernel
theorem dX9_end_95 : decode cX9_end 95 = .ok (.aload_n 0, 1) := by decide +kernel
theorem dX9_end_96 : decode cX9_end 96 = .ok (.getfield 16, 3) := by decide +kernel
theorem dX9_end_99 : decode cX9_end 99 = .ok (.invokevirtual 86, 3) := by decide +kernel
theorem dX9_end_102 : decode cX9_end 102 = .ok (.aload_n 0, 1) := by decide +kernel
theorem dX9_end_103 : decode cX9_end 103 = .ok (.aload_n 0, 1) := by decide +kernel
theorem dX9_end_104 : decode cX9_end 104 = .ok (.getfield 32, 3) := by decide +kernel
theorem dX9_end_107 : decode cX9_end 107 = .ok (.iload_n 2, 1) := by decide +kernel
theorem dX9_end_108 : decode cX9_end 108 = .ok (.aload_n 0, 1) := by decide +kernel
theorem dX9_end_109 : decode cX9_end 109 = .ok (.getfield 19, 3) := by decide +kernel
theorem dX9_end_112 : decode cX9_end 112 = .ok (.invokevirtual 86, 3) := by decide +kernel
theorem dX9_end_115 : decode cX9_end 115 = .ok (.iinc 2 1, 3) := by decide +kernel
theorem dX9_end_118 : decode cX9_end 118 = .ok (.goto (-37), 3) := by decide +kernel
theorem dX9_end_121 : decode cX9_end 121 = .ok (.aload_n 0, 1) := by decide +kernel
theorem dX9_end_122 : decode cX9_end 122 = .ok (.invokevirtual 90, 3) := by decide +kernel
theorem dX9_end_125 : decode cX9_end 125 = .ok (.ireturn, 1) := by decide +kernel
theorem dX9_followers_0 : decode cX9_followers 0 = .ok (.aload_n 0, 1) := by decide +kernel
theorem dX9_followers_1 : decode cX9_followers 1 = .ok (.iload_n 1, 1) := by decide +kernel
theorem dX9_followers_2 : decode cX9_followers 2 = .ok (.invokevirtual 71, 3) := by decide +kernel
theorem dX9_followers_5 : decode cX9_followers 5 = .ok (.ifCond .ne 5, 3) := by decide +kernel
theorem dX9_followers_8 : decode cX9_followers 8 = .ok (.iconst (-1), 1) := by decide +kernel
theorem dX9_followers_9 : decode cX9_followers 9 = .ok (.ireturn, 1) := by decide +kernel
theorem dX9_followers_10 : decode cX9_followers 10 = .ok (.aload_n 0, 1) := by decide +kernel
theorem dX9_followers_11 : decode cX9_followers 11 = .ok (.iload_n 1, 1) := by decide +kernel
theorem dX9_followers_12 : decode cX9_followers 12 = .ok (.invokevirtual 115, 3) := by decide +kernel
theorem dX9_followers_15 : decode cX9_followers 15 = .ok (.iconst 0, 1) := by decide +kernel
theorem dX9_followers_16 : decode cX9_followers 16 = .ok (.istore_n 3, 1) := by decide +kernel
theorem dX9_followers_17 : decode cX9_followers 17 = .ok (.iconst 0, 1) := by decide +kernel
theorem dX9_followers_18 : decode cX9_followers 18 = .ok (.istore 4, 2) := by decide +kernel
theorem dX9_followers_20 : decode cX9_followers 20 = .ok (.iload 4, 2) := by decide +kernel
theorem dX9_followers_22 : decode cX9_followers 22 = .ok (.iload_n 1, 1) := by decide +kernel
theorem dX9_followers_23 : decode cX9_followers 23 = .ok (.if_icmp .gt 38, 3) := by decide +kernel
theorem dX9_followers_26 : decode cX9_followers 26 = .ok (.aload_n 0, 1) := by decide +kernel
theorem dX9_followers_27 : decode cX9_followers 27 = .ok (.getfield 47, 3) := by decide +kernel
theorem dX9_followers_30 : decode cX9_followers 30 = .ok (.iconst 0, 1) := by decide +kernel
theorem dX9_followers_31 : decode cX9_followers 31 = .ok (.iload 4, 2) := by decide +kernel
theorem dX9_followers_33 : decode cX9_followers 33 = .ok (.invokestatic 93, 3) := by decide +kernel
theorem dX9_followers_36 : decode cX9_followers 36 = .ok (.ifCond .eq 19, 3) := by decide +kernel
theorem dX9_followers_39 : decode cX9_followers 39 = .ok (.iload_n 3, 1) := by decide +kernel
theorem dX9_followers_40 : decode cX9_followers 40 = .ok (.aload_n 2, 1) := by decide +kernel
theorem dX9_followers_41 : decode cX9_followers 41 = .ok (.arraylength, 1) := by decide +kernel
theorem dX9_followers_42 : decode cX9_followers 42 = .ok (.if_icmp .lt 5, 3) := by decide +kernel
theorem dX9_followers_45 : decode cX9_followers 45 = .ok (.iconst (-1), 1) := by decide +kernel
theorem dX9_followers_46 : decode cX9_followers 46 = .ok (.ireturn, 1) := by decide +kernel
theorem dX9_followers_47 : decode cX9_followers 47 = .ok (.aload_n 2, 1) := by decide +kernel
theorem dX9_followers_48 : decode cX9_followers 48 = .ok (.iload_n 3, 1) := by decide +kernel
theorem dX9_followers_49 : decode cX9_followers 49 = .ok (.iload 4, 2) := by decide +kernel
theorem dX9_followers_51 : decode cX9_followers 51 = .ok (.iastore, 1) := by decide +kernel
theorem dX9_followers_52 : decode cX9_followers 52 = .ok (.iinc 3 1, 3) := by decide +kernel
theorem dX9_followers_55 : decode cX9_followers 55 = .ok (.iinc 4 1, 3) := by decide +kernel
theorem dX9_followers_58 : decode cX9_followers 58 = .ok (.goto (-38), 3) := by decide +kernel
theorem dX9_followers_61 : decode cX9_followers 61 = .ok (.iload_n 3, 1) := by decide +kernel
theorem dX9_followers_62 : decode cX9_followers 62 = .ok (.ireturn, 1) := by decide +kernel
theorem dX9_gather_0 : decode cX9_gather 0 = .ok (.aload_n 0, 1) := by decide +kernel
theorem dX9_gather_1 : decode cX9_gather 1 = .ok (.getfield 47, 3) := by decide +kernel
theorem dX9_gather_4 : decode cX9_gather 4 = .ok (.lconst 0, 1) := by decide +kernel
theorem dX9_gather_5 : decode cX9_gather 5 = .ok (.invokestatic 65, 3) := by decide +kernel
theorem dX9_gather_8 : decode cX9_gather 8 = .ok (.aload_n 0, 1) := by decide +kernel
theorem dX9_gather_9 : decode cX9_gather 9 = .ok (.getfield 47, 3) := by decide +kernel
theorem dX9_gather_12 : decode cX9_gather 12 = .ok (.iconst 0, 1) := by decide +kernel
theorem dX9_gather_13 : decode cX9_gather 13 = .ok (.iload_n 1, 1) := by decide +kernel
theorem dX9_gather_14 : decode cX9_gather 14 = .ok (.invokestatic 75, 3) := by decide +kernel
theorem dX9_gather_17 : decode cX9_gather 17 = .ok (.iload_n 1, 1) := by decide +kernel
theorem dX9_gather_18 : decode cX9_gather 18 = .ok (.istore_n 2, 1) := by decide +kernel
theorem dX9_gather_19 : decode cX9_gather 19 = .ok (.iload_n 2, 1) := by decide +kernel
theorem dX9_gather_20 : decode cX9_gather 20 = .ok (.ifCond .lt 45, 3) := by decide +kernel
theorem dX9_gather_23 : decode cX9_gather 23 = .ok (.aload_n 0, 1) := by decide +kernel
theorem dX9_gather_24 : decode cX9_gather 24 = .ok (.getfield 47, 3) := by decide +kernel
theorem dX9_gather_27 : decode cX9_gather 27 = .ok (.iconst 0, 1) := by decide +kernel
theorem dX9_gather_28 : decode cX9_gather 28 = .ok (.iload_n 2, 1) := by decide +kernel
theorem dX9_gather_29 : decode cX9_gather 29 = .ok (.invokestatic 93, 3) := by decide +kernel
theorem dX9_gather_32 : decode cX9_gather 32 = .ok (.ifCond .eq 27, 3) := by decide +kernel
theorem dX9_gather_35 : decode cX9_gather 35 = .ok (.aload_n 0, 1) := by decide +kernel
theorem dX9_gather_36 : decode cX9_gather 36 = .ok (.getfield 47, 3) := by decide +kernel
theorem dX9_gather_39 : decode cX9_gather 39 = .ok (.aload_n 0, 1) := by decide +kernel
theorem dX9_gather_40 : decode cX9_gather 40 = .ok (.getfield 9, 3) := by decide +kernel
theorem dX9_gather_43 : decode cX9_gather 43 = .ok (.iload_n 2, 1) := by decide +kernel
theorem dX9_gather_44 : decode cX9_gather 44 = .ok (.invokestatic 97, 3) := by decide +kernel
theorem dX9_gather_47 : decode cX9_gather 47 = .ok (.aload_n 0, 1) := by decide +kernel
theorem dX9_gather_48 : decode cX9_gather 48 = .ok (.getfield 47, 3) := by decide +kernel
theorem dX9_gather_51 : decode cX9_gather 51 = .ok (.aload_n 0, 1) := by decide +kernel
theorem dX9_gather_52 : decode cX9_gather 52 = .ok (.getfield 13, 3) := by decide +kernel
theorem dX9_gather_55 : decode cX9_gather 55 = .ok (.iload_n 2, 1) := by decide +kernel
theorem dX9_gather_56 : decode cX9_gather 56 = .ok (.invokestatic 97, 3) := by decide +kernel
theorem dX9_gather_59 : decode cX9_gather 59 = .ok (.iinc 2 (-1), 3) := by decide +kernel
theorem dX9_gather_62 : decode cX9_gather 62 = .ok (.goto (-43), 3) := by decide +kernel
theorem dX9_gather_65 : decode cX9_gather 65 = .ok (.return_, 1) := by decide +kernel
theorem dX9_has_0 : decode cX9_has 0 = .ok (.iload_n 1, 1) := by decide +kernel
theorem dX9_has_1 : decode cX9_has 1 = .ok (.iconst 4, 1) := by decide +kernel
theorem dX9_has_2 : decode cX9_has 2 = .ok (.imul, 1) := by decide +kernel
theorem dX9_has_3 : decode cX9_has 3 = .ok (.iload_n 2, 1) := by decide +kernel
theorem dX9_has_4 : decode cX9_has 4 = .ok (.bipush 6, 2) := by decide +kernel
theorem dX9_has_6 : decode cX9_has 6 = .ok (.ishr, 1) := by decide +kernel
theorem dX9_has_7 : decode cX9_has 7 = .ok (.iadd, 1) := by decide +kernel
theorem dX9_has_8 : decode cX9_has 8 = .ok (.istore_n 3, 1) := by decide +kernel
theorem dX9_has_9 : decode cX9_has 9 = .ok (.iload_n 3, 1) := by decide +kernel
theorem dX9_has_10 : decode cX9_has 10 = .ok (.ifCond .lt 28, 3) := by decide +kernel
theorem dX9_has_13 : decode cX9_has 13 = .ok (.iload_n 3, 1) := by decide +kernel
theorem dX9_has_14 : decode cX9_has 14 = .ok (.aload_n 0, 1) := by decide +kernel
theorem dX9_has_15 : decode cX9_has 15 = .ok (.arraylength, 1) := by decide +kernel
theorem dX9_has_16 : decode cX9_has 16 = .ok (.if_icmp .ge 22, 3) := by decide +kernel
theorem dX9_has_19 : decode cX9_has 19 = .ok (.aload_n 0, 1) := by decide +kernel
theorem dX9_has_20 : decode cX9_has 20 = .ok (.iload_n 3, 1) := by decide +kernel
theorem dX9_has_21 : decode cX9_has 21 = .ok (.laload, 1) := by decide +kernel
theorem dX9_has_22 : decode cX9_has 22 = .ok (.iload_n 2, 1) := by decide +kernel
theorem dX9_has_23 : decode cX9_has 23 = .ok (.bipush 63, 2) := by decide +kernel
theorem dX9_has_25 : decode cX9_has 25 = .ok (.iand, 1) := by decide +kernel
theorem dX9_has_26 : decode cX9_has 26 = .ok (.lushr, 1) := by decide +kernel
theorem dX9_has_27 : decode cX9_has 27 = .ok (.lconst 1, 1) := by decide +kernel
theorem dX9_has_28 : decode cX9_has 28 = .ok (.land, 1) := by decide +kernel
theorem dX9_has_29 : decode cX9_has 29 = .ok (.lconst 0, 1) := by decide +kernel
theorem dX9_has_30 : decode cX9_has 30 = .ok (.lcmp, 1) := by decide +kernel
theorem dX9_has_31 : decode cX9_has 31 = .ok (.ifCond .eq 7, 3) := by decide +kernel
theorem dX9_has_34 : decode cX9_has 34 = .ok (.iconst 1, 1) := by decide +kernel
theorem dX9_has_35 : decode cX9_has 35 = .ok (.goto 4, 3) := by decide +kernel
theorem dX9_has_38 : decode cX9_has 38 = .ok (.iconst 0, 1) := by decide +kernel
theorem dX9_has_39 : decode cX9_has 39 = .ok (.ireturn, 1) := by decide +kernel
theorem dX9_isAtMost_0 : decode cX9_isAtMost 0 = .ok (.aload_n 0, 1) := by decide +kernel
theorem dX9_isAtMost_1 : decode cX9_isAtMost 1 = .ok (.iload_n 1, 1) := by decide +kernel
theorem dX9_isAtMost_2 : decode cX9_isAtMost 2 = .ok (.invokevirtual 71, 3) := by decide +kernel
theorem dX9_isAtMost_5 : decode cX9_isAtMost 5 = .ok (.ifCond .eq 27, 3) := by decide +kernel
theorem dX9_isAtMost_8 : decode cX9_isAtMost 8 = .ok (.aload_n 0, 1) := by decide +kernel
theorem dX9_isAtMost_9 : decode cX9_isAtMost 9 = .ok (.iload_n 2, 1) := by decide +kernel
theorem dX9_isAtMost_10 : decode cX9_isAtMost 10 = .ok (.invokevirtual 71, 3) := by decide +kernel
theorem dX9_isAtMost_13 : decode cX9_isAtMost 13 = .ok (.ifCond .eq 19, 3) := by decide +kernel
theorem dX9_isAtMost_16 : decode cX9_isAtMost 16 = .ok (.aload_n 0, 1) := by decide +kernel
theorem dX9_isAtMost_17 : decode cX9_isAtMost 17 = .ok (.getfield 16, 3) := by decide +kernel
theorem dX9_isAtMost_20 : decode cX9_isAtMost 20 = .ok (.iload_n 1, 1) := by decide +kernel
theorem dX9_isAtMost_21 : decode cX9_isAtMost 21 = .ok (.iload_n 2, 1) := by decide +kernel
theorem dX9_isAtMost_22 : decode cX9_isAtMost 22 = .ok (.invokestatic 93, 3) := by decide +kernel
theorem dX9_isAtMost_25 : decode cX9_isAtMost 25 = .ok (.ifCond .eq 7, 3) := by decide +kernel
theorem dX9_isAtMost_28 : decode cX9_isAtMost 28 = .ok (.iconst 1, 1) := by decide +kernel
theorem dX9_isAtMost_29 : decode cX9_isAtMost 29 = .ok (.goto 4, 3) := by decide +kernel
theorem dX9_isAtMost_32 : decode cX9_isAtMost 32 = .ok (.iconst 0, 1) := by decide +kernel
theorem dX9_isAtMost_33 : decode cX9_isAtMost 33 = .ok (.ireturn, 1) := by decide +kernel
theorem dX9_isBare_0 : decode cX9_isBare 0 = .ok (.iload_n 1, 1) := by decide +kernel
theorem dX9_isBare_1 : decode cX9_isBare 1 = .ok (.iconst 4, 1) := by decide +kernel
theorem dX9_isBare_2 : decode cX9_isBare 2 = .ok (.imul, 1) := by decide +kernel
theorem dX9_isBare_3 : decode cX9_isBare 3 = .ok (.istore_n 2, 1) := by decide +kernel
theorem dX9_isBare_4 : decode cX9_isBare 4 = .ok (.iconst 0, 1) := by decide +kernel
theorem dX9_isBare_5 : decode cX9_isBare 5 = .ok (.istore_n 3, 1) := by decide +kernel
theorem dX9_isBare_6 : decode cX9_isBare 6 = .ok (.iload_n 3, 1) := by decide +kernel
theorem dX9_isBare_7 : decode cX9_isBare 7 = .ok (.iconst 4, 1) := by decide +kernel
theorem dX9_isBare_8 : decode cX9_isBare 8 = .ok (.if_icmp .ge 33, 3) := by decide +kernel
theorem dX9_isBare_11 : decode cX9_isBare 11 = .ok (.iload_n 2, 1) := by decide +kernel
theorem dX9_isBare_12 : decode cX9_isBare 12 = .ok (.ifCond .lt 29, 3) := by decide +kernel
theorem dX9_isBare_15 : decode cX9_isBare 15 = .ok (.iload_n 2, 1) := by decide +kernel
theorem dX9_isBare_16 : decode cX9_isBare 16 = .ok (.iload_n 3, 1) := by decide +kernel
theorem dX9_isBare_17 : decode cX9_isBare 17 = .ok (.iadd, 1) := by decide +kernel
theorem dX9_isBare_18 : decode cX9_isBare 18 = .ok (.aload_n 0, 1) := by decide +kernel
theorem dX9_isBare_19 : decode cX9_isBare 19 = .ok (.arraylength, 1) := by decide +kernel
theorem dX9_isBare_20 : decode cX9_isBare 20 = .ok (.if_icmp .ge 21, 3) := by decide +kernel
theorem dX9_isBare_23 : decode cX9_isBare 23 = .ok (.aload_n 0, 1) := by decide +kernel
theorem dX9_isBare_24 : decode cX9_isBare 24 = .ok (.iload_n 2, 1) := by decide +kernel
theorem dX9_isBare_25 : decode cX9_isBare 25 = .ok (.iload_n 3, 1) := by decide +kernel
theorem dX9_isBare_26 : decode cX9_isBare 26 = .ok (.iadd, 1) := by decide +kernel
theorem dX9_isBare_27 : decode cX9_isBare 27 = .ok (.laload, 1) := by decide +kernel
theorem dX9_isBare_28 : decode cX9_isBare 28 = .ok (.lconst 0, 1) := by decide +kernel
theorem dX9_isBare_29 : decode cX9_isBare 29 = .ok (.lcmp, 1) := by decide +kernel
theorem dX9_isBare_30 : decode cX9_isBare 30 = .ok (.ifCond .eq 5, 3) := by decide +kernel
theorem dX9_isBare_33 : decode cX9_isBare 33 = .ok (.iconst 0, 1) := by decide +kernel
theorem dX9_isBare_34 : decode cX9_isBare 34 = .ok (.ireturn, 1) := by decide +kernel
theorem dX9_isBare_35 : decode cX9_isBare 35 = .ok (.iinc 3 1, 3) := by decide +kernel
theorem dX9_isBare_38 : decode cX9_isBare 38 = .ok (.goto (-32), 3) := by decide +kernel
theorem dX9_isBare_41 : decode cX9_isBare 41 = .ok (.iconst 1, 1) := by decide +kernel
theorem dX9_isBare_42 : decode cX9_isBare 42 = .ok (.ireturn, 1) := by decide +kernel
theorem dX9_isNode_0 : decode cX9_isNode 0 = .ok (.iload_n 1, 1) := by decide +kernel
theorem dX9_isNode_1 : decode cX9_isNode 1 = .ok (.ifCond .lt 25, 3) := by decide +kernel
theorem dX9_isNode_4 : decode cX9_isNode 4 = .ok (.iload_n 1, 1) := by decide +kernel
theorem dX9_isNode_5 : decode cX9_isNode 5 = .ok (.aload_n 0, 1) := by decide +kernel
theorem dX9_isNode_6 : decode cX9_isNode 6 = .ok (.getfield 50, 3) := by decide +kernel
theorem dX9_isNode_9 : decode cX9_isNode 9 = .ok (.if_icmp .ge 17, 3) := by decide +kernel
theorem dX9_isNode_12 : decode cX9_isNode 12 = .ok (.aload_n 0, 1) := by decide +kernel
theorem dX9_isNode_13 : decode cX9_isNode 13 = .ok (.getfield 50, 3) := by decide +kernel
theorem dX9_isNode_16 : decode cX9_isNode 16 = .ok (.sipush 256, 3) := by decide +kernel
theorem dX9_isNode_19 : decode cX9_isNode 19 = .ok (.if_icmp .gt 7, 3) := by decide +kernel
theorem dX9_isNode_22 : decode cX9_isNode 22 = .ok (.iconst 1, 1) := by decide +kernel
theorem dX9_isNode_23 : decode cX9_isNode 23 = .ok (.goto 4, 3) := by decide +kernel
theorem dX9_isNode_26 : decode cX9_isNode 26 = .ok (.iconst 0, 1) := by decide +kernel
theorem dX9_isNode_27 : decode cX9_isNode 27 = .ok (.ireturn, 1) := by decide +kernel
theorem dX9_isOption_0 : decode cX9_isOption 0 = .ok (.aload_n 0, 1) := by decide +kernel
theorem dX9_isOption_1 : decode cX9_isOption 1 = .ok (.iload_n 1, 1) := by decide +kernel
theorem dX9_isOption_2 : decode cX9_isOption 2 = .ok (.invokevirtual 71, 3) := by decide +kernel
theorem dX9_isOption_5 : decode cX9_isOption 5 = .ok (.ifCond .eq 38, 3) := by decide +kernel
theorem dX9_isOption_8 : decode cX9_isOption 8 = .ok (.aload_n 0, 1) := by decide +kernel
theorem dX9_isOption_9 : decode cX9_isOption 9 = .ok (.iload_n 3, 1) := by decide +kernel
theorem dX9_isOption_10 : decode cX9_isOption 10 = .ok (.invokevirtual 71, 3) := by decide +kernel
theorem dX9_isOption_13 : decode cX9_isOption 13 = .ok (.ifCond .eq 30, 3) := by decide +kernel
theorem dX9_isOption_16 : decode cX9_isOption 16 = .ok (.iload_n 2, 1) := by decide +kernel
theorem dX9_isOption_17 : decode cX9_isOption 17 = .ok (.ifCond .ne 10, 3) := by decide +kernel
theorem dX9_isOption_20 : decode cX9_isOption 20 = .ok (.aload_n 0, 1) := by decide +kernel
theorem dX9_isOption_21 : decode cX9_isOption 21 = .ok (.getfield 9, 3) := by decide +kernel
theorem dX9_isOption_24 : decode cX9_isOption 24 = .ok (.goto 7, 3) := by decide +kernel
theorem dX9_isOption_27 : decode cX9_isOption 27 = .ok (.aload_n 0, 1) := by decide +kernel
theorem dX9_isOption_28 : decode cX9_isOption 28 = .ok (.getfield 13, 3) := by decide +kernel
theorem dX9_isOption_31 : decode cX9_isOption 31 = .ok (.iload_n 1, 1) := by decide +kernel
theorem dX9_isOption_32 : decode cX9_isOption 32 = .ok (.iload_n 3, 1) := by decide +kernel
theorem dX9_isOption_33 : decode cX9_isOption 33 = .ok (.invokestatic 93, 3) := by decide +kernel
theorem dX9_isOption_36 : decode cX9_isOption 36 = .ok (.ifCond .eq 7, 3) := by decide +kernel
theorem dX9_isOption_39 : decode cX9_isOption 39 = .ok (.iconst 1, 1) := by decide +kernel
theorem dX9_isOption_40 : decode cX9_isOption 40 = .ok (.goto 4, 3) := by decide +kernel
theorem dX9_isOption_43 : decode cX9_isOption 43 = .ok (.iconst 0, 1) := by decide +kernel
theorem dX9_isOption_44 : decode cX9_isOption 44 = .ok (.ireturn, 1) := by decide +kernel
theorem dX9_isWhole_0 : decode cX9_isWhole 0 = .ok (.aload_n 0, 1) := by decide +kernel
theorem dX9_isWhole_1 : decode cX9_isWhole 1 = .ok (.iload_n 1, 1) := by decide +kernel
theorem dX9_isWhole_2 : decode cX9_isWhole 2 = .ok (.invokevirtual 71, 3) := by decide +kernel
theorem dX9_isWhole_5 : decode cX9_isWhole 5 = .ok (.ifCond .eq 29, 3) := by decide +kernel
theorem dX9_isWhole_8 : decode cX9_isWhole 8 = .ok (.aload_n 0, 1) := by decide +kernel
theorem dX9_isWhole_9 : decode cX9_isWhole 9 = .ok (.getfield 9, 3) := by decide +kernel
theorem dX9_isWhole_12 : decode cX9_isWhole 12 = .ok (.iload_n 1, 1) := by decide +kernel
theorem dX9_isWhole_13 : decode cX9_isWhole 13 = .ok (.invokestatic 111, 3) := by decide +kernel
theorem dX9_isWhole_16 : decode cX9_isWhole 16 = .ok (.ifCond .ne 14, 3) := by decide +kernel
theorem dX9_isWhole_19 : decode cX9_isWhole 19 = .ok (.aload_n 0, 1) := by decide +kernel
theorem dX9_isWhole_20 : decode cX9_isWhole 20 = .ok (.getfield 13, 3) := by decide +kernel
theorem dX9_isWhole_23 : decode cX9_isWhole 23 = .ok (.iload_n 1, 1) := by decide +kernel
theorem dX9_isWhole_24 : decode cX9_isWhole 24 = .ok (.invokestatic 111, 3) := by decide +kernel
theorem dX9_isWhole_27 : decode cX9_isWhole 27 = .ok (.ifCond .eq 7, 3) := by decide +kernel
theorem dX9_isWhole_30 : decode cX9_isWhole 30 = .ok (.iconst 1, 1) := by decide +kernel
theorem dX9_isWhole_31 : decode cX9_isWhole 31 = .ok (.goto 4, 3) := by decide +kernel
theorem dX9_isWhole_34 : decode cX9_isWhole 34 = .ok (.iconst 0, 1) := by decide +kernel
theorem dX9_isWhole_35 : decode cX9_isWhole 35 = .ok (.ireturn, 1) := by decide +kernel
theorem dX9_join_0 : decode cX9_join 0 = .ok (.iload_n 2, 1) := by decide +kernel
theorem dX9_join_1 : decode cX9_join 1 = .ok (.iconst 4, 1) := by decide +kernel
theorem dX9_join_2 : decode cX9_join 2 = .ok (.imul, 1) := by decide +kernel
theorem dX9_join_3 : decode cX9_join 3 = .ok (.istore_n 3, 1) := by decide +kernel
theorem dX9_join_4 : decode cX9_join 4 = .ok (.iconst 0, 1) := by decide +kernel
theorem dX9_join_5 : decode cX9_join 5 = .ok (.istore 4, 2) := by decide +kernel
theorem dX9_join_7 : decode cX9_join 7 = .ok (.iload 4, 2) := by decide +kernel
theorem dX9_join_9 : decode cX9_join 9 = .ok (.iconst 4, 1) := by decide +kernel
theorem dX9_join_10 : decode cX9_join 10 = .ok (.if_icmp .ge 42, 3) := by decide +kernel
theorem dX9_join_13 : decode cX9_join 13 = .ok (.iload 4, 2) := by decide +kernel
theorem dX9_join_15 : decode cX9_join 15 = .ok (.aload_n 0, 1) := by decide +kernel
theorem dX9_join_16 : decode cX9_join 16 = .ok (.arraylength, 1) := by decide +kernel
theorem dX9_join_17 : decode cX9_join 17 = .ok (.if_icmp .ge 35, 3) := by decide +kernel
theorem dX9_join_20 : decode cX9_join 20 = .ok (.iload_n 3, 1) := by decide +kernel
theorem dX9_join_21 : decode cX9_join 21 = .ok (.ifCond .lt 31, 3) := by decide +kernel
theorem dX9_join_24 : decode cX9_join 24 = .ok (.iload_n 3, 1) := by decide +kernel
theorem dX9_join_25 : decode cX9_join 25 = .ok (.iload 4, 2) := by decide +kernel
theorem dX9_join_27 : decode cX9_join 27 = .ok (.iadd, 1) := by decide +kernel
theorem dX9_join_28 : decode cX9_join 28 = .ok (.aload_n 1, 1) := by decide +kernel
theorem dX9_join_29 : decode cX9_join 29 = .ok (.arraylength, 1) := by decide +kernel
theorem dX9_join_30 : decode cX9_join 30 = .ok (.if_icmp .ge 22, 3) := by decide +kernel
theorem dX9_join_33 : decode cX9_join 33 = .ok (.aload_n 0, 1) := by decide +kernel
theorem dX9_join_34 : decode cX9_join 34 = .ok (.iload 4, 2) := by decide +kernel
theorem dX9_join_36 : decode cX9_join 36 = .ok (.dup2, 1) := by decide +kernel
theorem dX9_join_37 : decode cX9_join 37 = .ok (.laload, 1) := by decide +kernel
theorem dX9_join_38 : decode cX9_join 38 = .ok (.aload_n 1, 1) := by decide +kernel
theorem dX9_join_39 : decode cX9_join 39 = .ok (.iload_n 3, 1) := by decide +kernel
theorem dX9_join_40 : decode cX9_join 40 = .ok (.iload 4, 2) := by decide +kernel
theorem dX9_join_42 : decode cX9_join 42 = .ok (.iadd, 1) := by decide +kernel
theorem dX9_join_43 : decode cX9_join 43 = .ok (.laload, 1) := by decide +kernel
theorem dX9_join_44 : decode cX9_join 44 = .ok (.lor, 1) := by decide +kernel
theorem dX9_join_45 : decode cX9_join 45 = .ok (.lastore, 1) := by decide +kernel
theorem dX9_join_46 : decode cX9_join 46 = .ok (.iinc 4 1, 3) := by decide +kernel
theorem dX9_join_49 : decode cX9_join 49 = .ok (.goto (-42), 3) := by decide +kernel
theorem dX9_join_52 : decode cX9_join 52 = .ok (.return_, 1) := by decide +kernel
theorem dX9_mark_0 : decode cX9_mark 0 = .ok (.iload_n 1, 1) := by decide +kernel
theorem dX9_mark_1 : decode cX9_mark 1 = .ok (.iconst 4, 1) := by decide +kernel
theorem dX9_mark_2 : decode cX9_mark 2 = .ok (.imul, 1) := by decide +kernel
theorem dX9_mark_3 : decode cX9_mark 3 = .ok (.iload_n 2, 1) := by decide +kernel
theorem dX9_mark_4 : decode cX9_mark 4 = .ok (.bipush 6, 2) := by decide +kernel
theorem dX9_mark_6 : decode cX9_mark 6 = .ok (.ishr, 1) := by decide +kernel
theorem dX9_mark_7 : decode cX9_mark 7 = .ok (.iadd, 1) := by decide +kernel
theorem dX9_mark_8 : decode cX9_mark 8 = .ok (.istore_n 3, 1) := by decide +kernel
theorem dX9_mark_9 : decode cX9_mark 9 = .ok (.iload_n 3, 1) := by decide +kernel
theorem dX9_mark_10 : decode cX9_mark 10 = .ok (.ifCond .lt 21, 3) := by decide +kernel
theorem dX9_mark_13 : decode cX9_mark 13 = .ok (.iload_n 3, 1) := by decide +kernel
theorem dX9_mark_14 : decode cX9_mark 14 = .ok (.aload_n 0, 1) := by decide +kernel
theorem dX9_mark_15 : decode cX9_mark 15 = .ok (.arraylength, 1) := by decide +kernel
theorem dX9_mark_16 : decode cX9_mark 16 = .ok (.if_icmp .ge 15, 3) := by decide +kernel
theorem dX9_mark_19 : decode cX9_mark 19 = .ok (.aload_n 0, 1) := by decide +kernel
theorem dX9_mark_20 : decode cX9_mark 20 = .ok (.iload_n 3, 1) := by decide +kernel
theorem dX9_mark_21 : decode cX9_mark 21 = .ok (.dup2, 1) := by decide +kernel
theorem dX9_mark_22 : decode cX9_mark 22 = .ok (.laload, 1) := by decide +kernel
theorem dX9_mark_23 : decode cX9_mark 23 = .ok (.lconst 1, 1) := by decide +kernel
theorem dX9_mark_24 : decode cX9_mark 24 = .ok (.iload_n 2, 1) := by decide +kernel
theorem dX9_mark_25 : decode cX9_mark 25 = .ok (.bipush 63, 2) := by decide +kernel
theorem dX9_mark_27 : decode cX9_mark 27 = .ok (.iand, 1) := by decide +kernel
theorem dX9_mark_28 : decode cX9_mark 28 = .ok (.lshl, 1) := by decide +kernel
theorem dX9_mark_29 : decode cX9_mark 29 = .ok (.lor, 1) := by decide +kernel
theorem dX9_mark_30 : decode cX9_mark 30 = .ok (.lastore, 1) := by decide +kernel
theorem dX9_mark_31 : decode cX9_mark 31 = .ok (.return_, 1) := by decide +kernel
theorem dX9_meets_0 : decode cX9_meets 0 = .ok (.iload_n 1, 1) := by decide +kernel
theorem dX9_meets_1 : decode cX9_meets 1 = .ok (.iconst 4, 1) := by decide +kernel
theorem dX9_meets_2 : decode cX9_meets 2 = .ok (.imul, 1) := by decide +kernel
theorem dX9_meets_3 : decode cX9_meets 3 = .ok (.istore_n 3, 1) := by decide +kernel
theorem dX9_meets_4 : decode cX9_meets 4 = .ok (.iconst 0, 1) := by decide +kernel
theorem dX9_meets_5 : decode cX9_meets 5 = .ok (.istore 4, 2) := by decide +kernel
theorem dX9_meets_7 : decode cX9_meets 7 = .ok (.iload 4, 2) := by decide +kernel
theorem dX9_meets_9 : decode cX9_meets 9 = .ok (.iconst 4, 1) := by decide +kernel
theorem dX9_meets_10 : decode cX9_meets 10 = .ok (.if_icmp .ge 47, 3) := by decide +kernel
theorem dX9_meets_13 : decode cX9_meets 13 = .ok (.iload 4, 2) := by decide +kernel
theorem dX9_meets_15 : decode cX9_meets 15 = .ok (.aload_n 2, 1) := by decide +kernel
theorem dX9_meets_16 : decode cX9_meets 16 = .ok (.arraylength, 1) := by decide +kernel
theorem dX9_meets_17 : decode cX9_meets 17 = .ok (.if_icmp .ge 40, 3) := by decide +kernel
theorem dX9_meets_20 : decode cX9_meets 20 = .ok (.iload_n 3, 1) := by decide +kernel
theorem dX9_meets_21 : decode cX9_meets 21 = .ok (.ifCond .lt 36, 3) := by decide +kernel
theorem dX9_meets_24 : decode cX9_meets 24 = .ok (.iload_n 3, 1) := by decide +kernel
theorem dX9_meets_25 : decode cX9_meets 25 = .ok (.iload 4, 2) := by decide +kernel
theorem dX9_meets_27 : decode cX9_meets 27 = .ok (.iadd, 1) := by decide +kernel
theorem dX9_meets_28 : decode cX9_meets 28 = .ok (.aload_n 0, 1) := by decide +kernel
theorem dX9_meets_29 : decode cX9_meets 29 = .ok (.arraylength, 1) := by decide +kernel
theorem dX9_meets_30 : decode cX9_meets 30 = .ok (.if_icmp .ge 27, 3) := by decide +kernel
theorem dX9_meets_33 : decode cX9_meets 33 = .ok (.aload_n 0, 1) := by decide +kernel
theorem dX9_meets_34 : decode cX9_meets 34 = .ok (.iload_n 3, 1) := by decide +kernel
theorem dX9_meets_35 : decode cX9_meets 35 = .ok (.iload 4, 2) := by decide +kernel
theorem dX9_meets_37 : decode cX9_meets 37 = .ok (.iadd, 1) := by decide +kernel
theorem dX9_meets_38 : decode cX9_meets 38 = .ok (.laload, 1) := by decide +kernel
theorem dX9_meets_39 : decode cX9_meets 39 = .ok (.aload_n 2, 1) := by decide +kernel
theorem dX9_meets_40 : decode cX9_meets 40 = .ok (.iload 4, 2) := by decide +kernel
theorem dX9_meets_42 : decode cX9_meets 42 = .ok (.laload, 1) := by decide +kernel
theorem dX9_meets_43 : decode cX9_meets 43 = .ok (.land, 1) := by decide +kernel
theorem dX9_meets_44 : decode cX9_meets 44 = .ok (.lconst 0, 1) := by decide +kernel
theorem dX9_meets_45 : decode cX9_meets 45 = .ok (.lcmp, 1) := by decide +kernel
theorem dX9_meets_46 : decode cX9_meets 46 = .ok (.ifCond .eq 5, 3) := by decide +kernel
theorem dX9_meets_49 : decode cX9_meets 49 = .ok (.iconst 1, 1) := by decide +kernel
theorem dX9_meets_50 : decode cX9_meets 50 = .ok (.ireturn, 1) := by decide +kernel
theorem dX9_meets_51 : decode cX9_meets 51 = .ok (.iinc 4 1, 3) := by decide +kernel
theorem dX9_meets_54 : decode cX9_meets 54 = .ok (.goto (-47), 3) := by decide +kernel
theorem dX9_meets_57 : decode cX9_meets 57 = .ok (.iconst 0, 1) := by decide +kernel
theorem dX9_meets_58 : decode cX9_meets 58 = .ok (.ireturn, 1) := by decide +kernel
theorem dX9_replace_0 : decode cX9_replace 0 = .ok (.iload_n 1, 1) := by decide +kernel
theorem dX9_replace_1 : decode cX9_replace 1 = .ok (.iconst 4, 1) := by decide +kernel
theorem dX9_replace_2 : decode cX9_replace 2 = .ok (.imul, 1) := by decide +kernel
theorem dX9_replace_3 : decode cX9_replace 3 = .ok (.istore_n 3, 1) := by decide +kernel
theorem dX9_replace_4 : decode cX9_replace 4 = .ok (.iconst 0, 1) := by decide +kernel
theorem dX9_replace_5 : decode cX9_replace 5 = .ok (.istore 4, 2) := by decide +kernel
theorem dX9_replace_7 : decode cX9_replace 7 = .ok (.iload 4, 2) := by decide +kernel
theorem dX9_replace_9 : decode cX9_replace 9 = .ok (.iconst 4, 1) := by decide +kernel
theorem dX9_replace_10 : decode cX9_replace 10 = .ok (.if_icmp .ge 39, 3) := by decide +kernel
theorem dX9_replace_13 : decode cX9_replace 13 = .ok (.iload 4, 2) := by decide +kernel
theorem dX9_replace_15 : decode cX9_replace 15 = .ok (.aload_n 2, 1) := by decide +kernel
theorem dX9_replace_16 : decode cX9_replace 16 = .ok (.arraylength, 1) := by decide +kernel
theorem dX9_replace_17 : decode cX9_replace 17 = .ok (.if_icmp .ge 32, 3) := by decide +kernel
theorem dX9_replace_20 : decode cX9_replace 20 = .ok (.iload_n 3, 1) := by decide +kernel
theorem dX9_replace_21 : decode cX9_replace 21 = .ok (.ifCond .lt 28, 3) := by decide +kernel
theorem dX9_replace_24 : decode cX9_replace 24 = .ok (.iload_n 3, 1) := by decide +kernel
theorem dX9_replace_25 : decode cX9_replace 25 = .ok (.iload 4, 2) := by decide +kernel
theorem dX9_replace_27 : decode cX9_replace 27 = .ok (.iadd, 1) := by decide +kernel
theorem dX9_replace_28 : decode cX9_replace 28 = .ok (.aload_n 0, 1) := by decide +kernel
theorem dX9_replace_29 : decode cX9_replace 29 = .ok (.arraylength, 1) := by decide +kernel
theorem dX9_replace_30 : decode cX9_replace 30 = .ok (.if_icmp .ge 19, 3) := by decide +kernel
theorem dX9_replace_33 : decode cX9_replace 33 = .ok (.aload_n 0, 1) := by decide +kernel
theorem dX9_replace_34 : decode cX9_replace 34 = .ok (.iload_n 3, 1) := by decide +kernel
theorem dX9_replace_35 : decode cX9_replace 35 = .ok (.iload 4, 2) := by decide +kernel
theorem dX9_replace_37 : decode cX9_replace 37 = .ok (.iadd, 1) := by decide +kernel
theorem dX9_replace_38 : decode cX9_replace 38 = .ok (.aload_n 2, 1) := by decide +kernel
theorem dX9_replace_39 : decode cX9_replace 39 = .ok (.iload 4, 2) := by decide +kernel
theorem dX9_replace_41 : decode cX9_replace 41 = .ok (.laload, 1) := by decide +kernel
theorem dX9_replace_42 : decode cX9_replace 42 = .ok (.lastore, 1) := by decide +kernel
theorem dX9_replace_43 : decode cX9_replace 43 = .ok (.iinc 4 1, 3) := by decide +kernel
theorem dX9_replace_46 : decode cX9_replace 46 = .ok (.goto (-39), 3) := by decide +kernel
theorem dX9_replace_49 : decode cX9_replace 49 = .ok (.return_, 1) := by decide +kernel
theorem dX9_shifted_0 : decode cX9_shifted 0 = .ok (.aload_n 0, 1) := by decide +kernel
theorem dX9_shifted_1 : decode cX9_shifted 1 = .ok (.iload_n 1, 1) := by decide +kernel
theorem dX9_shifted_2 : decode cX9_shifted 2 = .ok (.invokevirtual 71, 3) := by decide +kernel
theorem dX9_shifted_5 : decode cX9_shifted 5 = .ok (.ifCond .ne 5, 3) := by decide +kernel
theorem dX9_shifted_8 : decode cX9_shifted 8 = .ok (.iconst (-1), 1) := by decide +kernel
theorem dX9_shifted_9 : decode cX9_shifted 9 = .ok (.ireturn, 1) := by decide +kernel
theorem dX9_shifted_10 : decode cX9_shifted 10 = .ok (.aload_n 0, 1) := by decide +kernel
theorem dX9_shifted_11 : decode cX9_shifted 11 = .ok (.iload_n 1, 1) := by decide +kernel
theorem dX9_shifted_12 : decode cX9_shifted 12 = .ok (.invokevirtual 115, 3) := by decide +kernel
theorem dX9_shifted_15 : decode cX9_shifted 15 = .ok (.iload_n 2, 1) := by decide +kernel
theorem dX9_shifted_16 : decode cX9_shifted 16 = .ok (.ifCond .eq 10, 3) := by decide +kernel
theorem dX9_shifted_19 : decode cX9_shifted 19 = .ok (.aload_n 0, 1) := by decide +kernel
theorem dX9_shifted_20 : decode cX9_shifted 20 = .ok (.getfield 22, 3) := by decide +kernel
theorem dX9_shifted_23 : decode cX9_shifted 23 = .ok (.goto 7, 3) := by decide +kernel
theorem dX9_shifted_26 : decode cX9_shifted 26 = .ok (.aload_n 0, 1) := by decide +kernel
theorem dX9_shifted_27 : decode cX9_shifted 27 = .ok (.getfield 26, 3) := by decide +kernel
theorem dX9_shifted_30 : decode cX9_shifted 30 = .ok (.astore_n 3, 1) := by decide +kernel
theorem dX9_shifted_31 : decode cX9_shifted 31 = .ok (.iconst 0, 1) := by decide +kernel
theorem dX9_shifted_32 : decode cX9_shifted 32 = .ok (.istore 4, 2) := by decide +kernel
theorem dX9_shifted_34 : decode cX9_shifted 34 = .ok (.iload 4, 2) := by decide +kernel
theorem dX9_shifted_36 : decode cX9_shifted 36 = .ok (.iload_n 1, 1) := by decide +kernel
theorem dX9_shifted_37 : decode cX9_shifted 37 = .ok (.if_icmp .gt 129, 3) := by decide +kernel
theorem dX9_shifted_40 : decode cX9_shifted 40 = .ok (.iload 4, 2) := by decide +kernel
theorem dX9_shifted_42 : decode cX9_shifted 42 = .ok (.aload_n 3, 1) := by decide +kernel
theorem dX9_shifted_43 : decode cX9_shifted 43 = .ok (.arraylength, 1) := by decide +kernel
theorem dX9_shifted_44 : decode cX9_shifted 44 = .ok (.if_icmp .ge 122, 3) := by decide +kernel
theorem dX9_shifted_47 : decode cX9_shifted 47 = .ok (.aload_n 0, 1) := by decide +kernel
theorem dX9_shifted_48 : decode cX9_shifted 48 = .ok (.getfield 47, 3) := by decide +kernel
theorem dX9_shifted_51 : decode cX9_shifted 51 = .ok (.iconst 0, 1) := by decide +kernel
theorem dX9_shifted_52 : decode cX9_shifted 52 = .ok (.iload 4, 2) := by decide +kernel
theorem dX9_shifted_54 : decode cX9_shifted 54 = .ok (.invokestatic 93, 3) := by decide +kernel
theorem dX9_shifted_57 : decode cX9_shifted 57 = .ok (.ifCond .eq 103, 3) := by decide +kernel
theorem dX9_shifted_60 : decode cX9_shifted 60 = .ok (.aload_n 3, 1) := by decide +kernel
theorem dX9_shifted_61 : decode cX9_shifted 61 = .ok (.iload 4, 2) := by decide +kernel
theorem dX9_shifted_63 : decode cX9_shifted 63 = .ok (.iaload, 1) := by decide +kernel
theorem dX9_shifted_64 : decode cX9_shifted 64 = .ok (.ifCond .ge 96, 3) := by decide +kernel
theorem dX9_shifted_67 : decode cX9_shifted 67 = .ok (.aload_n 0, 1) := by decide +kernel
theorem dX9_shifted_68 : decode cX9_shifted 68 = .ok (.invokevirtual 54, 3) := by decide +kernel
theorem dX9_shifted_71 : decode cX9_shifted 71 = .ok (.iload_n 2, 1) := by decide +kernel
theorem dX9_shifted_72 : decode cX9_shifted 72 = .ok (.ifCond .eq 10, 3) := by decide +kernel
theorem dX9_shifted_75 : decode cX9_shifted 75 = .ok (.aload_n 0, 1) := by decide +kernel
theorem dX9_shifted_76 : decode cX9_shifted 76 = .ok (.getfield 29, 3) := by decide +kernel
theorem dX9_shifted_79 : decode cX9_shifted 79 = .ok (.goto 7, 3) := by decide +kernel
theorem dX9_shifted_82 : decode cX9_shifted 82 = .ok (.aload_n 0, 1) := by decide +kernel
theorem dX9_shifted_83 : decode cX9_shifted 83 = .ok (.getfield 32, 3) := by decide +kernel
theorem dX9_shifted_86 : decode cX9_shifted 86 = .ok (.iconst 0, 1) := by decide +kernel
theorem dX9_shifted_87 : decode cX9_shifted 87 = .ok (.iload 4, 2) := by decide +kernel
theorem dX9_shifted_89 : decode cX9_shifted 89 = .ok (.invokestatic 75, 3) := by decide +kernel
theorem dX9_shifted_92 : decode cX9_shifted 92 = .ok (.iconst 0, 1) := by decide +kernel
theorem dX9_shifted_93 : decode cX9_shifted 93 = .ok (.istore 5, 2) := by decide +kernel
theorem dX9_shifted_95 : decode cX9_shifted 95 = .ok (.iload 5, 2) := by decide +kernel
theorem dX9_shifted_97 : decode cX9_shifted 97 = .ok (.iload 4, 2) := by decide +kernel
theorem dX9_shifted_99 : decode cX9_shifted 99 = .ok (.if_icmp .ge 53, 3) := by decide +kernel
theorem dX9_shifted_102 : decode cX9_shifted 102 = .ok (.aload_n 0, 1) := by decide +kernel
theorem dX9_shifted_103 : decode cX9_shifted 103 = .ok (.getfield 9, 3) := by decide +kernel
theorem dX9_shifted_106 : decode cX9_shifted 106 = .ok (.iload 4, 2) := by decide +kernel
theorem dX9_shifted_108 : decode cX9_shifted 108 = .ok (.iload 5, 2) := by decide +kernel
theorem dX9_shifted_110 : decode cX9_shifted 110 = .ok (.invokestatic 93, 3) := by decide +kernel
theorem dX9_shifted_113 : decode cX9_shifted 113 = .ok (.ifCond .eq 11, 3) := by decide +kernel
theorem dX9_shifted_116 : decode cX9_shifted 116 = .ok (.aload_n 0, 1) := by decide +kernel
theorem dX9_shifted_117 : decode cX9_shifted 117 = .ok (.aload_n 3, 1) := by decide +kernel
theorem dX9_shifted_118 : decode cX9_shifted 118 = .ok (.iload 5, 2) := by decide +kernel
theorem dX9_shifted_120 : decode cX9_shifted 120 = .ok (.iaload, 1) := by decide +kernel
theorem dX9_shifted_121 : decode cX9_shifted 121 = .ok (.invokevirtual 119, 3) := by decide +kernel
theorem dX9_shifted_124 : decode cX9_shifted 124 = .ok (.aload_n 0, 1) := by decide +kernel
theorem dX9_shifted_125 : decode cX9_shifted 125 = .ok (.getfield 13, 3) := by decide +kernel
theorem dX9_shifted_128 : decode cX9_shifted 128 = .ok (.iload 4, 2) := by decide +kernel
theorem dX9_shifted_130 : decode cX9_shifted 130 = .ok (.iload 5, 2) := by decide +kernel
theorem dX9_shifted_132 : decode cX9_shifted 132 = .ok (.invokestatic 93, 3) := by decide +kernel
theorem dX9_shifted_135 : decode cX9_shifted 135 = .ok (.ifCond .eq 11, 3) := by decide +kernel
theorem dX9_shifted_138 : decode cX9_shifted 138 = .ok (.aload_n 0, 1) := by decide +kernel
theorem dX9_shifted_139 : decode cX9_shifted 139 = .ok (.aload_n 3, 1) := by decide +kernel
theorem dX9_shifted_140 : decode cX9_shifted 140 = .ok (.iload 5, 2) := by decide +kernel
theorem dX9_shifted_142 : decode cX9_shifted 142 = .ok (.iaload, 1) := by decide +kernel
theorem dX9_shifted_143 : decode cX9_shifted 143 = .ok (.invokevirtual 122, 3) := by decide +kernel
theorem dX9_shifted_146 : decode cX9_shifted 146 = .ok (.iinc 5 1, 3) := by decide +kernel
theorem dX9_shifted_149 : decode cX9_shifted 149 = .ok (.goto (-54), 3) := by decide +kernel
theorem dX9_shifted_152 : decode cX9_shifted 152 = .ok (.aload_n 3, 1) := by decide +kernel
theorem dX9_shifted_153 : decode cX9_shifted 153 = .ok (.iload 4, 2) := by decide +kernel
theorem dX9_shifted_155 : decode cX9_shifted 155 = .ok (.aload_n 0, 1) := by decide +kernel
theorem dX9_shifted_156 : decode cX9_shifted 156 = .ok (.invokevirtual 57, 3) := by decide +kernel
theorem dX9_shifted_159 : decode cX9_shifted 159 = .ok (.iastore, 1) := by decide +kernel
theorem dX9_shifted_160 : decode cX9_shifted 160 = .ok (.iinc 4 1, 3) := by decide +kernel
theorem dX9_shifted_163 : decode cX9_shifted 163 = .ok (.goto (-129), 3) := by decide +kernel
theorem dX9_shifted_166 : decode cX9_shifted 166 = .ok (.iload_n 1, 1) := by decide +kernel
theorem dX9_shifted_167 : decode cX9_shifted 167 = .ok (.aload_n 3, 1) := by decide +kernel
theorem dX9_shifted_168 : decode cX9_shifted 168 = .ok (.arraylength, 1) := by decide +kernel
theorem dX9_shifted_169 : decode cX9_shifted 169 = .ok (.if_icmp .ge 9, 3) := by decide +kernel
theorem dX9_shifted_172 : decode cX9_shifted 172 = .ok (.aload_n 3, 1) := by decide +kernel
theorem dX9_shifted_173 : decode cX9_shifted 173 = .ok (.iload_n 1, 1) := by decide +kernel
theorem dX9_shifted_174 : decode cX9_shifted 174 = .ok (.iaload, 1) := by decide +kernel
theorem dX9_shifted_175 : decode cX9_shifted 175 = .ok (.goto 4, 3) := by decide +kernel
theorem dX9_shifted_178 : decode cX9_shifted 178 = .ok (.iconst (-1), 1) := by decide +kernel
theorem dX9_shifted_179 : decode cX9_shifted 179 = .ok (.ireturn, 1) := by decide +kernel
theorem dX9_unmark_0 : decode cX9_unmark 0 = .ok (.iload_n 1, 1) := by decide +kernel
theorem dX9_unmark_1 : decode cX9_unmark 1 = .ok (.iconst 4, 1) := by decide +kernel
theorem dX9_unmark_2 : decode cX9_unmark 2 = .ok (.imul, 1) := by decide +kernel
theorem dX9_unmark_3 : decode cX9_unmark 3 = .ok (.iload_n 2, 1) := by decide +kernel
theorem dX9_unmark_4 : decode cX9_unmark 4 = .ok (.bipush 6, 2) := by decide +kernel
theorem dX9_unmark_6 : decode cX9_unmark 6 = .ok (.ishr, 1) := by decide +kernel
theorem dX9_unmark_7 : decode cX9_unmark 7 = .ok (.iadd, 1) := by decide +kernel
theorem dX9_unmark_8 : decode cX9_unmark 8 = .ok (.istore_n 3, 1) := by decide +kernel
theorem dX9_unmark_9 : decode cX9_unmark 9 = .ok (.iload_n 3, 1) := by decide +kernel
theorem dX9_unmark_10 : decode cX9_unmark 10 = .ok (.ifCond .lt 25, 3) := by decide +kernel
theorem dX9_unmark_13 : decode cX9_unmark 13 = .ok (.iload_n 3, 1) := by decide +kernel
theorem dX9_unmark_14 : decode cX9_unmark 14 = .ok (.aload_n 0, 1) := by decide +kernel
theorem dX9_unmark_15 : decode cX9_unmark 15 = .ok (.arraylength, 1) := by decide +kernel
theorem dX9_unmark_16 : decode cX9_unmark 16 = .ok (.if_icmp .ge 19, 3) := by decide +kernel
theorem dX9_unmark_19 : decode cX9_unmark 19 = .ok (.aload_n 0, 1) := by decide +kernel
theorem dX9_unmark_20 : decode cX9_unmark 20 = .ok (.iload_n 3, 1) := by decide +kernel
theorem dX9_unmark_21 : decode cX9_unmark 21 = .ok (.dup2, 1) := by decide +kernel
theorem dX9_unmark_22 : decode cX9_unmark 22 = .ok (.laload, 1) := by decide +kernel
theorem dX9_unmark_23 : decode cX9_unmark 23 = .ok (.lconst 1, 1) := by decide +kernel
theorem dX9_unmark_24 : decode cX9_unmark 24 = .ok (.iload_n 2, 1) := by decide +kernel
theorem dX9_unmark_25 : decode cX9_unmark 25 = .ok (.bipush 63, 2) := by decide +kernel
theorem dX9_unmark_27 : decode cX9_unmark 27 = .ok (.iand, 1) := by decide +kernel
theorem dX9_unmark_28 : decode cX9_unmark 28 = .ok (.lshl, 1) := by decide +kernel
theorem dX9_unmark_29 : decode cX9_unmark 29 = .ok (.ldc2_w 125, 3) := by decide +kernel
theorem dX9_unmark_32 : decode cX9_unmark 32 = .ok (.lxor, 1) := by decide +kernel
theorem dX9_unmark_33 : decode cX9_unmark 33 = .ok (.land, 1) := by decide +kernel
theorem dX9_unmark_34 : decode cX9_unmark 34 = .ok (.lastore, 1) := by decide +kernel
theorem dX9_unmark_35 : decode cX9_unmark 35 = .ok (.return_, 1) := by decide +kernel
theorem dX9_valueOf_0 : decode cX9_valueOf 0 = .ok (.aload_n 0, 1) := by decide +kernel
theorem dX9_valueOf_1 : decode cX9_valueOf 1 = .ok (.iload_n 1, 1) := by decide +kernel
theorem dX9_valueOf_2 : decode cX9_valueOf 2 = .ok (.invokevirtual 71, 3) := by decide +kernel
theorem dX9_valueOf_5 : decode cX9_valueOf 5 = .ok (.ifCond .ne 5, 3) := by decide +kernel
theorem dX9_valueOf_8 : decode cX9_valueOf 8 = .ok (.iconst 0, 1) := by decide +kernel
theorem dX9_valueOf_9 : decode cX9_valueOf 9 = .ok (.ireturn, 1) := by decide +kernel
theorem dX9_valueOf_10 : decode cX9_valueOf 10 = .ok (.aload_n 0, 1) := by decide +kernel
theorem dX9_valueOf_11 : decode cX9_valueOf 11 = .ok (.iload_n 1, 1) := by decide +kernel
theorem dX9_valueOf_12 : decode cX9_valueOf 12 = .ok (.invokevirtual 115, 3) := by decide +kernel
theorem dX9_valueOf_15 : decode cX9_valueOf 15 = .ok (.iconst (-1), 1) := by decide +kernel
theorem dX9_valueOf_16 : decode cX9_valueOf 16 = .ok (.istore_n 2, 1) := by decide +kernel
theorem dX9_valueOf_17 : decode cX9_valueOf 17 = .ok (.iconst 0, 1) := by decide +kernel
theorem dX9_valueOf_18 : decode cX9_valueOf 18 = .ok (.istore_n 3, 1) := by decide +kernel
theorem dX9_valueOf_19 : decode cX9_valueOf 19 = .ok (.iload_n 3, 1) := by decide +kernel
theorem dX9_valueOf_20 : decode cX9_valueOf 20 = .ok (.iload_n 1, 1) := by decide +kernel
theorem dX9_valueOf_21 : decode cX9_valueOf 21 = .ok (.if_icmp .gt 24, 3) := by decide +kernel
theorem dX9_valueOf_24 : decode cX9_valueOf 24 = .ok (.aload_n 0, 1) := by decide +kernel
theorem dX9_valueOf_25 : decode cX9_valueOf 25 = .ok (.getfield 47, 3) := by decide +kernel
theorem dX9_valueOf_28 : decode cX9_valueOf 28 = .ok (.iconst 0, 1) := by decide +kernel
theorem dX9_valueOf_29 : decode cX9_valueOf 29 = .ok (.iload_n 3, 1) := by decide +kernel
theorem dX9_valueOf_30 : decode cX9_valueOf 30 = .ok (.invokestatic 93, 3) := by decide +kernel
theorem dX9_valueOf_33 : decode cX9_valueOf 33 = .ok (.ifCond .eq 6, 3) := by decide +kernel
theorem dX9_valueOf_36 : decode cX9_valueOf 36 = .ok (.iinc 2 1, 3) := by decide +kernel
theorem dX9_valueOf_39 : decode cX9_valueOf 39 = .ok (.iinc 3 1, 3) := by decide +kernel
theorem dX9_valueOf_42 : decode cX9_valueOf 42 = .ok (.goto (-23), 3) := by decide +kernel
theorem dX9_valueOf_45 : decode cX9_valueOf 45 = .ok (.aload_n 0, 1) := by decide +kernel
theorem dX9_valueOf_46 : decode cX9_valueOf 46 = .ok (.getfield 13, 3) := by decide +kernel
theorem dX9_valueOf_49 : decode cX9_valueOf 49 = .ok (.iload_n 1, 1) := by decide +kernel
theorem dX9_valueOf_50 : decode cX9_valueOf 50 = .ok (.invokestatic 111, 3) := by decide +kernel
theorem dX9_valueOf_53 : decode cX9_valueOf 53 = .ok (.ifCond .eq 7, 3) := by decide +kernel
theorem dX9_valueOf_56 : decode cX9_valueOf 56 = .ok (.iload_n 2, 1) := by decide +kernel
theorem dX9_valueOf_57 : decode cX9_valueOf 57 = .ok (.goto 5, 3) := by decide +kernel
theorem dX9_valueOf_60 : decode cX9_valueOf 60 = .ok (.iload_n 2, 1) := by decide +kernel
theorem dX9_valueOf_61 : decode cX9_valueOf 61 = .ok (.ineg, 1) := by decide +kernel
theorem dX9_valueOf_62 : decode cX9_valueOf 62 = .ok (.ireturn, 1) := by decide +kernel
/-- X9 isNode (I)Z -/
def f_X9_isNode (n : Nat) (p1 : Int) (mi : Mem) : Option Rz :=
  jn (fun (s0_27 : Int) (m27 : Mem) =>
    rtZ s0_27 m27
  ) fun (j27 : Int → Mem → Option Rz) =>
  jn (fun (m26 : Mem) =>
    j27 0 m26
  ) fun (j26 : Mem → Option Rz) =>
  if p1 < 0 then (
    j26 mi
  ) else
  gtF mi 4 13 fun x6 =>
  if p1 < x6 then (
    gtF mi 4 13 fun x13 =>
    if 256 < x13 then (
      j26 mi
    ) else
    j27 1 mi
  ) else
  j26 mi
set_option maxRecDepth 100000 in
set_option maxHeartbeats 4000000 in
theorem s_X9_isNode (l : Launch) (sc : g_S) (E : Mem → g_H) (R : Nat → Prop) (hE : LE E R) (hR : RYS R) (n : Nat)  (p1 : Int) (hp1 : inR p1) (mi : Mem) (r : Rz) (H : f_X9_isNode n p1 mi = some r) : AMet l sc yX9_isNode cX9_isNode 2 (some FieldType.boolean) 0 0 0 [.ref 4, iv p1] (E mi) (pI E r) := by
  have r4 : R 4 := hR.1 4 (Nat.le_of_ble_eq_true rfl) (Nat.le_of_ble_eq_true rfl)
  unfold f_X9_isNode at H
  refine AMet.of (own := RX9) (by decide +kernel) rfl (Nat.le_of_ble_eq_true rfl) [(0, .ref 4), (1, iv p1)] rfl (fun D base ad => ?_)
  refine aw_iload_n (pc := 0) dX9_isNode_0 rfl ?_
  refine jn_ind (fun (f9 : Int → Mem → Option Rz) => ∀ (s0_27 : Int) (m27 : Mem), inR s0_27 → f9 s0_27 m27 = some r → AW l D base sc RX9 yX9_isNode cX9_isNode 2 (some FieldType.boolean) 0 0 0 ad (E mi) (pI E r) 0 0 (E m27) 27 [] [iv s0_27]) (fun s0_27 m27 hs0_27 H => ?_) (fun j27 hj27 H => ?_) H
  · -- 27
    exact cx_zret (pc := 27) rfl (Nat.le_of_ble_eq_true rfl) (Nat.le_of_ble_eq_true rfl) dX9_isNode_27 H
  refine jn_ind (fun (f9 : Mem → Option Rz) => ∀ (m26 : Mem), f9 m26 = some r → AW l D base sc RX9 yX9_isNode cX9_isNode 2 (some FieldType.boolean) 0 0 0 ad (E mi) (pI E r) 0 0 (E m26) 26 [] []) (fun m26 H => ?_) (fun j26 hj26 H => ?_) H
  · -- 26
    refine cx_iconst (pc := 26) dX9_isNode_26 ?_
    exact AW.sel [] rfl (hj27 _ _ (inR_lit _ rfl) H)
  refine cx_if_lt (pc := 1) 26 hp1 dX9_isNode_1 rfl H (fun H => ?_) (fun H => ?_)
  · -- 1: 26
    exact AW.sel [] rfl (hj26 _ H)
  · -- 1: 4
    refine aw_iload_n (pc := 4) dX9_isNode_4 rfl ?_
    refine aw_aload_n (pc := 5) dX9_isNode_5 rfl ?_
    refine cx_gtF (pc := 6) hE r4 fl_X9_50 rfl rfl (Nat.le_of_ble_eq_true rfl) dX9_isNode_6 H (fun x6 hx6 H => ?_)
    refine cx_icmp_ge (pc := 9) 26 hp1 hx6 dX9_isNode_9 rfl H (fun H => ?_) (fun H => ?_)
    · -- 9: 12
      refine aw_aload_n (pc := 12) dX9_isNode_12 rfl ?_
      refine cx_gtF (pc := 13) hE r4 fl_X9_50 rfl rfl (Nat.le_of_ble_eq_true rfl) dX9_isNode_13 H (fun x13 hx13 H => ?_)
      refine cx_sipush (pc := 16) dX9_isNode_16 (by decide) ?_
      refine cx_icmp_gt (pc := 19) 26 hx13 (inR_lit _ rfl) dX9_isNode_19 rfl H (fun H => ?_) (fun H => ?_)
      · -- 19: 26
        exact AW.sel [] rfl (hj26 _ H)
      · -- 19: 22
        refine cx_iconst (pc := 22) dX9_isNode_22 ?_
        refine aw_goto (pc := 23) 27 dX9_isNode_23 rfl ?_
        exact AW.sel [] rfl (hj27 _ _ (inR_lit _ rfl) H)
    · -- 9: 26
      exact AW.sel [] rfl (hj26 _ H)
/-- X9 mark ([JII)V -/
def f_X9_mark (n : Nat) (p0 : Nat) (p1 : Int) (p2 : Int) (mi : Mem) : Option Rz :=
  nm (w32 ((w32 (p1 * 4)) + (ishr p2 6))) fun z8 =>
  jn (fun (m31 : Mem) =>
    rt 0 m31
  ) fun (j31 : Mem → Option Rz) =>
  if z8 < 0 then (
    j31 mi
  ) else
  lenA mi p0 fun x15 =>
  if z8 < x15 then (
    ldJ mi p0 z8 fun x22 =>
    stJ mi p0 z8 (jor x22 (jshl 1 (iand p2 63))) fun m30 =>
    j31 m30
  ) else
  j31 mi
set_option maxRecDepth 100000 in
set_option maxHeartbeats 4000000 in
theorem s_X9_mark (l : Launch) (sc : g_S) (E : Mem → g_H) (R : Nat → Prop) (hE : LE E R) (hR : RYS R) (n : Nat)  (p0 : Nat) (p1 : Int) (p2 : Int) (hp0 : R p0) (hp1 : inR p1) (hp2 : inR p2) (mi : Mem) (r : Rz) (H : f_X9_mark n p0 p1 p2 mi = some r) : AMet l sc yX9_mark cX9_mark 4 none 0 0 0 [.ref p0, iv p1, iv p2] (E mi) (pV E r) := by
  unfold f_X9_mark at H
  refine AMet.of (own := RX9) (by decide +kernel) rfl (Nat.le_of_ble_eq_true rfl) [(0, .ref p0), (1, iv p1), (2, iv p2)] rfl (fun D base ad => ?_)
  refine aw_iload_n (pc := 0) dX9_mark_0 rfl ?_
  refine cx_iconst (pc := 1) dX9_mark_1 ?_
  refine cx_imul (pc := 2) dX9_mark_2 ?_
  refine aw_iload_n (pc := 3) dX9_mark_3 rfl ?_
  refine cx_bipush (pc := 4) dX9_mark_4 (by decide) ?_
  refine cx_ishr (pc := 6) dX9_mark_6 ?_
  refine cx_iadd (pc := 7) dX9_mark_7 ?_
  refine cx_nm (inR_w32 _) H (fun z8 hz8 H => ?_)
  refine aw_istore_n (pc := 8) [(3, iv z8), (0, .ref p0), (1, iv p1), (2, iv p2)] dX9_mark_8 rfl (by decide) ?_
  refine aw_iload_n (pc := 9) dX9_mark_9 rfl ?_
  refine jn_ind (fun (f9 : Mem → Option Rz) => ∀ (m31 : Mem), f9 m31 = some r → AW l D base sc RX9 yX9_mark cX9_mark 4 none 0 0 0 ad (E mi) (pV E r) 0 0 (E m31) 31 [] []) (fun m31 H => ?_) (fun j31 hj31 H => ?_) H
  · -- 31
    exact cx_vret (pc := 31) rfl (Nat.le_of_ble_eq_true rfl) (Nat.le_of_ble_eq_true rfl) dX9_mark_31 H
  refine cx_if_lt (pc := 10) 31 hz8 dX9_mark_10 rfl H (fun H => ?_) (fun H => ?_)
  · -- 10: 31
    exact AW.sel [] rfl (hj31 _ H)
  · -- 10: 13
    refine aw_iload_n (pc := 13) dX9_mark_13 rfl ?_
    refine aw_aload_n (pc := 14) dX9_mark_14 rfl ?_
    refine cx_lenA (pc := 15) hE hp0 dX9_mark_15 H (fun x15 hx15 H => ?_)
    refine cx_icmp_ge (pc := 16) 31 hz8 hx15 dX9_mark_16 rfl H (fun H => ?_) (fun H => ?_)
    · -- 16: 19
      refine aw_aload_n (pc := 19) dX9_mark_19 rfl ?_
      refine aw_iload_n (pc := 20) dX9_mark_20 rfl ?_
      refine aw_dup2 (pc := 21) dX9_mark_21 rfl rfl ?_
      refine cx_ldJ (pc := 22) hE hp0 hz8 dX9_mark_22 H (fun x22 H => ?_)
      refine cx_lconst (pc := 23) dX9_mark_23 ?_
      refine aw_iload_n (pc := 24) dX9_mark_24 rfl ?_
      refine cx_bipush (pc := 25) dX9_mark_25 (by decide) ?_
      refine cx_iand (pc := 27) dX9_mark_27 ?_
      refine cx_lshl (pc := 28) dX9_mark_28 ?_
      refine cx_lor (pc := 29) dX9_mark_29 ?_
      refine cx_stJ (pc := 30) hE hp0 hz8 dX9_mark_30 H (fun m30 H => ?_)
      exact AW.sel [] rfl (hj31 _ H)
    · -- 16: 31
      exact AW.sel [] rfl (hj31 _ H)
/-- X9 addLeft (I)V -/
def f_X9_addLeft (n : Nat) (p1 : Int) (mi : Mem) : Option Rz :=
  gtF mi 4 14 fun x2 =>
  cal (f_X9_isNode n p1 mi) fun x7 m7 =>
  jn (fun (s0_18 : Int) (m18 : Mem) =>
    ptZ m18 4 14 (ior x2 s0_18) fun m19 =>
    cal (f_X9_mark n 11 0 p1 m19) fun _ m28 =>
    rt 0 m28
  ) fun (j18 : Int → Mem → Option Rz) =>
  if x7 = 0 then (
    j18 1 m7
  ) else
  j18 0 m7
set_option maxRecDepth 100000 in
set_option maxHeartbeats 4000000 in
theorem s_X9_addLeft (l : Launch) (sc : g_S) (E : Mem → g_H) (R : Nat → Prop) (hE : LE E R) (hR : RYS R) (n : Nat)  (p1 : Int) (hp1 : inR p1) (mi : Mem) (r : Rz) (H : f_X9_addLeft n p1 mi = some r) : AMet l sc yX9_addLeft cX9_addLeft 2 none 1 0 0 [.ref 4, iv p1] (E mi) (pV E r) := by
  have r4 : R 4 := hR.1 4 (Nat.le_of_ble_eq_true rfl) (Nat.le_of_ble_eq_true rfl)
  have r11 : R 11 := hR.1 11 (Nat.le_of_ble_eq_true rfl) (Nat.le_of_ble_eq_true rfl)
  unfold f_X9_addLeft at H
  refine AMet.of (own := RX9) (by decide +kernel) rfl (Nat.le_of_ble_eq_true rfl) [(0, .ref 4), (1, iv p1)] rfl (fun D base ad => ?_)
  refine aw_aload_n (pc := 0) dX9_addLeft_0 rfl ?_
  refine aw_dup (pc := 1) dX9_addLeft_1 rfl ?_
  refine cx_gtF (pc := 2) hE r4 fl_X9_61 rfl rfl (Nat.le_of_ble_eq_true rfl) dX9_addLeft_2 H (fun x2 hx2 H => ?_)
  refine aw_aload_n (pc := 5) dX9_addLeft_5 rfl ?_
  refine aw_iload_n (pc := 6) dX9_addLeft_6 rfl ?_
  refine cx_callV (pc := 7) (P := pI) (dC := 0) (mcC := 0) (msC := 0) [iv p1] hE r4 (fun r1 H1 => s_X9_isNode l sc E R hE hR n p1 hp1 mi r1 H1) ca_X9_71 rfl ⟨_, rfl, rfl⟩ rfl rfl (Nat.le_of_ble_eq_true rfl) (Nat.le_of_ble_eq_true rfl) (Nat.le_of_ble_eq_true rfl) (Nat.le_of_ble_eq_true rfl) dX9_addLeft_7 H (fun x7 m7 v7 hh7 H hp => ?_)
  refine cx_backI hp (fun hx7 => ?_)
  refine jn_ind (fun (f9 : Int → Mem → Option Rz) => ∀ (s0_18 : Int) (m18 : Mem), inR s0_18 → f9 s0_18 m18 = some r → AW l D base sc RX9 yX9_addLeft cX9_addLeft 2 none 1 0 0 ad (E mi) (pV E r) 0 0 (E m18) 18 [(0, .ref 4), (1, iv p1)] [iv s0_18, iv x2, .ref 4]) (fun s0_18 m18 hs0_18 H => ?_) (fun j18 hj18 H => ?_) H
  · -- 18
    refine cx_ior (pc := 18) dX9_addLeft_18 ?_
    refine cx_ptZ (pc := 19) tyX9 hE r4 fl_X9_61 (fun r h => ⟨gty_X9 r h, by cases h; rfl⟩) rfl rfl rfl (Nat.le_of_ble_eq_true rfl) dX9_addLeft_19 H (fun m19 H => ?_)
    refine aw_aload_n (pc := 22) dX9_addLeft_22 rfl ?_
    refine cx_gtC (pc := 23) 11 hE r4 fl_X9_29 rfl rfl (Nat.le_of_ble_eq_true rfl) dX9_addLeft_23 ?_
    refine cx_iconst (pc := 26) dX9_addLeft_26 ?_
    refine aw_iload_n (pc := 27) dX9_addLeft_27 rfl ?_
    refine cx_callS (pc := 28) (P := pV) (dC := 0) (mcC := 0) (msC := 0) [.ref 11, iv 0, iv p1] (fun r1 H1 => s_X9_mark l sc E R hE hR n 11 0 p1 r11 (inR_lit _ rfl) hp1 m19 r1 H1) ca_X9_75 rfl rfl (Nat.le_of_ble_eq_true rfl) (Nat.le_of_ble_eq_true rfl) (Nat.le_of_ble_eq_true rfl) (Nat.le_of_ble_eq_true rfl) dX9_addLeft_28 H (fun x28 m28 v28 hh28 H hp => ?_)
    refine cx_backV hp ?_
    exact cx_vret (pc := 31) rfl (Nat.le_of_ble_eq_true rfl) (Nat.le_of_ble_eq_true rfl) dX9_addLeft_31 H
  refine cx_if_ne (pc := 10) 17 hx7 dX9_addLeft_10 rfl H (fun H => ?_) (fun H => ?_)
  · -- 10: 13
    refine cx_iconst (pc := 13) dX9_addLeft_13 ?_
    refine aw_goto (pc := 14) 18 dX9_addLeft_14 rfl ?_
    exact AW.sel [0, 1] rfl (hj18 _ _ (inR_lit _ rfl) H)
  · -- 10: 17
    refine cx_iconst (pc := 17) dX9_addLeft_17 ?_
    exact AW.sel [0, 1] rfl (hj18 _ _ (inR_lit _ rfl) H)
/-- X9 addRight (I)V -/
def f_X9_addRight (n : Nat) (p1 : Int) (mi : Mem) : Option Rz :=
  gtF mi 4 14 fun x2 =>
  cal (f_X9_isNode n p1 mi) fun x7 m7 =>
  jn (fun (s0_18 : Int) (m18 : Mem) =>
    ptZ m18 4 14 (ior x2 s0_18) fun m19 =>
    cal (f_X9_mark n 12 0 p1 m19) fun _ m28 =>
    rt 0 m28
  ) fun (j18 : Int → Mem → Option Rz) =>
  if x7 = 0 then (
    j18 1 m7
  ) else
  j18 0 m7
set_option maxRecDepth 100000 in
set_option maxHeartbeats 4000000 in
theorem s_X9_addRight (l : Launch) (sc : g_S) (E : Mem → g_H) (R : Nat → Prop) (hE : LE E R) (hR : RYS R) (n : Nat)  (p1 : Int) (hp1 : inR p1) (mi : Mem) (r : Rz) (H : f_X9_addRight n p1 mi = some r) : AMet l sc yX9_addRight cX9_addRight 2 none 1 0 0 [.ref 4, iv p1] (E mi) (pV E r) := by
  have r4 : R 4 := hR.1 4 (Nat.le_of_ble_eq_true rfl) (Nat.le_of_ble_eq_true rfl)
  have r12 : R 12 := hR.1 12 (Nat.le_of_ble_eq_true rfl) (Nat.le_of_ble_eq_true rfl)
  unfold f_X9_addRight at H
  refine AMet.of (own := RX9) (by decide +kernel) rfl (Nat.le_of_ble_eq_true rfl) [(0, .ref 4), (1, iv p1)] rfl (fun D base ad => ?_)
  refine aw_aload_n (pc := 0) dX9_addRight_0 rfl ?_
  refine aw_dup (pc := 1) dX9_addRight_1 rfl ?_
  refine cx_gtF (pc := 2) hE r4 fl_X9_61 rfl rfl (Nat.le_of_ble_eq_true rfl) dX9_addRight_2 H (fun x2 hx2 H => ?_)
  refine aw_aload_n (pc := 5) dX9_addRight_5 rfl ?_
  refine aw_iload_n (pc := 6) dX9_addRight_6 rfl ?_
  refine cx_callV (pc := 7) (P := pI) (dC := 0) (mcC := 0) (msC := 0) [iv p1] hE r4 (fun r1 H1 => s_X9_isNode l sc E R hE hR n p1 hp1 mi r1 H1) ca_X9_71 rfl ⟨_, rfl, rfl⟩ rfl rfl (Nat.le_of_ble_eq_true rfl) (Nat.le_of_ble_eq_true rfl) (Nat.le_of_ble_eq_true rfl) (Nat.le_of_ble_eq_true rfl) dX9_addRight_7 H (fun x7 m7 v7 hh7 H hp => ?_)
  refine cx_backI hp (fun hx7 => ?_)
  refine jn_ind (fun (f9 : Int → Mem → Option Rz) => ∀ (s0_18 : Int) (m18 : Mem), inR s0_18 → f9 s0_18 m18 = some r → AW l D base sc RX9 yX9_addRight cX9_addRight 2 none 1 0 0 ad (E mi) (pV E r) 0 0 (E m18) 18 [(0, .ref 4), (1, iv p1)] [iv s0_18, iv x2, .ref 4]) (fun s0_18 m18 hs0_18 H => ?_) (fun j18 hj18 H => ?_) H
  · -- 18
    refine cx_ior (pc := 18) dX9_addRight_18 ?_
    refine cx_ptZ (pc := 19) tyX9 hE r4 fl_X9_61 (fun r h => ⟨gty_X9 r h, by cases h; rfl⟩) rfl rfl rfl (Nat.le_of_ble_eq_true rfl) dX9_addRight_19 H (fun m19 H => ?_)
    refine aw_aload_n (pc := 22) dX9_addRight_22 rfl ?_
    refine cx_gtC (pc := 23) 12 hE r4 fl_X9_32 rfl rfl (Nat.le_of_ble_eq_true rfl) dX9_addRight_23 ?_
    refine cx_iconst (pc := 26) dX9_addRight_26 ?_
    refine aw_iload_n (pc := 27) dX9_addRight_27 rfl ?_
    refine cx_callS (pc := 28) (P := pV) (dC := 0) (mcC := 0) (msC := 0) [.ref 12, iv 0, iv p1] (fun r1 H1 => s_X9_mark l sc E R hE hR n 12 0 p1 r12 (inR_lit _ rfl) hp1 m19 r1 H1) ca_X9_75 rfl rfl (Nat.le_of_ble_eq_true rfl) (Nat.le_of_ble_eq_true rfl) (Nat.le_of_ble_eq_true rfl) (Nat.le_of_ble_eq_true rfl) dX9_addRight_28 H (fun x28 m28 v28 hh28 H hp => ?_)
    refine cx_backV hp ?_
    exact cx_vret (pc := 31) rfl (Nat.le_of_ble_eq_true rfl) (Nat.le_of_ble_eq_true rfl) dX9_addRight_31 H
  refine cx_if_ne (pc := 10) 17 hx7 dX9_addRight_10 rfl H (fun H => ?_) (fun H => ?_)
  · -- 10: 13
    refine cx_iconst (pc := 13) dX9_addRight_13 ?_
    refine aw_goto (pc := 14) 18 dX9_addRight_14 rfl ?_
    exact AW.sel [0, 1] rfl (hj18 _ _ (inR_lit _ rfl) H)
  · -- 10: 17
    refine cx_iconst (pc := 17) dX9_addRight_17 ?_
    exact AW.sel [0, 1] rfl (hj18 _ _ (inR_lit _ rfl) H)
/-- X9 begin ()V -/
def f_X9_begin (n : Nat)  (mi : Mem) : Option Rz :=
  ptZ mi 4 14 0 fun m2 =>
  cal (f_J7_fill_d0a16 n 11 0 m2) fun _ m10 =>
  cal (f_J7_fill_d0a16 n 12 0 m10) fun _ m18 =>
  rt 0 m18
set_option maxRecDepth 100000 in
set_option maxHeartbeats 4000000 in
theorem s_X9_begin (l : Launch) (sc : g_S) (E : Mem → g_H) (R : Nat → Prop) (hE : LE E R) (hR : RYS R) (n : Nat)    (mi : Mem) (r : Rz) (H : f_X9_begin n  mi = some r) : AMet l sc yX9_begin cX9_begin 1 none 1 0 0 [.ref 4] (E mi) (pV E r) := by
  have r4 : R 4 := hR.1 4 (Nat.le_of_ble_eq_true rfl) (Nat.le_of_ble_eq_true rfl)
  have r11 : R 11 := hR.1 11 (Nat.le_of_ble_eq_true rfl) (Nat.le_of_ble_eq_true rfl)
  have r12 : R 12 := hR.1 12 (Nat.le_of_ble_eq_true rfl) (Nat.le_of_ble_eq_true rfl)
  unfold f_X9_begin at H
  refine AMet.of (own := RX9) (by decide +kernel) rfl (Nat.le_of_ble_eq_true rfl) [(0, .ref 4)] rfl (fun D base ad => ?_)
  refine aw_aload_n (pc := 0) dX9_begin_0 rfl ?_
  refine cx_iconst (pc := 1) dX9_begin_1 ?_
  refine cx_ptZ (pc := 2) tyX9 hE r4 fl_X9_61 (fun r h => ⟨gty_X9 r h, by cases h; rfl⟩) rfl rfl rfl (Nat.le_of_ble_eq_true rfl) dX9_begin_2 H (fun m2 H => ?_)
  refine aw_aload_n (pc := 5) dX9_begin_5 rfl ?_
  refine cx_gtC (pc := 6) 11 hE r4 fl_X9_29 rfl rfl (Nat.le_of_ble_eq_true rfl) dX9_begin_6 ?_
  refine cx_lconst (pc := 9) dX9_begin_9 ?_
  refine cx_callS (pc := 10) (P := pV) (dC := 0) (mcC := 0) (msC := 0) [.ref 11, jv 0] (fun r1 H1 => s_J7_fill_d0a16 l sc E R hE n 11 0 r11 m2 r1 H1) ca_X9_65 rfl rfl (Nat.le_of_ble_eq_true rfl) (Nat.le_of_ble_eq_true rfl) (Nat.le_of_ble_eq_true rfl) (Nat.le_of_ble_eq_true rfl) dX9_begin_10 H (fun x10 m10 v10 hh10 H hp => ?_)
  refine cx_backV hp ?_
  refine aw_aload_n (pc := 13) dX9_begin_13 rfl ?_
  refine cx_gtC (pc := 14) 12 hE r4 fl_X9_32 rfl rfl (Nat.le_of_ble_eq_true rfl) dX9_begin_14 ?_
  refine cx_lconst (pc := 17) dX9_begin_17 ?_
  refine cx_callS (pc := 18) (P := pV) (dC := 0) (mcC := 0) (msC := 0) [.ref 12, jv 0] (fun r1 H1 => s_J7_fill_d0a16 l sc E R hE n 12 0 r12 m10 r1 H1) ca_X9_65 rfl rfl (Nat.le_of_ble_eq_true rfl) (Nat.le_of_ble_eq_true rfl) (Nat.le_of_ble_eq_true rfl) (Nat.le_of_ble_eq_true rfl) dX9_begin_18 H (fun x18 m18 v18 hh18 H hp => ?_)
  refine cx_backV hp ?_
  exact cx_vret (pc := 21) rfl (Nat.le_of_ble_eq_true rfl) (Nat.le_of_ble_eq_true rfl) dX9_begin_21 H
/-- X9 has ([JII)Z -/
def f_X9_has (n : Nat) (p0 : Nat) (p1 : Int) (p2 : Int) (mi : Mem) : Option Rz :=
  nm (w32 ((w32 (p1 * 4)) + (ishr p2 6))) fun z8 =>
  jn (fun (s0_39 : Int) (m39 : Mem) =>
    rtZ s0_39 m39
  ) fun (j39 : Int → Mem → Option Rz) =>
  jn (fun (m38 : Mem) =>
    j39 0 m38
  ) fun (j38 : Mem → Option Rz) =>
  if z8 < 0 then (
    j38 mi
  ) else
  lenA mi p0 fun x15 =>
  if z8 < x15 then (
    ldJ mi p0 z8 fun x21 =>
    if jcmp (jand (jushr x21 (iand p2 63)) 1) 0 = 0 then (
      j38 mi
    ) else
    j39 1 mi
  ) else
  j38 mi
set_option maxRecDepth 100000 in
set_option maxHeartbeats 4000000 in
theorem s_X9_has (l : Launch) (sc : g_S) (E : Mem → g_H) (R : Nat → Prop) (hE : LE E R) (hR : RYS R) (n : Nat)  (p0 : Nat) (p1 : Int) (p2 : Int) (hp0 : R p0) (hp1 : inR p1) (hp2 : inR p2) (mi : Mem) (r : Rz) (H : f_X9_has n p0 p1 p2 mi = some r) : AMet l sc yX9_has cX9_has 4 (some FieldType.boolean) 0 0 0 [.ref p0, iv p1, iv p2] (E mi) (pI E r) := by
  unfold f_X9_has at H
  refine AMet.of (own := RX9) (by decide +kernel) rfl (Nat.le_of_ble_eq_true rfl) [(0, .ref p0), (1, iv p1), (2, iv p2)] rfl (fun D base ad => ?_)
  refine aw_iload_n (pc := 0) dX9_has_0 rfl ?_
  refine cx_iconst (pc := 1) dX9_has_1 ?_
  refine cx_imul (pc := 2) dX9_has_2 ?_
  refine aw_iload_n (pc := 3) dX9_has_3 rfl ?_
  refine cx_bipush (pc := 4) dX9_has_4 (by decide) ?_
  refine cx_ishr (pc := 6) dX9_has_6 ?_
  refine cx_iadd (pc := 7) dX9_has_7 ?_
  refine cx_nm (inR_w32 _) H (fun z8 hz8 H => ?_)
  refine aw_istore_n (pc := 8) [(3, iv z8), (0, .ref p0), (1, iv p1), (2, iv p2)] dX9_has_8 rfl (by decide) ?_
  refine aw_iload_n (pc := 9) dX9_has_9 rfl ?_
  refine jn_ind (fun (f9 : Int → Mem → Option Rz) => ∀ (s0_39 : Int) (m39 : Mem), inR s0_39 → f9 s0_39 m39 = some r → AW l D base sc RX9 yX9_has cX9_has 4 (some FieldType.boolean) 0 0 0 ad (E mi) (pI E r) 0 0 (E m39) 39 [] [iv s0_39]) (fun s0_39 m39 hs0_39 H => ?_) (fun j39 hj39 H => ?_) H
  · -- 39
    exact cx_zret (pc := 39) rfl (Nat.le_of_ble_eq_true rfl) (Nat.le_of_ble_eq_true rfl) dX9_has_39 H
  refine jn_ind (fun (f9 : Mem → Option Rz) => ∀ (m38 : Mem), f9 m38 = some r → AW l D base sc RX9 yX9_has cX9_has 4 (some FieldType.boolean) 0 0 0 ad (E mi) (pI E r) 0 0 (E m38) 38 [] []) (fun m38 H => ?_) (fun j38 hj38 H => ?_) H
  · -- 38
    refine cx_iconst (pc := 38) dX9_has_38 ?_
    exact AW.sel [] rfl (hj39 _ _ (inR_lit _ rfl) H)
  refine cx_if_lt (pc := 10) 38 hz8 dX9_has_10 rfl H (fun H => ?_) (fun H => ?_)
  · -- 10: 38
    exact AW.sel [] rfl (hj38 _ H)
  · -- 10: 13
    refine aw_iload_n (pc := 13) dX9_has_13 rfl ?_
    refine aw_aload_n (pc := 14) dX9_has_14 rfl ?_
    refine cx_lenA (pc := 15) hE hp0 dX9_has_15 H (fun x15 hx15 H => ?_)
    refine cx_icmp_ge (pc := 16) 38 hz8 hx15 dX9_has_16 rfl H (fun H => ?_) (fun H => ?_)
    · -- 16: 19
      refine aw_aload_n (pc := 19) dX9_has_19 rfl ?_
      refine aw_iload_n (pc := 20) dX9_has_20 rfl ?_
      refine cx_ldJ (pc := 21) hE hp0 hz8 dX9_has_21 H (fun x21 H => ?_)
      refine aw_iload_n (pc := 22) dX9_has_22 rfl ?_
      refine cx_bipush (pc := 23) dX9_has_23 (by decide) ?_
      refine cx_iand (pc := 25) dX9_has_25 ?_
      refine cx_lushr (pc := 26) dX9_has_26 ?_
      refine cx_lconst (pc := 27) dX9_has_27 ?_
      refine cx_land (pc := 28) dX9_has_28 ?_
      refine cx_lconst (pc := 29) dX9_has_29 ?_
      refine cx_lcmp (pc := 30) dX9_has_30 ?_
      refine cx_if_eq (pc := 31) 38 (inR_32 _) dX9_has_31 rfl H (fun H => ?_) (fun H => ?_)
      · -- 31: 38
        exact AW.sel [] rfl (hj38 _ H)
      · -- 31: 34
        refine cx_iconst (pc := 34) dX9_has_34 ?_
        refine aw_goto (pc := 35) 39 dX9_has_35 rfl ?_
        exact AW.sel [] rfl (hj39 _ _ (inR_lit _ rfl) H)
    · -- 16: 38
      exact AW.sel [] rfl (hj38 _ H)
/-- X9 replace ([JI[J)V -/
def f_X9_replace (n : Nat) (p0 : Nat) (p1 : Int) (p2 : Nat) (mi : Mem) : Option Rz :=
  nm (w32 (p1 * 4)) fun z3 =>
  lp (F := Int → Mem → Option Rz) (fun _ _ => none) (fun w7 v4_7 m7 =>
    jn (fun (m49 : Mem) =>
      rt 0 m49
    ) fun (j49 : Mem → Option Rz) =>
    if v4_7 < 4 then (
      lenA m7 p2 fun x16 =>
      if v4_7 < x16 then (
        if z3 < 0 then (
          j49 m7
        ) else
        lenA m7 p0 fun x29 =>
        if w32 (z3 + v4_7) < x29 then (
          ldJ m7 p2 v4_7 fun x41 =>
          stJ m7 p0 (w32 (z3 + v4_7)) x41 fun m42 =>
          w7 (w32 (v4_7 + 1)) m42
        ) else
        j49 m7
      ) else
      j49 m7
    ) else
    j49 m7
  ) n 0 mi
set_option maxRecDepth 100000 in
set_option maxHeartbeats 4000000 in
theorem s_X9_replace (l : Launch) (sc : g_S) (E : Mem → g_H) (R : Nat → Prop) (hE : LE E R) (hR : RYS R) (n : Nat)  (p0 : Nat) (p1 : Int) (p2 : Nat) (hp0 : R p0) (hp1 : inR p1) (hp2 : R p2) (mi : Mem) (r : Rz) (H : f_X9_replace n p0 p1 p2 mi = some r) : AMet l sc yX9_replace cX9_replace 5 none 0 0 0 [.ref p0, iv p1, .ref p2] (E mi) (pV E r) := by
  unfold f_X9_replace at H
  refine AMet.of (own := RX9) (by decide +kernel) rfl (Nat.le_of_ble_eq_true rfl) [(0, .ref p0), (1, iv p1), (2, .ref p2)] rfl (fun D base ad => ?_)
  refine aw_iload_n (pc := 0) dX9_replace_0 rfl ?_
  refine cx_iconst (pc := 1) dX9_replace_1 ?_
  refine cx_imul (pc := 2) dX9_replace_2 ?_
  refine cx_nm (inR_w32 _) H (fun z3 hz3 H => ?_)
  refine aw_istore_n (pc := 3) [(3, iv z3), (0, .ref p0), (1, iv p1), (2, .ref p2)] dX9_replace_3 rfl (by decide) ?_
  refine cx_iconst (pc := 4) dX9_replace_4 ?_
  refine aw_istore (pc := 5) [(4, iv 0), (3, iv z3), (0, .ref p0), (1, iv p1), (2, .ref p2)] dX9_replace_5 rfl (by decide) ?_
  refine AW.sel [2, 4, 1, 0] rfl (lp_ind (bot := fun _ _ => none) (fun (f9 : Int → Mem → Option Rz) => ∀ (v4_7 : Int) (m7 : Mem), inR v4_7 → f9 v4_7 m7 = some r → AW l D base sc RX9 yX9_replace cX9_replace 5 none 0 0 0 ad (E mi) (pV E r) 0 0 (E m7) 7 [(0, .ref p0), (2, .ref p2), (3, iv z3), (4, iv v4_7)] []) (fun _ _ _ h9 => nomatch h9) (fun w7 ih7 v4_7 m7 hv4_7 H => ?_) n _ _ (inR_lit _ rfl) H)
  refine aw_iload (pc := 7) dX9_replace_7 rfl ?_
  refine cx_iconst (pc := 9) dX9_replace_9 ?_
  refine jn_ind (fun (f9 : Mem → Option Rz) => ∀ (m49 : Mem), f9 m49 = some r → AW l D base sc RX9 yX9_replace cX9_replace 5 none 0 0 0 ad (E mi) (pV E r) 0 0 (E m49) 49 [] []) (fun m49 H => ?_) (fun j49 hj49 H => ?_) H
  · -- 49
    exact cx_vret (pc := 49) rfl (Nat.le_of_ble_eq_true rfl) (Nat.le_of_ble_eq_true rfl) dX9_replace_49 H
  refine cx_icmp_ge (pc := 10) 49 hv4_7 (inR_lit _ rfl) dX9_replace_10 rfl H (fun H => ?_) (fun H => ?_)
  · -- 10: 13
    refine aw_iload (pc := 13) dX9_replace_13 rfl ?_
    refine aw_aload_n (pc := 15) dX9_replace_15 rfl ?_
    refine cx_lenA (pc := 16) hE hp2 dX9_replace_16 H (fun x16 hx16 H => ?_)
    refine cx_icmp_ge (pc := 17) 49 hv4_7 hx16 dX9_replace_17 rfl H (fun H => ?_) (fun H => ?_)
    · -- 17: 20
      refine aw_iload_n (pc := 20) dX9_replace_20 rfl ?_
      refine cx_if_lt (pc := 21) 49 hz3 dX9_replace_21 rfl H (fun H => ?_) (fun H => ?_)
      · -- 21: 49
        exact AW.sel [] rfl (hj49 _ H)
      · -- 21: 24
        refine aw_iload_n (pc := 24) dX9_replace_24 rfl ?_
        refine aw_iload (pc := 25) dX9_replace_25 rfl ?_
        refine cx_iadd (pc := 27) dX9_replace_27 ?_
        refine aw_aload_n (pc := 28) dX9_replace_28 rfl ?_
        refine cx_lenA (pc := 29) hE hp0 dX9_replace_29 H (fun x29 hx29 H => ?_)
        refine cx_icmp_ge (pc := 30) 49 (inR_w32 _) hx29 dX9_replace_30 rfl H (fun H => ?_) (fun H => ?_)
        · -- 30: 33
          refine aw_aload_n (pc := 33) dX9_replace_33 rfl ?_
          refine aw_iload_n (pc := 34) dX9_replace_34 rfl ?_
          refine aw_iload (pc := 35) dX9_replace_35 rfl ?_
          refine cx_iadd (pc := 37) dX9_replace_37 ?_
          refine aw_aload_n (pc := 38) dX9_replace_38 rfl ?_
          refine aw_iload (pc := 39) dX9_replace_39 rfl ?_
          refine cx_ldJ (pc := 41) hE hp2 hv4_7 dX9_replace_41 H (fun x41 H => ?_)
          refine cx_stJ (pc := 42) hE hp0 (inR_w32 _) dX9_replace_42 H (fun m42 H => ?_)
          refine cx_iinc (pc := 43) [(4, iv (w32 (v4_7 + 1))), (0, .ref p0), (2, .ref p2), (3, iv z3)] dX9_replace_43 rfl rfl (by decide) ?_
          refine aw_goto (pc := 46) 7 dX9_replace_46 rfl ?_
          exact AW.sel [1, 2, 3, 0] rfl (ih7 _ _ (inR_w32 _) H)
        · -- 30: 49
          exact AW.sel [] rfl (hj49 _ H)
    · -- 17: 49
      exact AW.sel [] rfl (hj49 _ H)
  · -- 10: 49
    exact AW.sel [] rfl (hj49 _ H)
/-- X9 add ()I -/
def f_X9_add (n : Nat)  (mi : Mem) : Option Rz :=
  gtF mi 4 13 fun x1 =>
  if x1 < 256 then (
    gtF mi 4 13 fun x13 =>
    gtF mi 4 13 fun x19 =>
    ptF mi 4 13 (w32 (x19 + 1)) fun m24 =>
    cal (f_X9_replace n 5 x13 11 m24) fun _ m36 =>
    cal (f_X9_replace n 6 x13 12 m36) fun _ m48 =>
    cal (f_X9_replace n 7 x13 13 m48) fun _ m60 =>
    cal (f_X9_replace n 8 x13 14 m60) fun _ m72 =>
    lp (F := Int → Mem → Option Rz) (fun _ _ => none) (fun w77 v2_77 m77 =>
      if v2_77 < x13 then (
        cal (f_X9_has n 13 0 v2_77 m77) fun x88 m88 =>
        jn (fun (m103 : Mem) =>
          cal (f_X9_has n 14 0 v2_77 m103) fun x109 m109 =>
          jn (fun (m124 : Mem) =>
            w77 (w32 (v2_77 + 1)) m124
          ) fun (j124 : Mem → Option Rz) =>
          if x109 = 0 then (
            j124 m109
          ) else
          cal (f_X9_mark n 7 v2_77 x13 m109) fun _ m121 =>
          j124 m121
        ) fun (j103 : Mem → Option Rz) =>
        if x88 = 0 then (
          j103 m88
        ) else
        cal (f_X9_mark n 8 v2_77 x13 m88) fun _ m100 =>
        j103 m100
      ) else
      cal (f_X9_mark n 7 x13 x13 m77) fun _ m136 =>
      cal (f_X9_mark n 8 x13 x13 m136) fun _ m145 =>
      stI m145 9 x13 (-1) fun m154 =>
      stI m154 10 x13 (-1) fun m161 =>
      rt x13 m161
    ) n 0 m72
  ) else
  rt (-1) mi
set_option maxRecDepth 100000 in
set_option maxHeartbeats 4000000 in
theorem s_X9_add (l : Launch) (sc : g_S) (E : Mem → g_H) (R : Nat → Prop) (hE : LE E R) (hR : RYS R) (n : Nat)    (mi : Mem) (r : Rz) (H : f_X9_add n  mi = some r) : AMet l sc yX9_add cX9_add 3 (some FieldType.int) 1 0 0 [.ref 4] (E mi) (pI E r) := by
  have r4 : R 4 := hR.1 4 (Nat.le_of_ble_eq_true rfl) (Nat.le_of_ble_eq_true rfl)
  have r5 : R 5 := hR.1 5 (Nat.le_of_ble_eq_true rfl) (Nat.le_of_ble_eq_true rfl)
  have r6 : R 6 := hR.1 6 (Nat.le_of_ble_eq_true rfl) (Nat.le_of_ble_eq_true rfl)
  have r7 : R 7 := hR.1 7 (Nat.le_of_ble_eq_true rfl) (Nat.le_of_ble_eq_true rfl)
  have r8 : R 8 := hR.1 8 (Nat.le_of_ble_eq_true rfl) (Nat.le_of_ble_eq_true rfl)
  have r9 : R 9 := hR.1 9 (Nat.le_of_ble_eq_true rfl) (Nat.le_of_ble_eq_true rfl)
  have r10 : R 10 := hR.1 10 (Nat.le_of_ble_eq_true rfl) (Nat.le_of_ble_eq_true rfl)
  have r11 : R 11 := hR.1 11 (Nat.le_of_ble_eq_true rfl) (Nat.le_of_ble_eq_true rfl)
  have r12 : R 12 := hR.1 12 (Nat.le_of_ble_eq_true rfl) (Nat.le_of_ble_eq_true rfl)
  have r13 : R 13 := hR.1 13 (Nat.le_of_ble_eq_true rfl) (Nat.le_of_ble_eq_true rfl)
  have r14 : R 14 := hR.1 14 (Nat.le_of_ble_eq_true rfl) (Nat.le_of_ble_eq_true rfl)
  unfold f_X9_add at H
  refine AMet.of (own := RX9) (by decide +kernel) rfl (Nat.le_of_ble_eq_true rfl) [(0, .ref 4)] rfl (fun D base ad => ?_)
  refine aw_aload_n (pc := 0) dX9_add_0 rfl ?_
  refine cx_gtF (pc := 1) hE r4 fl_X9_50 rfl rfl (Nat.le_of_ble_eq_true rfl) dX9_add_1 H (fun x1 hx1 H => ?_)
  refine cx_sipush (pc := 4) dX9_add_4 (by decide) ?_
  refine cx_icmp_lt (pc := 7) 12 hx1 (inR_lit _ rfl) dX9_add_7 rfl H (fun H => ?_) (fun H => ?_)
  · -- 7: 12
    refine aw_aload_n (pc := 12) dX9_add_12 rfl ?_
    refine cx_gtF (pc := 13) hE r4 fl_X9_50 rfl rfl (Nat.le_of_ble_eq_true rfl) dX9_add_13 H (fun x13 hx13 H => ?_)
    refine aw_istore_n (pc := 16) [(1, iv x13), (0, .ref 4)] dX9_add_16 rfl (by decide) ?_
    refine aw_aload_n (pc := 17) dX9_add_17 rfl ?_
    refine aw_dup (pc := 18) dX9_add_18 rfl ?_
    refine cx_gtF (pc := 19) hE r4 fl_X9_50 rfl rfl (Nat.le_of_ble_eq_true rfl) dX9_add_19 H (fun x19 hx19 H => ?_)
    refine cx_iconst (pc := 22) dX9_add_22 ?_
    refine cx_iadd (pc := 23) dX9_add_23 ?_
    refine cx_ptF (pc := 24) tyX9 hE r4 fl_X9_50 (fun r h => ⟨gty_X9 r h, by cases h; rfl⟩) rfl rfl rfl (Nat.le_of_ble_eq_true rfl) dX9_add_24 H (fun m24 H => ?_)
    refine aw_aload_n (pc := 27) dX9_add_27 rfl ?_
    refine cx_gtC (pc := 28) 5 hE r4 fl_X9_9 rfl rfl (Nat.le_of_ble_eq_true rfl) dX9_add_28 ?_
    refine aw_iload_n (pc := 31) dX9_add_31 rfl ?_
    refine aw_aload_n (pc := 32) dX9_add_32 rfl ?_
    refine cx_gtC (pc := 33) 11 hE r4 fl_X9_29 rfl rfl (Nat.le_of_ble_eq_true rfl) dX9_add_33 ?_
    refine cx_callS (pc := 36) (P := pV) (dC := 0) (mcC := 0) (msC := 0) [.ref 5, iv x13, .ref 11] (fun r1 H1 => s_X9_replace l sc E R hE hR n 5 x13 11 r5 hx13 r11 m24 r1 H1) ca_X9_108 rfl rfl (Nat.le_of_ble_eq_true rfl) (Nat.le_of_ble_eq_true rfl) (Nat.le_of_ble_eq_true rfl) (Nat.le_of_ble_eq_true rfl) dX9_add_36 H (fun x36 m36 v36 hh36 H hp => ?_)
    refine cx_backV hp ?_
    refine aw_aload_n (pc := 39) dX9_add_39 rfl ?_
    refine cx_gtC (pc := 40) 6 hE r4 fl_X9_13 rfl rfl (Nat.le_of_ble_eq_true rfl) dX9_add_40 ?_
    refine aw_iload_n (pc := 43) dX9_add_43 rfl ?_
    refine aw_aload_n (pc := 44) dX9_add_44 rfl ?_
    refine cx_gtC (pc := 45) 12 hE r4 fl_X9_32 rfl rfl (Nat.le_of_ble_eq_true rfl) dX9_add_45 ?_
    refine cx_callS (pc := 48) (P := pV) (dC := 0) (mcC := 0) (msC := 0) [.ref 6, iv x13, .ref 12] (fun r1 H1 => s_X9_replace l sc E R hE hR n 6 x13 12 r6 hx13 r12 m36 r1 H1) ca_X9_108 rfl rfl (Nat.le_of_ble_eq_true rfl) (Nat.le_of_ble_eq_true rfl) (Nat.le_of_ble_eq_true rfl) (Nat.le_of_ble_eq_true rfl) dX9_add_48 H (fun x48 m48 v48 hh48 H hp => ?_)
    refine cx_backV hp ?_
    refine aw_aload_n (pc := 51) dX9_add_51 rfl ?_
    refine cx_gtC (pc := 52) 7 hE r4 fl_X9_16 rfl rfl (Nat.le_of_ble_eq_true rfl) dX9_add_52 ?_
    refine aw_iload_n (pc := 55) dX9_add_55 rfl ?_
    refine aw_aload_n (pc := 56) dX9_add_56 rfl ?_
    refine cx_gtC (pc := 57) 13 hE r4 fl_X9_35 rfl rfl (Nat.le_of_ble_eq_true rfl) dX9_add_57 ?_
    refine cx_callS (pc := 60) (P := pV) (dC := 0) (mcC := 0) (msC := 0) [.ref 7, iv x13, .ref 13] (fun r1 H1 => s_X9_replace l sc E R hE hR n 7 x13 13 r7 hx13 r13 m48 r1 H1) ca_X9_108 rfl rfl (Nat.le_of_ble_eq_true rfl) (Nat.le_of_ble_eq_true rfl) (Nat.le_of_ble_eq_true rfl) (Nat.le_of_ble_eq_true rfl) dX9_add_60 H (fun x60 m60 v60 hh60 H hp => ?_)
    refine cx_backV hp ?_
    refine aw_aload_n (pc := 63) dX9_add_63 rfl ?_
    refine cx_gtC (pc := 64) 8 hE r4 fl_X9_19 rfl rfl (Nat.le_of_ble_eq_true rfl) dX9_add_64 ?_
    refine aw_iload_n (pc := 67) dX9_add_67 rfl ?_
    refine aw_aload_n (pc := 68) dX9_add_68 rfl ?_
    refine cx_gtC (pc := 69) 14 hE r4 fl_X9_38 rfl rfl (Nat.le_of_ble_eq_true rfl) dX9_add_69 ?_
    refine cx_callS (pc := 72) (P := pV) (dC := 0) (mcC := 0) (msC := 0) [.ref 8, iv x13, .ref 14] (fun r1 H1 => s_X9_replace l sc E R hE hR n 8 x13 14 r8 hx13 r14 m60 r1 H1) ca_X9_108 rfl rfl (Nat.le_of_ble_eq_true rfl) (Nat.le_of_ble_eq_true rfl) (Nat.le_of_ble_eq_true rfl) (Nat.le_of_ble_eq_true rfl) dX9_add_72 H (fun x72 m72 v72 hh72 H hp => ?_)
    refine cx_backV hp ?_
    refine cx_iconst (pc := 75) dX9_add_75 ?_
    refine aw_istore_n (pc := 76) [(2, iv 0), (1, iv x13), (0, .ref 4)] dX9_add_76 rfl (by decide) ?_
    refine AW.sel [2, 1, 0] rfl (lp_ind (bot := fun _ _ => none) (fun (f9 : Int → Mem → Option Rz) => ∀ (v2_77 : Int) (m77 : Mem), inR v2_77 → f9 v2_77 m77 = some r → AW l D base sc RX9 yX9_add cX9_add 3 (some FieldType.int) 1 0 0 ad (E mi) (pI E r) 0 0 (E m77) 77 [(0, .ref 4), (1, iv x13), (2, iv v2_77)] []) (fun _ _ _ h9 => nomatch h9) (fun w77 ih77 v2_77 m77 hv2_77 H => ?_) n _ _ (inR_lit _ rfl) H)
    refine aw_iload_n (pc := 77) dX9_add_77 rfl ?_
    refine aw_iload_n (pc := 78) dX9_add_78 rfl ?_
    refine cx_icmp_ge (pc := 79) 130 hv2_77 hx13 dX9_add_79 rfl H (fun H => ?_) (fun H => ?_)
    · -- 79: 82
      refine aw_aload_n (pc := 82) dX9_add_82 rfl ?_
      refine cx_gtC (pc := 83) 13 hE r4 fl_X9_35 rfl rfl (Nat.le_of_ble_eq_true rfl) dX9_add_83 ?_
      refine cx_iconst (pc := 86) dX9_add_86 ?_
      refine aw_iload_n (pc := 87) dX9_add_87 rfl ?_
      refine cx_callS (pc := 88) (P := pI) (dC := 0) (mcC := 0) (msC := 0) [.ref 13, iv 0, iv v2_77] (fun r1 H1 => s_X9_has l sc E R hE hR n 13 0 v2_77 r13 (inR_lit _ rfl) hv2_77 m77 r1 H1) ca_X9_93 rfl rfl (Nat.le_of_ble_eq_true rfl) (Nat.le_of_ble_eq_true rfl) (Nat.le_of_ble_eq_true rfl) (Nat.le_of_ble_eq_true rfl) dX9_add_88 H (fun x88 m88 v88 hh88 H hp => ?_)
      refine cx_backI hp (fun hx88 => ?_)
      refine jn_ind (fun (f9 : Mem → Option Rz) => ∀ (m103 : Mem), f9 m103 = some r → AW l D base sc RX9 yX9_add cX9_add 3 (some FieldType.int) 1 0 0 ad (E mi) (pI E r) 0 0 (E m103) 103 [(0, .ref 4), (1, iv x13), (2, iv v2_77)] []) (fun m103 H => ?_) (fun j103 hj103 H => ?_) H
      · -- 103
        refine aw_aload_n (pc := 103) dX9_add_103 rfl ?_
        refine cx_gtC (pc := 104) 14 hE r4 fl_X9_38 rfl rfl (Nat.le_of_ble_eq_true rfl) dX9_add_104 ?_
        refine cx_iconst (pc := 107) dX9_add_107 ?_
        refine aw_iload_n (pc := 108) dX9_add_108 rfl ?_
        refine cx_callS (pc := 109) (P := pI) (dC := 0) (mcC := 0) (msC := 0) [.ref 14, iv 0, iv v2_77] (fun r1 H1 => s_X9_has l sc E R hE hR n 14 0 v2_77 r14 (inR_lit _ rfl) hv2_77 m103 r1 H1) ca_X9_93 rfl rfl (Nat.le_of_ble_eq_true rfl) (Nat.le_of_ble_eq_true rfl) (Nat.le_of_ble_eq_true rfl) (Nat.le_of_ble_eq_true rfl) dX9_add_109 H (fun x109 m109 v109 hh109 H hp => ?_)
        refine cx_backI hp (fun hx109 => ?_)
        refine jn_ind (fun (f9 : Mem → Option Rz) => ∀ (m124 : Mem), f9 m124 = some r → AW l D base sc RX9 yX9_add cX9_add 3 (some FieldType.int) 1 0 0 ad (E mi) (pI E r) 0 0 (E m124) 124 [(0, .ref 4), (1, iv x13), (2, iv v2_77)] []) (fun m124 H => ?_) (fun j124 hj124 H => ?_) H
        · -- 124
          refine cx_iinc (pc := 124) [(2, iv (w32 (v2_77 + 1))), (0, .ref 4), (1, iv x13)] dX9_add_124 rfl rfl (by decide) ?_
          refine aw_goto (pc := 127) 77 dX9_add_127 rfl ?_
          exact AW.sel [1, 2, 0] rfl (ih77 _ _ (inR_w32 _) H)
        refine cx_if_eq (pc := 112) 124 hx109 dX9_add_112 rfl H (fun H => ?_) (fun H => ?_)
        · -- 112: 124
          exact AW.sel [0, 1, 2] rfl (hj124 _ H)
        · -- 112: 115
          refine aw_aload_n (pc := 115) dX9_add_115 rfl ?_
          refine cx_gtC (pc := 116) 7 hE r4 fl_X9_16 rfl rfl (Nat.le_of_ble_eq_true rfl) dX9_add_116 ?_
          refine aw_iload_n (pc := 119) dX9_add_119 rfl ?_
          refine aw_iload_n (pc := 120) dX9_add_120 rfl ?_
          refine cx_callS (pc := 121) (P := pV) (dC := 0) (mcC := 0) (msC := 0) [.ref 7, iv v2_77, iv x13] (fun r1 H1 => s_X9_mark l sc E R hE hR n 7 v2_77 x13 r7 hv2_77 hx13 m109 r1 H1) ca_X9_75 rfl rfl (Nat.le_of_ble_eq_true rfl) (Nat.le_of_ble_eq_true rfl) (Nat.le_of_ble_eq_true rfl) (Nat.le_of_ble_eq_true rfl) dX9_add_121 H (fun x121 m121 v121 hh121 H hp => ?_)
          refine cx_backV hp ?_
          exact AW.sel [0, 1, 2] rfl (hj124 _ H)
      refine cx_if_eq (pc := 91) 103 hx88 dX9_add_91 rfl H (fun H => ?_) (fun H => ?_)
      · -- 91: 103
        exact AW.sel [0, 1, 2] rfl (hj103 _ H)
      · -- 91: 94
        refine aw_aload_n (pc := 94) dX9_add_94 rfl ?_
        refine cx_gtC (pc := 95) 8 hE r4 fl_X9_19 rfl rfl (Nat.le_of_ble_eq_true rfl) dX9_add_95 ?_
        refine aw_iload_n (pc := 98) dX9_add_98 rfl ?_
        refine aw_iload_n (pc := 99) dX9_add_99 rfl ?_
        refine cx_callS (pc := 100) (P := pV) (dC := 0) (mcC := 0) (msC := 0) [.ref 8, iv v2_77, iv x13] (fun r1 H1 => s_X9_mark l sc E R hE hR n 8 v2_77 x13 r8 hv2_77 hx13 m88 r1 H1) ca_X9_75 rfl rfl (Nat.le_of_ble_eq_true rfl) (Nat.le_of_ble_eq_true rfl) (Nat.le_of_ble_eq_true rfl) (Nat.le_of_ble_eq_true rfl) dX9_add_100 H (fun x100 m100 v100 hh100 H hp => ?_)
        refine cx_backV hp ?_
        exact AW.sel [0, 1, 2] rfl (hj103 _ H)
    · -- 79: 130
      refine aw_aload_n (pc := 130) dX9_add_130 rfl ?_
      refine cx_gtC (pc := 131) 7 hE r4 fl_X9_16 rfl rfl (Nat.le_of_ble_eq_true rfl) dX9_add_131 ?_
      refine aw_iload_n (pc := 134) dX9_add_134 rfl ?_
      refine aw_iload_n (pc := 135) dX9_add_135 rfl ?_
      refine cx_callS (pc := 136) (P := pV) (dC := 0) (mcC := 0) (msC := 0) [.ref 7, iv x13, iv x13] (fun r1 H1 => s_X9_mark l sc E R hE hR n 7 x13 x13 r7 hx13 hx13 m77 r1 H1) ca_X9_75 rfl rfl (Nat.le_of_ble_eq_true rfl) (Nat.le_of_ble_eq_true rfl) (Nat.le_of_ble_eq_true rfl) (Nat.le_of_ble_eq_true rfl) dX9_add_136 H (fun x136 m136 v136 hh136 H hp => ?_)
      refine cx_backV hp ?_
      refine aw_aload_n (pc := 139) dX9_add_139 rfl ?_
      refine cx_gtC (pc := 140) 8 hE r4 fl_X9_19 rfl rfl (Nat.le_of_ble_eq_true rfl) dX9_add_140 ?_
      refine aw_iload_n (pc := 143) dX9_add_143 rfl ?_
      refine aw_iload_n (pc := 144) dX9_add_144 rfl ?_
      refine cx_callS (pc := 145) (P := pV) (dC := 0) (mcC := 0) (msC := 0) [.ref 8, iv x13, iv x13] (fun r1 H1 => s_X9_mark l sc E R hE hR n 8 x13 x13 r8 hx13 hx13 m136 r1 H1) ca_X9_75 rfl rfl (Nat.le_of_ble_eq_true rfl) (Nat.le_of_ble_eq_true rfl) (Nat.le_of_ble_eq_true rfl) (Nat.le_of_ble_eq_true rfl) dX9_add_145 H (fun x145 m145 v145 hh145 H hp => ?_)
      refine cx_backV hp ?_
      refine aw_aload_n (pc := 148) dX9_add_148 rfl ?_
      refine cx_gtC (pc := 149) 9 hE r4 fl_X9_22 rfl rfl (Nat.le_of_ble_eq_true rfl) dX9_add_149 ?_
      refine aw_iload_n (pc := 152) dX9_add_152 rfl ?_
      refine cx_iconst (pc := 153) dX9_add_153 ?_
      refine cx_stI (pc := 154) hE r9 hx13 dX9_add_154 H (fun m154 H => ?_)
      refine aw_aload_n (pc := 155) dX9_add_155 rfl ?_
      refine cx_gtC (pc := 156) 10 hE r4 fl_X9_26 rfl rfl (Nat.le_of_ble_eq_true rfl) dX9_add_156 ?_
      refine aw_iload_n (pc := 159) dX9_add_159 rfl ?_
      refine cx_iconst (pc := 160) dX9_add_160 ?_
      refine cx_stI (pc := 161) hE r10 hx13 dX9_add_161 H (fun m161 H => ?_)
      refine aw_iload_n (pc := 162) dX9_add_162 rfl ?_
      exact cx_iret (pc := 163) hx13 rfl (Nat.le_of_ble_eq_true rfl) (Nat.le_of_ble_eq_true rfl) dX9_add_163 H
  · -- 7: 10
    refine cx_iconst (pc := 10) dX9_add_10 ?_
    exact cx_iret (pc := 11) (inR_lit _ rfl) rfl (Nat.le_of_ble_eq_true rfl) (Nat.le_of_ble_eq_true rfl) dX9_add_11 H
/-- X9 join ([J[JI)V -/
def f_X9_join (n : Nat) (p0 : Nat) (p1 : Nat) (p2 : Int) (mi : Mem) : Option Rz :=
  nm (w32 (p2 * 4)) fun z3 =>
  lp (F := Int → Mem → Option Rz) (fun _ _ => none) (fun w7 v4_7 m7 =>
    jn (fun (m52 : Mem) =>
      rt 0 m52
    ) fun (j52 : Mem → Option Rz) =>
    if v4_7 < 4 then (
      lenA m7 p0 fun x16 =>
      if v4_7 < x16 then (
        if z3 < 0 then (
          j52 m7
        ) else
        lenA m7 p1 fun x29 =>
        if w32 (z3 + v4_7) < x29 then (
          ldJ m7 p0 v4_7 fun x37 =>
          ldJ m7 p1 (w32 (z3 + v4_7)) fun x43 =>
          stJ m7 p0 v4_7 (jor x37 x43) fun m45 =>
          w7 (w32 (v4_7 + 1)) m45
        ) else
        j52 m7
      ) else
      j52 m7
    ) else
    j52 m7
  ) n 0 mi
set_option maxRecDepth 100000 in
set_option maxHeartbeats 4000000 in
theorem s_X9_join (l : Launch) (sc : g_S) (E : Mem → g_H) (R : Nat → Prop) (hE : LE E R) (hR : RYS R) (n : Nat)  (p0 : Nat) (p1 : Nat) (p2 : Int) (hp0 : R p0) (hp1 : R p1) (hp2 : inR p2) (mi : Mem) (r : Rz) (H : f_X9_join n p0 p1 p2 mi = some r) : AMet l sc yX9_join cX9_join 5 none 0 0 0 [.ref p0, .ref p1, iv p2] (E mi) (pV E r) := by
  unfold f_X9_join at H
  refine AMet.of (own := RX9) (by decide +kernel) rfl (Nat.le_of_ble_eq_true rfl) [(0, .ref p0), (1, .ref p1), (2, iv p2)] rfl (fun D base ad => ?_)
  refine aw_iload_n (pc := 0) dX9_join_0 rfl ?_
  refine cx_iconst (pc := 1) dX9_join_1 ?_
  refine cx_imul (pc := 2) dX9_join_2 ?_
  refine cx_nm (inR_w32 _) H (fun z3 hz3 H => ?_)
  refine aw_istore_n (pc := 3) [(3, iv z3), (0, .ref p0), (1, .ref p1), (2, iv p2)] dX9_join_3 rfl (by decide) ?_
  refine cx_iconst (pc := 4) dX9_join_4 ?_
  refine aw_istore (pc := 5) [(4, iv 0), (3, iv z3), (0, .ref p0), (1, .ref p1), (2, iv p2)] dX9_join_5 rfl (by decide) ?_
  refine AW.sel [2, 3, 1, 0] rfl (lp_ind (bot := fun _ _ => none) (fun (f9 : Int → Mem → Option Rz) => ∀ (v4_7 : Int) (m7 : Mem), inR v4_7 → f9 v4_7 m7 = some r → AW l D base sc RX9 yX9_join cX9_join 5 none 0 0 0 ad (E mi) (pV E r) 0 0 (E m7) 7 [(0, .ref p0), (1, .ref p1), (3, iv z3), (4, iv v4_7)] []) (fun _ _ _ h9 => nomatch h9) (fun w7 ih7 v4_7 m7 hv4_7 H => ?_) n _ _ (inR_lit _ rfl) H)
  refine aw_iload (pc := 7) dX9_join_7 rfl ?_
  refine cx_iconst (pc := 9) dX9_join_9 ?_
  refine jn_ind (fun (f9 : Mem → Option Rz) => ∀ (m52 : Mem), f9 m52 = some r → AW l D base sc RX9 yX9_join cX9_join 5 none 0 0 0 ad (E mi) (pV E r) 0 0 (E m52) 52 [] []) (fun m52 H => ?_) (fun j52 hj52 H => ?_) H
  · -- 52
    exact cx_vret (pc := 52) rfl (Nat.le_of_ble_eq_true rfl) (Nat.le_of_ble_eq_true rfl) dX9_join_52 H
  refine cx_icmp_ge (pc := 10) 52 hv4_7 (inR_lit _ rfl) dX9_join_10 rfl H (fun H => ?_) (fun H => ?_)
  · -- 10: 13
    refine aw_iload (pc := 13) dX9_join_13 rfl ?_
    refine aw_aload_n (pc := 15) dX9_join_15 rfl ?_
    refine cx_lenA (pc := 16) hE hp0 dX9_join_16 H (fun x16 hx16 H => ?_)
    refine cx_icmp_ge (pc := 17) 52 hv4_7 hx16 dX9_join_17 rfl H (fun H => ?_) (fun H => ?_)
    · -- 17: 20
      refine aw_iload_n (pc := 20) dX9_join_20 rfl ?_
      refine cx_if_lt (pc := 21) 52 hz3 dX9_join_21 rfl H (fun H => ?_) (fun H => ?_)
      · -- 21: 52
        exact AW.sel [] rfl (hj52 _ H)
      · -- 21: 24
        refine aw_iload_n (pc := 24) dX9_join_24 rfl ?_
        refine aw_iload (pc := 25) dX9_join_25 rfl ?_
        refine cx_iadd (pc := 27) dX9_join_27 ?_
        refine aw_aload_n (pc := 28) dX9_join_28 rfl ?_
        refine cx_lenA (pc := 29) hE hp1 dX9_join_29 H (fun x29 hx29 H => ?_)
        refine cx_icmp_ge (pc := 30) 52 (inR_w32 _) hx29 dX9_join_30 rfl H (fun H => ?_) (fun H => ?_)
        · -- 30: 33
          refine aw_aload_n (pc := 33) dX9_join_33 rfl ?_
          refine aw_iload (pc := 34) dX9_join_34 rfl ?_
          refine aw_dup2 (pc := 36) dX9_join_36 rfl rfl ?_
          refine cx_ldJ (pc := 37) hE hp0 hv4_7 dX9_join_37 H (fun x37 H => ?_)
          refine aw_aload_n (pc := 38) dX9_join_38 rfl ?_
          refine aw_iload_n (pc := 39) dX9_join_39 rfl ?_
          refine aw_iload (pc := 40) dX9_join_40 rfl ?_
          refine cx_iadd (pc := 42) dX9_join_42 ?_
          refine cx_ldJ (pc := 43) hE hp1 (inR_w32 _) dX9_join_43 H (fun x43 H => ?_)
          refine cx_lor (pc := 44) dX9_join_44 ?_
          refine cx_stJ (pc := 45) hE hp0 hv4_7 dX9_join_45 H (fun m45 H => ?_)
          refine cx_iinc (pc := 46) [(4, iv (w32 (v4_7 + 1))), (0, .ref p0), (1, .ref p1), (3, iv z3)] dX9_join_46 rfl rfl (by decide) ?_
          refine aw_goto (pc := 49) 7 dX9_join_49 rfl ?_
          exact AW.sel [1, 2, 3, 0] rfl (ih7 _ _ (inR_w32 _) H)
        · -- 30: 52
          exact AW.sel [] rfl (hj52 _ H)
    · -- 17: 52
      exact AW.sel [] rfl (hj52 _ H)
  · -- 10: 52
    exact AW.sel [] rfl (hj52 _ H)
/-- X9 unmark ([JII)V -/
def f_X9_unmark (n : Nat) (p0 : Nat) (p1 : Int) (p2 : Int) (mi : Mem) : Option Rz :=
  nm (w32 ((w32 (p1 * 4)) + (ishr p2 6))) fun z8 =>
  jn (fun (m35 : Mem) =>
    rt 0 m35
  ) fun (j35 : Mem → Option Rz) =>
  if z8 < 0 then (
    j35 mi
  ) else
  lenA mi p0 fun x15 =>
  if z8 < x15 then (
    ldJ mi p0 z8 fun x22 =>
    stJ mi p0 z8 (jand x22 (jxor (jshl 1 (iand p2 63)) 18446744073709551615)) fun m34 =>
    j35 m34
  ) else
  j35 mi
set_option maxRecDepth 100000 in
set_option maxHeartbeats 4000000 in
theorem s_X9_unmark (l : Launch) (sc : g_S) (E : Mem → g_H) (R : Nat → Prop) (hE : LE E R) (hR : RYS R) (n : Nat)  (p0 : Nat) (p1 : Int) (p2 : Int) (hp0 : R p0) (hp1 : inR p1) (hp2 : inR p2) (mi : Mem) (r : Rz) (H : f_X9_unmark n p0 p1 p2 mi = some r) : AMet l sc yX9_unmark cX9_unmark 4 none 0 0 0 [.ref p0, iv p1, iv p2] (E mi) (pV E r) := by
  unfold f_X9_unmark at H
  refine AMet.of (own := RX9) (by decide +kernel) rfl (Nat.le_of_ble_eq_true rfl) [(0, .ref p0), (1, iv p1), (2, iv p2)] rfl (fun D base ad => ?_)
  refine aw_iload_n (pc := 0) dX9_unmark_0 rfl ?_
  refine cx_iconst (pc := 1) dX9_unmark_1 ?_
  refine cx_imul (pc := 2) dX9_unmark_2 ?_
  refine aw_iload_n (pc := 3) dX9_unmark_3 rfl ?_
  refine cx_bipush (pc := 4) dX9_unmark_4 (by decide) ?_
  refine cx_ishr (pc := 6) dX9_unmark_6 ?_
  refine cx_iadd (pc := 7) dX9_unmark_7 ?_
  refine cx_nm (inR_w32 _) H (fun z8 hz8 H => ?_)
  refine aw_istore_n (pc := 8) [(3, iv z8), (0, .ref p0), (1, iv p1), (2, iv p2)] dX9_unmark_8 rfl (by decide) ?_
  refine aw_iload_n (pc := 9) dX9_unmark_9 rfl ?_
  refine jn_ind (fun (f9 : Mem → Option Rz) => ∀ (m35 : Mem), f9 m35 = some r → AW l D base sc RX9 yX9_unmark cX9_unmark 4 none 0 0 0 ad (E mi) (pV E r) 0 0 (E m35) 35 [] []) (fun m35 H => ?_) (fun j35 hj35 H => ?_) H
  · -- 35
    exact cx_vret (pc := 35) rfl (Nat.le_of_ble_eq_true rfl) (Nat.le_of_ble_eq_true rfl) dX9_unmark_35 H
  refine cx_if_lt (pc := 10) 35 hz8 dX9_unmark_10 rfl H (fun H => ?_) (fun H => ?_)
  · -- 10: 35
    exact AW.sel [] rfl (hj35 _ H)
  · -- 10: 13
    refine aw_iload_n (pc := 13) dX9_unmark_13 rfl ?_
    refine aw_aload_n (pc := 14) dX9_unmark_14 rfl ?_
    refine cx_lenA (pc := 15) hE hp0 dX9_unmark_15 H (fun x15 hx15 H => ?_)
    refine cx_icmp_ge (pc := 16) 35 hz8 hx15 dX9_unmark_16 rfl H (fun H => ?_) (fun H => ?_)
    · -- 16: 19
      refine aw_aload_n (pc := 19) dX9_unmark_19 rfl ?_
      refine aw_iload_n (pc := 20) dX9_unmark_20 rfl ?_
      refine aw_dup2 (pc := 21) dX9_unmark_21 rfl rfl ?_
      refine cx_ldJ (pc := 22) hE hp0 hz8 dX9_unmark_22 H (fun x22 H => ?_)
      refine cx_lconst (pc := 23) dX9_unmark_23 ?_
      refine aw_iload_n (pc := 24) dX9_unmark_24 rfl ?_
      refine cx_bipush (pc := 25) dX9_unmark_25 (by decide) ?_
      refine cx_iand (pc := 27) dX9_unmark_27 ?_
      refine cx_lshl (pc := 28) dX9_unmark_28 ?_
      refine cx_ldc2 (pc := 29) 18446744073709551615 dX9_unmark_29 ct_X9_125 (by decide) ?_
      refine cx_lxor (pc := 32) dX9_unmark_32 ?_
      refine cx_land (pc := 33) dX9_unmark_33 ?_
      refine cx_stJ (pc := 34) hE hp0 hz8 dX9_unmark_34 H (fun m34 H => ?_)
      exact AW.sel [] rfl (hj35 _ H)
    · -- 16: 35
      exact AW.sel [] rfl (hj35 _ H)
/-- X9 bypass ([JI[J[J[J)V -/
def f_X9_bypass (n : Nat) (p1 : Nat) (p2 : Int) (p3 : Nat) (p4 : Nat) (p5 : Nat) (mi : Mem) : Option Rz :=
  cal (f_X9_has n p1 0 p2 mi) fun x3 m3 =>
  if x3 = 0 then (
    rt 0 m3
  ) else
  lp (F := Int → Mem → Option Rz) (fun _ _ => none) (fun w13 v6_13 m13 =>
    if v6_13 < p2 then (
      cal (f_X9_has n p3 p2 v6_13 m13) fun x23 m23 =>
      jn (fun (m55 : Mem) =>
        w13 (w32 (v6_13 + 1)) m55
      ) fun (j55 : Mem → Option Rz) =>
      if x23 = 0 then (
        j55 m23
      ) else
      cal (f_X9_has n p4 0 v6_13 m23) fun x34 m34 =>
      if x34 = 0 then (
        j55 m34
      ) else
      cal (f_X9_unmark n p1 0 p2 m34) fun _ m43 =>
      cal (f_X9_join n p1 p5 v6_13 m43) fun _ m51 =>
      rt 0 m51
    ) else
    rt 0 m13
  ) n 0 m3
set_option maxRecDepth 100000 in
set_option maxHeartbeats 4000000 in
theorem s_X9_bypass (l : Launch) (sc : g_S) (E : Mem → g_H) (R : Nat → Prop) (hE : LE E R) (hR : RYS R) (n : Nat)  (p1 : Nat) (p2 : Int) (p3 : Nat) (p4 : Nat) (p5 : Nat) (hp1 : R p1) (hp2 : inR p2) (hp3 : R p3) (hp4 : R p4) (hp5 : R p5) (mi : Mem) (r : Rz) (H : f_X9_bypass n p1 p2 p3 p4 p5 mi = some r) : AMet l sc yX9_bypass cX9_bypass 7 none 1 0 0 [.ref 4, .ref p1, iv p2, .ref p3, .ref p4, .ref p5] (E mi) (pV E r) := by
  unfold f_X9_bypass at H
  refine AMet.of (own := RX9) (by decide +kernel) rfl (Nat.le_of_ble_eq_true rfl) [(0, .ref 4), (1, .ref p1), (2, iv p2), (3, .ref p3), (4, .ref p4), (5, .ref p5)] rfl (fun D base ad => ?_)
  refine aw_aload_n (pc := 0) dX9_bypass_0 rfl ?_
  refine cx_iconst (pc := 1) dX9_bypass_1 ?_
  refine aw_iload_n (pc := 2) dX9_bypass_2 rfl ?_
  refine cx_callS (pc := 3) (P := pI) (dC := 0) (mcC := 0) (msC := 0) [.ref p1, iv 0, iv p2] (fun r1 H1 => s_X9_has l sc E R hE hR n p1 0 p2 hp1 (inR_lit _ rfl) hp2 mi r1 H1) ca_X9_93 rfl rfl (Nat.le_of_ble_eq_true rfl) (Nat.le_of_ble_eq_true rfl) (Nat.le_of_ble_eq_true rfl) (Nat.le_of_ble_eq_true rfl) dX9_bypass_3 H (fun x3 m3 v3 hh3 H hp => ?_)
  refine cx_backI hp (fun hx3 => ?_)
  refine cx_if_ne (pc := 6) 10 hx3 dX9_bypass_6 rfl H (fun H => ?_) (fun H => ?_)
  · -- 6: 9
    exact cx_vret (pc := 9) rfl (Nat.le_of_ble_eq_true rfl) (Nat.le_of_ble_eq_true rfl) dX9_bypass_9 H
  · -- 6: 10
    refine cx_iconst (pc := 10) dX9_bypass_10 ?_
    refine aw_istore (pc := 11) [(6, iv 0), (0, .ref 4), (1, .ref p1), (2, iv p2), (3, .ref p3), (4, .ref p4), (5, .ref p5)] dX9_bypass_11 rfl (by decide) ?_
    refine AW.sel [2, 3, 4, 5, 6, 0] rfl (lp_ind (bot := fun _ _ => none) (fun (f9 : Int → Mem → Option Rz) => ∀ (v6_13 : Int) (m13 : Mem), inR v6_13 → f9 v6_13 m13 = some r → AW l D base sc RX9 yX9_bypass cX9_bypass 7 none 1 0 0 ad (E mi) (pV E r) 0 0 (E m13) 13 [(1, .ref p1), (2, iv p2), (3, .ref p3), (4, .ref p4), (5, .ref p5), (6, iv v6_13)] []) (fun _ _ _ h9 => nomatch h9) (fun w13 ih13 v6_13 m13 hv6_13 H => ?_) n _ _ (inR_lit _ rfl) H)
    refine aw_iload (pc := 13) dX9_bypass_13 rfl ?_
    refine aw_iload_n (pc := 15) dX9_bypass_15 rfl ?_
    refine cx_icmp_ge (pc := 16) 61 hv6_13 hp2 dX9_bypass_16 rfl H (fun H => ?_) (fun H => ?_)
    · -- 16: 19
      refine aw_aload_n (pc := 19) dX9_bypass_19 rfl ?_
      refine aw_iload_n (pc := 20) dX9_bypass_20 rfl ?_
      refine aw_iload (pc := 21) dX9_bypass_21 rfl ?_
      refine cx_callS (pc := 23) (P := pI) (dC := 0) (mcC := 0) (msC := 0) [.ref p3, iv p2, iv v6_13] (fun r1 H1 => s_X9_has l sc E R hE hR n p3 p2 v6_13 hp3 hp2 hv6_13 m13 r1 H1) ca_X9_93 rfl rfl (Nat.le_of_ble_eq_true rfl) (Nat.le_of_ble_eq_true rfl) (Nat.le_of_ble_eq_true rfl) (Nat.le_of_ble_eq_true rfl) dX9_bypass_23 H (fun x23 m23 v23 hh23 H hp => ?_)
      refine cx_backI hp (fun hx23 => ?_)
      refine jn_ind (fun (f9 : Mem → Option Rz) => ∀ (m55 : Mem), f9 m55 = some r → AW l D base sc RX9 yX9_bypass cX9_bypass 7 none 1 0 0 ad (E mi) (pV E r) 0 0 (E m55) 55 [(1, .ref p1), (2, iv p2), (3, .ref p3), (4, .ref p4), (5, .ref p5), (6, iv v6_13)] []) (fun m55 H => ?_) (fun j55 hj55 H => ?_) H
      · -- 55
        refine cx_iinc (pc := 55) [(6, iv (w32 (v6_13 + 1))), (1, .ref p1), (2, iv p2), (3, .ref p3), (4, .ref p4), (5, .ref p5)] dX9_bypass_55 rfl rfl (by decide) ?_
        refine aw_goto (pc := 58) 13 dX9_bypass_58 rfl ?_
        exact AW.sel [1, 2, 3, 4, 5, 0] rfl (ih13 _ _ (inR_w32 _) H)
      refine cx_if_eq (pc := 26) 55 hx23 dX9_bypass_26 rfl H (fun H => ?_) (fun H => ?_)
      · -- 26: 55
        exact AW.sel [0, 1, 2, 3, 4, 5] rfl (hj55 _ H)
      · -- 26: 29
        refine aw_aload (pc := 29) dX9_bypass_29 rfl ?_
        refine cx_iconst (pc := 31) dX9_bypass_31 ?_
        refine aw_iload (pc := 32) dX9_bypass_32 rfl ?_
        refine cx_callS (pc := 34) (P := pI) (dC := 0) (mcC := 0) (msC := 0) [.ref p4, iv 0, iv v6_13] (fun r1 H1 => s_X9_has l sc E R hE hR n p4 0 v6_13 hp4 (inR_lit _ rfl) hv6_13 m23 r1 H1) ca_X9_93 rfl rfl (Nat.le_of_ble_eq_true rfl) (Nat.le_of_ble_eq_true rfl) (Nat.le_of_ble_eq_true rfl) (Nat.le_of_ble_eq_true rfl) dX9_bypass_34 H (fun x34 m34 v34 hh34 H hp => ?_)
        refine cx_backI hp (fun hx34 => ?_)
        refine cx_if_eq (pc := 37) 55 hx34 dX9_bypass_37 rfl H (fun H => ?_) (fun H => ?_)
        · -- 37: 55
          exact AW.sel [0, 1, 2, 3, 4, 5] rfl (hj55 _ H)
        · -- 37: 40
          refine aw_aload_n (pc := 40) dX9_bypass_40 rfl ?_
          refine cx_iconst (pc := 41) dX9_bypass_41 ?_
          refine aw_iload_n (pc := 42) dX9_bypass_42 rfl ?_
          refine cx_callS (pc := 43) (P := pV) (dC := 0) (mcC := 0) (msC := 0) [.ref p1, iv 0, iv p2] (fun r1 H1 => s_X9_unmark l sc E R hE hR n p1 0 p2 hp1 (inR_lit _ rfl) hp2 m34 r1 H1) ca_X9_105 rfl rfl (Nat.le_of_ble_eq_true rfl) (Nat.le_of_ble_eq_true rfl) (Nat.le_of_ble_eq_true rfl) (Nat.le_of_ble_eq_true rfl) dX9_bypass_43 H (fun x43 m43 v43 hh43 H hp => ?_)
          refine cx_backV hp ?_
          refine aw_aload_n (pc := 46) dX9_bypass_46 rfl ?_
          refine aw_aload (pc := 47) dX9_bypass_47 rfl ?_
          refine aw_iload (pc := 49) dX9_bypass_49 rfl ?_
          refine cx_callS (pc := 51) (P := pV) (dC := 0) (mcC := 0) (msC := 0) [.ref p1, .ref p5, iv v6_13] (fun r1 H1 => s_X9_join l sc E R hE hR n p1 p5 v6_13 hp1 hp5 hv6_13 m43 r1 H1) ca_X9_97 rfl rfl (Nat.le_of_ble_eq_true rfl) (Nat.le_of_ble_eq_true rfl) (Nat.le_of_ble_eq_true rfl) (Nat.le_of_ble_eq_true rfl) dX9_bypass_51 H (fun x51 m51 v51 hh51 H hp => ?_)
          refine cx_backV hp ?_
          exact cx_vret (pc := 54) rfl (Nat.le_of_ble_eq_true rfl) (Nat.le_of_ble_eq_true rfl) dX9_bypass_54 H
    · -- 16: 61
      exact cx_vret (pc := 61) rfl (Nat.le_of_ble_eq_true rfl) (Nat.le_of_ble_eq_true rfl) dX9_bypass_61 H
/-- X9 meets ([JI[J)Z -/
def f_X9_meets (n : Nat) (p0 : Nat) (p1 : Int) (p2 : Nat) (mi : Mem) : Option Rz :=
  nm (w32 (p1 * 4)) fun z3 =>
  lp (F := Int → Mem → Option Rz) (fun _ _ => none) (fun w7 v4_7 m7 =>
    jn (fun (m57 : Mem) =>
      rtZ 0 m57
    ) fun (j57 : Mem → Option Rz) =>
    if v4_7 < 4 then (
      lenA m7 p2 fun x16 =>
      if v4_7 < x16 then (
        if z3 < 0 then (
          j57 m7
        ) else
        lenA m7 p0 fun x29 =>
        if w32 (z3 + v4_7) < x29 then (
          ldJ m7 p0 (w32 (z3 + v4_7)) fun x38 =>
          ldJ m7 p2 v4_7 fun x42 =>
          if jcmp (jand x38 x42) 0 = 0 then (
            w7 (w32 (v4_7 + 1)) m7
          ) else
          rtZ 1 m7
        ) else
        j57 m7
      ) else
      j57 m7
    ) else
    j57 m7
  ) n 0 mi
set_option maxRecDepth 100000 in
set_option maxHeartbeats 4000000 in
theorem s_X9_meets (l : Launch) (sc : g_S) (E : Mem → g_H) (R : Nat → Prop) (hE : LE E R) (hR : RYS R) (n : Nat)  (p0 : Nat) (p1 : Int) (p2 : Nat) (hp0 : R p0) (hp1 : inR p1) (hp2 : R p2) (mi : Mem) (r : Rz) (H : f_X9_meets n p0 p1 p2 mi = some r) : AMet l sc yX9_meets cX9_meets 5 (some FieldType.boolean) 0 0 0 [.ref p0, iv p1, .ref p2] (E mi) (pI E r) := by
  unfold f_X9_meets at H
  refine AMet.of (own := RX9) (by decide +kernel) rfl (Nat.le_of_ble_eq_true rfl) [(0, .ref p0), (1, iv p1), (2, .ref p2)] rfl (fun D base ad => ?_)
  refine aw_iload_n (pc := 0) dX9_meets_0 rfl ?_
  refine cx_iconst (pc := 1) dX9_meets_1 ?_
  refine cx_imul (pc := 2) dX9_meets_2 ?_
  refine cx_nm (inR_w32 _) H (fun z3 hz3 H => ?_)
  refine aw_istore_n (pc := 3) [(3, iv z3), (0, .ref p0), (1, iv p1), (2, .ref p2)] dX9_meets_3 rfl (by decide) ?_
  refine cx_iconst (pc := 4) dX9_meets_4 ?_
  refine aw_istore (pc := 5) [(4, iv 0), (3, iv z3), (0, .ref p0), (1, iv p1), (2, .ref p2)] dX9_meets_5 rfl (by decide) ?_
  refine AW.sel [2, 4, 1, 0] rfl (lp_ind (bot := fun _ _ => none) (fun (f9 : Int → Mem → Option Rz) => ∀ (v4_7 : Int) (m7 : Mem), inR v4_7 → f9 v4_7 m7 = some r → AW l D base sc RX9 yX9_meets cX9_meets 5 (some FieldType.boolean) 0 0 0 ad (E mi) (pI E r) 0 0 (E m7) 7 [(0, .ref p0), (2, .ref p2), (3, iv z3), (4, iv v4_7)] []) (fun _ _ _ h9 => nomatch h9) (fun w7 ih7 v4_7 m7 hv4_7 H => ?_) n _ _ (inR_lit _ rfl) H)
  refine aw_iload (pc := 7) dX9_meets_7 rfl ?_
  refine cx_iconst (pc := 9) dX9_meets_9 ?_
  refine jn_ind (fun (f9 : Mem → Option Rz) => ∀ (m57 : Mem), f9 m57 = some r → AW l D base sc RX9 yX9_meets cX9_meets 5 (some FieldType.boolean) 0 0 0 ad (E mi) (pI E r) 0 0 (E m57) 57 [] []) (fun m57 H => ?_) (fun j57 hj57 H => ?_) H
  · -- 57
    refine cx_iconst (pc := 57) dX9_meets_57 ?_
    exact cx_zret (pc := 58) rfl (Nat.le_of_ble_eq_true rfl) (Nat.le_of_ble_eq_true rfl) dX9_meets_58 H
  refine cx_icmp_ge (pc := 10) 57 hv4_7 (inR_lit _ rfl) dX9_meets_10 rfl H (fun H => ?_) (fun H => ?_)
  · -- 10: 13
    refine aw_iload (pc := 13) dX9_meets_13 rfl ?_
    refine aw_aload_n (pc := 15) dX9_meets_15 rfl ?_
    refine cx_lenA (pc := 16) hE hp2 dX9_meets_16 H (fun x16 hx16 H => ?_)
    refine cx_icmp_ge (pc := 17) 57 hv4_7 hx16 dX9_meets_17 rfl H (fun H => ?_) (fun H => ?_)
    · -- 17: 20
      refine aw_iload_n (pc := 20) dX9_meets_20 rfl ?_
      refine cx_if_lt (pc := 21) 57 hz3 dX9_meets_21 rfl H (fun H => ?_) (fun H => ?_)
      · -- 21: 57
        exact AW.sel [] rfl (hj57 _ H)
      · -- 21: 24
        refine aw_iload_n (pc := 24) dX9_meets_24 rfl ?_
        refine aw_iload (pc := 25) dX9_meets_25 rfl ?_
        refine cx_iadd (pc := 27) dX9_meets_27 ?_
        refine aw_aload_n (pc := 28) dX9_meets_28 rfl ?_
        refine cx_lenA (pc := 29) hE hp0 dX9_meets_29 H (fun x29 hx29 H => ?_)
        refine cx_icmp_ge (pc := 30) 57 (inR_w32 _) hx29 dX9_meets_30 rfl H (fun H => ?_) (fun H => ?_)
        · -- 30: 33
          refine aw_aload_n (pc := 33) dX9_meets_33 rfl ?_
          refine aw_iload_n (pc := 34) dX9_meets_34 rfl ?_
          refine aw_iload (pc := 35) dX9_meets_35 rfl ?_
          refine cx_iadd (pc := 37) dX9_meets_37 ?_
          refine cx_ldJ (pc := 38) hE hp0 (inR_w32 _) dX9_meets_38 H (fun x38 H => ?_)
          refine aw_aload_n (pc := 39) dX9_meets_39 rfl ?_
          refine aw_iload (pc := 40) dX9_meets_40 rfl ?_
          refine cx_ldJ (pc := 42) hE hp2 hv4_7 dX9_meets_42 H (fun x42 H => ?_)
          refine cx_land (pc := 43) dX9_meets_43 ?_
          refine cx_lconst (pc := 44) dX9_meets_44 ?_
          refine cx_lcmp (pc := 45) dX9_meets_45 ?_
          refine cx_if_eq (pc := 46) 51 (inR_32 _) dX9_meets_46 rfl H (fun H => ?_) (fun H => ?_)
          · -- 46: 51
            refine cx_iinc (pc := 51) [(4, iv (w32 (v4_7 + 1))), (0, .ref p0), (2, .ref p2), (3, iv z3)] dX9_meets_51 rfl rfl (by decide) ?_
            refine aw_goto (pc := 54) 7 dX9_meets_54 rfl ?_
            exact AW.sel [1, 2, 3, 0] rfl (ih7 _ _ (inR_w32 _) H)
          · -- 46: 49
            refine cx_iconst (pc := 49) dX9_meets_49 ?_
            exact cx_zret (pc := 50) rfl (Nat.le_of_ble_eq_true rfl) (Nat.le_of_ble_eq_true rfl) dX9_meets_50 H
        · -- 30: 57
          exact AW.sel [] rfl (hj57 _ H)
    · -- 17: 57
      exact AW.sel [] rfl (hj57 _ H)
  · -- 10: 57
    exact AW.sel [] rfl (hj57 _ H)
/-- X9 compareAll ()I -/
def f_X9_compareAll (n : Nat)  (mi : Mem) : Option Rz :=
  cal (f_J7_fill_d0a16 n 13 0 mi) fun _ m5 =>
  cal (f_J7_fill_d0a16 n 14 0 m5) fun _ m13 =>
  cal (f_J7_fill_d0a16 n 15 0 m13) fun _ m21 =>
  cal (f_J7_fill_d0a16 n 16 0 m21) fun _ m29 =>
  lp (F := Int → Mem → Option Rz) (fun _ _ => none) (fun w34 v1_34 m34 =>
    gtF m34 4 13 fun x36 =>
    if v1_34 < x36 then (
      cal (f_X9_has n 11 0 v1_34 m34) fun x48 m48 =>
      jn (fun (m66 : Mem) =>
        cal (f_X9_has n 12 0 v1_34 m66) fun x72 m72 =>
        jn (fun (m90 : Mem) =>
          w34 (w32 (v1_34 + 1)) m90
        ) fun (j90 : Mem → Option Rz) =>
        if x72 = 0 then (
          j90 m72
        ) else
        cal (f_X9_join n 16 7 v1_34 m72) fun _ m87 =>
        j90 m87
      ) fun (j66 : Mem → Option Rz) =>
      if x48 = 0 then (
        j66 m48
      ) else
      cal (f_X9_join n 15 8 v1_34 m48) fun _ m63 =>
      j66 m63
    ) else
    lp (F := Int → Mem → Option Rz) (fun _ _ => none) (fun w98 v1_98 m98 =>
      gtF m98 4 13 fun x100 =>
      if v1_98 < x100 then (
        cal (f_X9_has n 15 0 v1_98 m98) fun x112 m112 =>
        jn (fun (s0_138 : Int) (m138 : Mem) =>
          cal (f_X9_has n 16 0 v1_98 m138) fun x145 m145 =>
          jn (fun (s0_171 : Int) (m171 : Mem) =>
            jn (fun (m182 : Mem) =>
              jn (fun (m195 : Mem) =>
                jn (fun (m208 : Mem) =>
                  w98 (w32 (v1_98 + 1)) m208
                ) fun (j208 : Mem → Option Rz) =>
                if s0_171 = 0 then (
                  j208 m195
                ) else
                cal (f_X9_mark n 14 0 v1_98 m195) fun _ m205 =>
                j208 m205
              ) fun (j195 : Mem → Option Rz) =>
              if s0_138 = 0 then (
                j195 m182
              ) else
              cal (f_X9_mark n 13 0 v1_98 m182) fun _ m192 =>
              j195 m192
            ) fun (j182 : Mem → Option Rz) =>
            if s0_138 = 0 then (
              j182 m171
            ) else
            if s0_171 = 0 then (
              j182 m171
            ) else
            rt v1_98 m171
          ) fun (j171 : Int → Mem → Option Rz) =>
          jn (fun (m170 : Mem) =>
            j171 0 m170
          ) fun (j170 : Mem → Option Rz) =>
          if x145 = 0 then (
            cal (f_X9_meets n 5 v1_98 13 m145) fun x160 m160 =>
            if x160 = 0 then (
              j171 1 m160
            ) else
            j170 m160
          ) else
          j170 m145
        ) fun (j138 : Int → Mem → Option Rz) =>
        jn (fun (m137 : Mem) =>
          j138 0 m137
        ) fun (j137 : Mem → Option Rz) =>
        if x112 = 0 then (
          cal (f_X9_meets n 6 v1_98 14 m112) fun x127 m127 =>
          if x127 = 0 then (
            j138 1 m127
          ) else
          j137 m127
        ) else
        j137 m112
      ) else
      rt (-1) m98
    ) n 0 m34
  ) n 0 m29
set_option maxRecDepth 100000 in
set_option maxHeartbeats 4000000 in
theorem s_X9_compareAll (l : Launch) (sc : g_S) (E : Mem → g_H) (R : Nat → Prop) (hE : LE E R) (hR : RYS R) (n : Nat)    (mi : Mem) (r : Rz) (H : f_X9_compareAll n  mi = some r) : AMet l sc yX9_compareAll cX9_compareAll 4 (some FieldType.int) 1 0 0 [.ref 4] (E mi) (pI E r) := by
  have r4 : R 4 := hR.1 4 (Nat.le_of_ble_eq_true rfl) (Nat.le_of_ble_eq_true rfl)
  have r5 : R 5 := hR.1 5 (Nat.le_of_ble_eq_true rfl) (Nat.le_of_ble_eq_true rfl)
  have r6 : R 6 := hR.1 6 (Nat.le_of_ble_eq_true rfl) (Nat.le_of_ble_eq_true rfl)
  have r7 : R 7 := hR.1 7 (Nat.le_of_ble_eq_true rfl) (Nat.le_of_ble_eq_true rfl)
  have r8 : R 8 := hR.1 8 (Nat.le_of_ble_eq_true rfl) (Nat.le_of_ble_eq_true rfl)
  have r11 : R 11 := hR.1 11 (Nat.le_of_ble_eq_true rfl) (Nat.le_of_ble_eq_true rfl)
  have r12 : R 12 := hR.1 12 (Nat.le_of_ble_eq_true rfl) (Nat.le_of_ble_eq_true rfl)
  have r13 : R 13 := hR.1 13 (Nat.le_of_ble_eq_true rfl) (Nat.le_of_ble_eq_true rfl)
  have r14 : R 14 := hR.1 14 (Nat.le_of_ble_eq_true rfl) (Nat.le_of_ble_eq_true rfl)
  have r15 : R 15 := hR.1 15 (Nat.le_of_ble_eq_true rfl) (Nat.le_of_ble_eq_true rfl)
  have r16 : R 16 := hR.1 16 (Nat.le_of_ble_eq_true rfl) (Nat.le_of_ble_eq_true rfl)
  unfold f_X9_compareAll at H
  refine AMet.of (own := RX9) (by decide +kernel) rfl (Nat.le_of_ble_eq_true rfl) [(0, .ref 4)] rfl (fun D base ad => ?_)
  refine aw_aload_n (pc := 0) dX9_compareAll_0 rfl ?_
  refine cx_gtC (pc := 1) 13 hE r4 fl_X9_35 rfl rfl (Nat.le_of_ble_eq_true rfl) dX9_compareAll_1 ?_
  refine cx_lconst (pc := 4) dX9_compareAll_4 ?_
  refine cx_callS (pc := 5) (P := pV) (dC := 0) (mcC := 0) (msC := 0) [.ref 13, jv 0] (fun r1 H1 => s_J7_fill_d0a16 l sc E R hE n 13 0 r13 mi r1 H1) ca_X9_65 rfl rfl (Nat.le_of_ble_eq_true rfl) (Nat.le_of_ble_eq_true rfl) (Nat.le_of_ble_eq_true rfl) (Nat.le_of_ble_eq_true rfl) dX9_compareAll_5 H (fun x5 m5 v5 hh5 H hp => ?_)
  refine cx_backV hp ?_
  refine aw_aload_n (pc := 8) dX9_compareAll_8 rfl ?_
  refine cx_gtC (pc := 9) 14 hE r4 fl_X9_38 rfl rfl (Nat.le_of_ble_eq_true rfl) dX9_compareAll_9 ?_
  refine cx_lconst (pc := 12) dX9_compareAll_12 ?_
  refine cx_callS (pc := 13) (P := pV) (dC := 0) (mcC := 0) (msC := 0) [.ref 14, jv 0] (fun r1 H1 => s_J7_fill_d0a16 l sc E R hE n 14 0 r14 m5 r1 H1) ca_X9_65 rfl rfl (Nat.le_of_ble_eq_true rfl) (Nat.le_of_ble_eq_true rfl) (Nat.le_of_ble_eq_true rfl) (Nat.le_of_ble_eq_true rfl) dX9_compareAll_13 H (fun x13 m13 v13 hh13 H hp => ?_)
  refine cx_backV hp ?_
  refine aw_aload_n (pc := 16) dX9_compareAll_16 rfl ?_
  refine cx_gtC (pc := 17) 15 hE r4 fl_X9_41 rfl rfl (Nat.le_of_ble_eq_true rfl) dX9_compareAll_17 ?_
  refine cx_lconst (pc := 20) dX9_compareAll_20 ?_
  refine cx_callS (pc := 21) (P := pV) (dC := 0) (mcC := 0) (msC := 0) [.ref 15, jv 0] (fun r1 H1 => s_J7_fill_d0a16 l sc E R hE n 15 0 r15 m13 r1 H1) ca_X9_65 rfl rfl (Nat.le_of_ble_eq_true rfl) (Nat.le_of_ble_eq_true rfl) (Nat.le_of_ble_eq_true rfl) (Nat.le_of_ble_eq_true rfl) dX9_compareAll_21 H (fun x21 m21 v21 hh21 H hp => ?_)
  refine cx_backV hp ?_
  refine aw_aload_n (pc := 24) dX9_compareAll_24 rfl ?_
  refine cx_gtC (pc := 25) 16 hE r4 fl_X9_44 rfl rfl (Nat.le_of_ble_eq_true rfl) dX9_compareAll_25 ?_
  refine cx_lconst (pc := 28) dX9_compareAll_28 ?_
  refine cx_callS (pc := 29) (P := pV) (dC := 0) (mcC := 0) (msC := 0) [.ref 16, jv 0] (fun r1 H1 => s_J7_fill_d0a16 l sc E R hE n 16 0 r16 m21 r1 H1) ca_X9_65 rfl rfl (Nat.le_of_ble_eq_true rfl) (Nat.le_of_ble_eq_true rfl) (Nat.le_of_ble_eq_true rfl) (Nat.le_of_ble_eq_true rfl) dX9_compareAll_29 H (fun x29 m29 v29 hh29 H hp => ?_)
  refine cx_backV hp ?_
  refine cx_iconst (pc := 32) dX9_compareAll_32 ?_
  refine aw_istore_n (pc := 33) [(1, iv 0), (0, .ref 4)] dX9_compareAll_33 rfl (by decide) ?_
  refine AW.sel [1, 0] rfl (lp_ind (bot := fun _ _ => none) (fun (f9 : Int → Mem → Option Rz) => ∀ (v1_34 : Int) (m34 : Mem), inR v1_34 → f9 v1_34 m34 = some r → AW l D base sc RX9 yX9_compareAll cX9_compareAll 4 (some FieldType.int) 1 0 0 ad (E mi) (pI E r) 0 0 (E m34) 34 [(0, .ref 4), (1, iv v1_34)] []) (fun _ _ _ h9 => nomatch h9) (fun w34 ih34 v1_34 m34 hv1_34 H => ?_) n _ _ (inR_lit _ rfl) H)
  refine aw_iload_n (pc := 34) dX9_compareAll_34 rfl ?_
  refine aw_aload_n (pc := 35) dX9_compareAll_35 rfl ?_
  refine cx_gtF (pc := 36) hE r4 fl_X9_50 rfl rfl (Nat.le_of_ble_eq_true rfl) dX9_compareAll_36 H (fun x36 hx36 H => ?_)
  refine cx_icmp_ge (pc := 39) 96 hv1_34 hx36 dX9_compareAll_39 rfl H (fun H => ?_) (fun H => ?_)
  · -- 39: 42
    refine aw_aload_n (pc := 42) dX9_compareAll_42 rfl ?_
    refine cx_gtC (pc := 43) 11 hE r4 fl_X9_29 rfl rfl (Nat.le_of_ble_eq_true rfl) dX9_compareAll_43 ?_
    refine cx_iconst (pc := 46) dX9_compareAll_46 ?_
    refine aw_iload_n (pc := 47) dX9_compareAll_47 rfl ?_
    refine cx_callS (pc := 48) (P := pI) (dC := 0) (mcC := 0) (msC := 0) [.ref 11, iv 0, iv v1_34] (fun r1 H1 => s_X9_has l sc E R hE hR n 11 0 v1_34 r11 (inR_lit _ rfl) hv1_34 m34 r1 H1) ca_X9_93 rfl rfl (Nat.le_of_ble_eq_true rfl) (Nat.le_of_ble_eq_true rfl) (Nat.le_of_ble_eq_true rfl) (Nat.le_of_ble_eq_true rfl) dX9_compareAll_48 H (fun x48 m48 v48 hh48 H hp => ?_)
    refine cx_backI hp (fun hx48 => ?_)
    refine jn_ind (fun (f9 : Mem → Option Rz) => ∀ (m66 : Mem), f9 m66 = some r → AW l D base sc RX9 yX9_compareAll cX9_compareAll 4 (some FieldType.int) 1 0 0 ad (E mi) (pI E r) 0 0 (E m66) 66 [(0, .ref 4), (1, iv v1_34)] []) (fun m66 H => ?_) (fun j66 hj66 H => ?_) H
    · -- 66
      refine aw_aload_n (pc := 66) dX9_compareAll_66 rfl ?_
      refine cx_gtC (pc := 67) 12 hE r4 fl_X9_32 rfl rfl (Nat.le_of_ble_eq_true rfl) dX9_compareAll_67 ?_
      refine cx_iconst (pc := 70) dX9_compareAll_70 ?_
      refine aw_iload_n (pc := 71) dX9_compareAll_71 rfl ?_
      refine cx_callS (pc := 72) (P := pI) (dC := 0) (mcC := 0) (msC := 0) [.ref 12, iv 0, iv v1_34] (fun r1 H1 => s_X9_has l sc E R hE hR n 12 0 v1_34 r12 (inR_lit _ rfl) hv1_34 m66 r1 H1) ca_X9_93 rfl rfl (Nat.le_of_ble_eq_true rfl) (Nat.le_of_ble_eq_true rfl) (Nat.le_of_ble_eq_true rfl) (Nat.le_of_ble_eq_true rfl) dX9_compareAll_72 H (fun x72 m72 v72 hh72 H hp => ?_)
      refine cx_backI hp (fun hx72 => ?_)
      refine jn_ind (fun (f9 : Mem → Option Rz) => ∀ (m90 : Mem), f9 m90 = some r → AW l D base sc RX9 yX9_compareAll cX9_compareAll 4 (some FieldType.int) 1 0 0 ad (E mi) (pI E r) 0 0 (E m90) 90 [(0, .ref 4), (1, iv v1_34)] []) (fun m90 H => ?_) (fun j90 hj90 H => ?_) H
      · -- 90
        refine cx_iinc (pc := 90) [(1, iv (w32 (v1_34 + 1))), (0, .ref 4)] dX9_compareAll_90 rfl rfl (by decide) ?_
        refine aw_goto (pc := 93) 34 dX9_compareAll_93 rfl ?_
        exact AW.sel [1, 0] rfl (ih34 _ _ (inR_w32 _) H)
      refine cx_if_eq (pc := 75) 90 hx72 dX9_compareAll_75 rfl H (fun H => ?_) (fun H => ?_)
      · -- 75: 90
        exact AW.sel [0, 1] rfl (hj90 _ H)
      · -- 75: 78
        refine aw_aload_n (pc := 78) dX9_compareAll_78 rfl ?_
        refine cx_gtC (pc := 79) 16 hE r4 fl_X9_44 rfl rfl (Nat.le_of_ble_eq_true rfl) dX9_compareAll_79 ?_
        refine aw_aload_n (pc := 82) dX9_compareAll_82 rfl ?_
        refine cx_gtC (pc := 83) 7 hE r4 fl_X9_16 rfl rfl (Nat.le_of_ble_eq_true rfl) dX9_compareAll_83 ?_
        refine aw_iload_n (pc := 86) dX9_compareAll_86 rfl ?_
        refine cx_callS (pc := 87) (P := pV) (dC := 0) (mcC := 0) (msC := 0) [.ref 16, .ref 7, iv v1_34] (fun r1 H1 => s_X9_join l sc E R hE hR n 16 7 v1_34 r16 r7 hv1_34 m72 r1 H1) ca_X9_97 rfl rfl (Nat.le_of_ble_eq_true rfl) (Nat.le_of_ble_eq_true rfl) (Nat.le_of_ble_eq_true rfl) (Nat.le_of_ble_eq_true rfl) dX9_compareAll_87 H (fun x87 m87 v87 hh87 H hp => ?_)
        refine cx_backV hp ?_
        exact AW.sel [0, 1] rfl (hj90 _ H)
    refine cx_if_eq (pc := 51) 66 hx48 dX9_compareAll_51 rfl H (fun H => ?_) (fun H => ?_)
    · -- 51: 66
      exact AW.sel [0, 1] rfl (hj66 _ H)
    · -- 51: 54
      refine aw_aload_n (pc := 54) dX9_compareAll_54 rfl ?_
      refine cx_gtC (pc := 55) 15 hE r4 fl_X9_41 rfl rfl (Nat.le_of_ble_eq_true rfl) dX9_compareAll_55 ?_
      refine aw_aload_n (pc := 58) dX9_compareAll_58 rfl ?_
      refine cx_gtC (pc := 59) 8 hE r4 fl_X9_19 rfl rfl (Nat.le_of_ble_eq_true rfl) dX9_compareAll_59 ?_
      refine aw_iload_n (pc := 62) dX9_compareAll_62 rfl ?_
      refine cx_callS (pc := 63) (P := pV) (dC := 0) (mcC := 0) (msC := 0) [.ref 15, .ref 8, iv v1_34] (fun r1 H1 => s_X9_join l sc E R hE hR n 15 8 v1_34 r15 r8 hv1_34 m48 r1 H1) ca_X9_97 rfl rfl (Nat.le_of_ble_eq_true rfl) (Nat.le_of_ble_eq_true rfl) (Nat.le_of_ble_eq_true rfl) (Nat.le_of_ble_eq_true rfl) dX9_compareAll_63 H (fun x63 m63 v63 hh63 H hp => ?_)
      refine cx_backV hp ?_
      exact AW.sel [0, 1] rfl (hj66 _ H)
  · -- 39: 96
    refine cx_iconst (pc := 96) dX9_compareAll_96 ?_
    refine aw_istore_n (pc := 97) [(1, iv 0), (0, .ref 4)] dX9_compareAll_97 rfl (by decide) ?_
    refine AW.sel [1, 0] rfl (lp_ind (bot := fun _ _ => none) (fun (f9 : Int → Mem → Option Rz) => ∀ (v1_98 : Int) (m98 : Mem), inR v1_98 → f9 v1_98 m98 = some r → AW l D base sc RX9 yX9_compareAll cX9_compareAll 4 (some FieldType.int) 1 0 0 ad (E mi) (pI E r) 0 0 (E m98) 98 [(0, .ref 4), (1, iv v1_98)] []) (fun _ _ _ h9 => nomatch h9) (fun w98 ih98 v1_98 m98 hv1_98 H => ?_) n _ _ (inR_lit _ rfl) H)
    refine aw_iload_n (pc := 98) dX9_compareAll_98 rfl ?_
    refine aw_aload_n (pc := 99) dX9_compareAll_99 rfl ?_
    refine cx_gtF (pc := 100) hE r4 fl_X9_50 rfl rfl (Nat.le_of_ble_eq_true rfl) dX9_compareAll_100 H (fun x100 hx100 H => ?_)
    refine cx_icmp_ge (pc := 103) 214 hv1_98 hx100 dX9_compareAll_103 rfl H (fun H => ?_) (fun H => ?_)
    · -- 103: 106
      refine aw_aload_n (pc := 106) dX9_compareAll_106 rfl ?_
      refine cx_gtC (pc := 107) 15 hE r4 fl_X9_41 rfl rfl (Nat.le_of_ble_eq_true rfl) dX9_compareAll_107 ?_
      refine cx_iconst (pc := 110) dX9_compareAll_110 ?_
      refine aw_iload_n (pc := 111) dX9_compareAll_111 rfl ?_
      refine cx_callS (pc := 112) (P := pI) (dC := 0) (mcC := 0) (msC := 0) [.ref 15, iv 0, iv v1_98] (fun r1 H1 => s_X9_has l sc E R hE hR n 15 0 v1_98 r15 (inR_lit _ rfl) hv1_98 m98 r1 H1) ca_X9_93 rfl rfl (Nat.le_of_ble_eq_true rfl) (Nat.le_of_ble_eq_true rfl) (Nat.le_of_ble_eq_true rfl) (Nat.le_of_ble_eq_true rfl) dX9_compareAll_112 H (fun x112 m112 v112 hh112 H hp => ?_)
      refine cx_backI hp (fun hx112 => ?_)
      refine jn_ind (fun (f9 : Int → Mem → Option Rz) => ∀ (s0_138 : Int) (m138 : Mem), inR s0_138 → f9 s0_138 m138 = some r → AW l D base sc RX9 yX9_compareAll cX9_compareAll 4 (some FieldType.int) 1 0 0 ad (E mi) (pI E r) 0 0 (E m138) 138 [(0, .ref 4), (1, iv v1_98)] [iv s0_138]) (fun s0_138 m138 hs0_138 H => ?_) (fun j138 hj138 H => ?_) H
      · -- 138
        refine aw_istore_n (pc := 138) [(2, iv s0_138), (0, .ref 4), (1, iv v1_98)] dX9_compareAll_138 rfl (by decide) ?_
        refine aw_aload_n (pc := 139) dX9_compareAll_139 rfl ?_
        refine cx_gtC (pc := 140) 16 hE r4 fl_X9_44 rfl rfl (Nat.le_of_ble_eq_true rfl) dX9_compareAll_140 ?_
        refine cx_iconst (pc := 143) dX9_compareAll_143 ?_
        refine aw_iload_n (pc := 144) dX9_compareAll_144 rfl ?_
        refine cx_callS (pc := 145) (P := pI) (dC := 0) (mcC := 0) (msC := 0) [.ref 16, iv 0, iv v1_98] (fun r1 H1 => s_X9_has l sc E R hE hR n 16 0 v1_98 r16 (inR_lit _ rfl) hv1_98 m138 r1 H1) ca_X9_93 rfl rfl (Nat.le_of_ble_eq_true rfl) (Nat.le_of_ble_eq_true rfl) (Nat.le_of_ble_eq_true rfl) (Nat.le_of_ble_eq_true rfl) dX9_compareAll_145 H (fun x145 m145 v145 hh145 H hp => ?_)
        refine cx_backI hp (fun hx145 => ?_)
        refine jn_ind (fun (f9 : Int → Mem → Option Rz) => ∀ (s0_171 : Int) (m171 : Mem), inR s0_171 → f9 s0_171 m171 = some r → AW l D base sc RX9 yX9_compareAll cX9_compareAll 4 (some FieldType.int) 1 0 0 ad (E mi) (pI E r) 0 0 (E m171) 171 [(0, .ref 4), (1, iv v1_98), (2, iv s0_138)] [iv s0_171]) (fun s0_171 m171 hs0_171 H => ?_) (fun j171 hj171 H => ?_) H
        · -- 171
          refine aw_istore_n (pc := 171) [(3, iv s0_171), (0, .ref 4), (1, iv v1_98), (2, iv s0_138)] dX9_compareAll_171 rfl (by decide) ?_
          refine aw_iload_n (pc := 172) dX9_compareAll_172 rfl ?_
          refine jn_ind (fun (f9 : Mem → Option Rz) => ∀ (m182 : Mem), f9 m182 = some r → AW l D base sc RX9 yX9_compareAll cX9_compareAll 4 (some FieldType.int) 1 0 0 ad (E mi) (pI E r) 0 0 (E m182) 182 [(0, .ref 4), (1, iv v1_98), (2, iv s0_138), (3, iv s0_171)] []) (fun m182 H => ?_) (fun j182 hj182 H => ?_) H
          · -- 182
            refine aw_iload_n (pc := 182) dX9_compareAll_182 rfl ?_
            refine jn_ind (fun (f9 : Mem → Option Rz) => ∀ (m195 : Mem), f9 m195 = some r → AW l D base sc RX9 yX9_compareAll cX9_compareAll 4 (some FieldType.int) 1 0 0 ad (E mi) (pI E r) 0 0 (E m195) 195 [(0, .ref 4), (1, iv v1_98), (3, iv s0_171)] []) (fun m195 H => ?_) (fun j195 hj195 H => ?_) H
            · -- 195
              refine aw_iload_n (pc := 195) dX9_compareAll_195 rfl ?_
              refine jn_ind (fun (f9 : Mem → Option Rz) => ∀ (m208 : Mem), f9 m208 = some r → AW l D base sc RX9 yX9_compareAll cX9_compareAll 4 (some FieldType.int) 1 0 0 ad (E mi) (pI E r) 0 0 (E m208) 208 [(0, .ref 4), (1, iv v1_98)] []) (fun m208 H => ?_) (fun j208 hj208 H => ?_) H
              · -- 208
                refine cx_iinc (pc := 208) [(1, iv (w32 (v1_98 + 1))), (0, .ref 4)] dX9_compareAll_208 rfl rfl (by decide) ?_
                refine aw_goto (pc := 211) 98 dX9_compareAll_211 rfl ?_
                exact AW.sel [1, 0] rfl (ih98 _ _ (inR_w32 _) H)
              refine cx_if_eq (pc := 196) 208 hs0_171 dX9_compareAll_196 rfl H (fun H => ?_) (fun H => ?_)
              · -- 196: 208
                exact AW.sel [0, 1] rfl (hj208 _ H)
              · -- 196: 199
                refine aw_aload_n (pc := 199) dX9_compareAll_199 rfl ?_
                refine cx_gtC (pc := 200) 14 hE r4 fl_X9_38 rfl rfl (Nat.le_of_ble_eq_true rfl) dX9_compareAll_200 ?_
                refine cx_iconst (pc := 203) dX9_compareAll_203 ?_
                refine aw_iload_n (pc := 204) dX9_compareAll_204 rfl ?_
                refine cx_callS (pc := 205) (P := pV) (dC := 0) (mcC := 0) (msC := 0) [.ref 14, iv 0, iv v1_98] (fun r1 H1 => s_X9_mark l sc E R hE hR n 14 0 v1_98 r14 (inR_lit _ rfl) hv1_98 m195 r1 H1) ca_X9_75 rfl rfl (Nat.le_of_ble_eq_true rfl) (Nat.le_of_ble_eq_true rfl) (Nat.le_of_ble_eq_true rfl) (Nat.le_of_ble_eq_true rfl) dX9_compareAll_205 H (fun x205 m205 v205 hh205 H hp => ?_)
                refine cx_backV hp ?_
                exact AW.sel [0, 1] rfl (hj208 _ H)
            refine cx_if_eq (pc := 183) 195 hs0_138 dX9_compareAll_183 rfl H (fun H => ?_) (fun H => ?_)
            · -- 183: 195
              exact AW.sel [0, 1, 3] rfl (hj195 _ H)
            · -- 183: 186
              refine aw_aload_n (pc := 186) dX9_compareAll_186 rfl ?_
              refine cx_gtC (pc := 187) 13 hE r4 fl_X9_35 rfl rfl (Nat.le_of_ble_eq_true rfl) dX9_compareAll_187 ?_
              refine cx_iconst (pc := 190) dX9_compareAll_190 ?_
              refine aw_iload_n (pc := 191) dX9_compareAll_191 rfl ?_
              refine cx_callS (pc := 192) (P := pV) (dC := 0) (mcC := 0) (msC := 0) [.ref 13, iv 0, iv v1_98] (fun r1 H1 => s_X9_mark l sc E R hE hR n 13 0 v1_98 r13 (inR_lit _ rfl) hv1_98 m182 r1 H1) ca_X9_75 rfl rfl (Nat.le_of_ble_eq_true rfl) (Nat.le_of_ble_eq_true rfl) (Nat.le_of_ble_eq_true rfl) (Nat.le_of_ble_eq_true rfl) dX9_compareAll_192 H (fun x192 m192 v192 hh192 H hp => ?_)
              refine cx_backV hp ?_
              exact AW.sel [0, 1, 3] rfl (hj195 _ H)
          refine cx_if_eq (pc := 173) 182 hs0_138 dX9_compareAll_173 rfl H (fun H => ?_) (fun H => ?_)
          · -- 173: 182
            exact AW.sel [1, 2, 3, 0] rfl (hj182 _ H)
          · -- 173: 176
            refine aw_iload_n (pc := 176) dX9_compareAll_176 rfl ?_
            refine cx_if_eq (pc := 177) 182 hs0_171 dX9_compareAll_177 rfl H (fun H => ?_) (fun H => ?_)
            · -- 177: 182
              exact AW.sel [1, 2, 3, 0] rfl (hj182 _ H)
            · -- 177: 180
              refine aw_iload_n (pc := 180) dX9_compareAll_180 rfl ?_
              exact cx_iret (pc := 181) hv1_98 rfl (Nat.le_of_ble_eq_true rfl) (Nat.le_of_ble_eq_true rfl) dX9_compareAll_181 H
        refine jn_ind (fun (f9 : Mem → Option Rz) => ∀ (m170 : Mem), f9 m170 = some r → AW l D base sc RX9 yX9_compareAll cX9_compareAll 4 (some FieldType.int) 1 0 0 ad (E mi) (pI E r) 0 0 (E m170) 170 [(0, .ref 4), (1, iv v1_98), (2, iv s0_138)] []) (fun m170 H => ?_) (fun j170 hj170 H => ?_) H
        · -- 170
          refine cx_iconst (pc := 170) dX9_compareAll_170 ?_
          exact AW.sel [0, 1, 2] rfl (hj171 _ _ (inR_lit _ rfl) H)
        refine cx_if_ne (pc := 148) 170 hx145 dX9_compareAll_148 rfl H (fun H => ?_) (fun H => ?_)
        · -- 148: 151
          refine aw_aload_n (pc := 151) dX9_compareAll_151 rfl ?_
          refine cx_gtC (pc := 152) 5 hE r4 fl_X9_9 rfl rfl (Nat.le_of_ble_eq_true rfl) dX9_compareAll_152 ?_
          refine aw_iload_n (pc := 155) dX9_compareAll_155 rfl ?_
          refine aw_aload_n (pc := 156) dX9_compareAll_156 rfl ?_
          refine cx_gtC (pc := 157) 13 hE r4 fl_X9_35 rfl rfl (Nat.le_of_ble_eq_true rfl) dX9_compareAll_157 ?_
          refine cx_callS (pc := 160) (P := pI) (dC := 0) (mcC := 0) (msC := 0) [.ref 5, iv v1_98, .ref 13] (fun r1 H1 => s_X9_meets l sc E R hE hR n 5 v1_98 13 r5 hv1_98 r13 m145 r1 H1) ca_X9_101 rfl rfl (Nat.le_of_ble_eq_true rfl) (Nat.le_of_ble_eq_true rfl) (Nat.le_of_ble_eq_true rfl) (Nat.le_of_ble_eq_true rfl) dX9_compareAll_160 H (fun x160 m160 v160 hh160 H hp => ?_)
          refine cx_backI hp (fun hx160 => ?_)
          refine cx_if_ne (pc := 163) 170 hx160 dX9_compareAll_163 rfl H (fun H => ?_) (fun H => ?_)
          · -- 163: 166
            refine cx_iconst (pc := 166) dX9_compareAll_166 ?_
            refine aw_goto (pc := 167) 171 dX9_compareAll_167 rfl ?_
            exact AW.sel [1, 2, 0] rfl (hj171 _ _ (inR_lit _ rfl) H)
          · -- 163: 170
            exact AW.sel [1, 2, 0] rfl (hj170 _ H)
        · -- 148: 170
          exact AW.sel [1, 2, 0] rfl (hj170 _ H)
      refine jn_ind (fun (f9 : Mem → Option Rz) => ∀ (m137 : Mem), f9 m137 = some r → AW l D base sc RX9 yX9_compareAll cX9_compareAll 4 (some FieldType.int) 1 0 0 ad (E mi) (pI E r) 0 0 (E m137) 137 [(0, .ref 4), (1, iv v1_98)] []) (fun m137 H => ?_) (fun j137 hj137 H => ?_) H
      · -- 137
        refine cx_iconst (pc := 137) dX9_compareAll_137 ?_
        exact AW.sel [0, 1] rfl (hj138 _ _ (inR_lit _ rfl) H)
      refine cx_if_ne (pc := 115) 137 hx112 dX9_compareAll_115 rfl H (fun H => ?_) (fun H => ?_)
      · -- 115: 118
        refine aw_aload_n (pc := 118) dX9_compareAll_118 rfl ?_
        refine cx_gtC (pc := 119) 6 hE r4 fl_X9_13 rfl rfl (Nat.le_of_ble_eq_true rfl) dX9_compareAll_119 ?_
        refine aw_iload_n (pc := 122) dX9_compareAll_122 rfl ?_
        refine aw_aload_n (pc := 123) dX9_compareAll_123 rfl ?_
        refine cx_gtC (pc := 124) 14 hE r4 fl_X9_38 rfl rfl (Nat.le_of_ble_eq_true rfl) dX9_compareAll_124 ?_
        refine cx_callS (pc := 127) (P := pI) (dC := 0) (mcC := 0) (msC := 0) [.ref 6, iv v1_98, .ref 14] (fun r1 H1 => s_X9_meets l sc E R hE hR n 6 v1_98 14 r6 hv1_98 r14 m112 r1 H1) ca_X9_101 rfl rfl (Nat.le_of_ble_eq_true rfl) (Nat.le_of_ble_eq_true rfl) (Nat.le_of_ble_eq_true rfl) (Nat.le_of_ble_eq_true rfl) dX9_compareAll_127 H (fun x127 m127 v127 hh127 H hp => ?_)
        refine cx_backI hp (fun hx127 => ?_)
        refine cx_if_ne (pc := 130) 137 hx127 dX9_compareAll_130 rfl H (fun H => ?_) (fun H => ?_)
        · -- 130: 133
          refine cx_iconst (pc := 133) dX9_compareAll_133 ?_
          refine aw_goto (pc := 134) 138 dX9_compareAll_134 rfl ?_
          exact AW.sel [0, 1] rfl (hj138 _ _ (inR_lit _ rfl) H)
        · -- 130: 137
          exact AW.sel [0, 1] rfl (hj137 _ H)
      · -- 115: 137
        exact AW.sel [0, 1] rfl (hj137 _ H)
    · -- 103: 214
      refine cx_iconst (pc := 214) dX9_compareAll_214 ?_
      exact cx_iret (pc := 215) (inR_lit _ rfl) rfl (Nat.le_of_ble_eq_true rfl) (Nat.le_of_ble_eq_true rfl) dX9_compareAll_215 H
/-- X9 dropIfOutdone ([JI[J)V -/
def f_X9_dropIfOutdone (n : Nat) (p1 : Nat) (p2 : Int) (p3 : Nat) (mi : Mem) : Option Rz :=
  cal (f_X9_has n p1 0 p2 mi) fun x3 m3 =>
  jn (fun (m30 : Mem) =>
    rt 0 m30
  ) fun (j30 : Mem → Option Rz) =>
  if x3 = 0 then (
    j30 m3
  ) else
  cal (f_X9_unmark n p1 0 p2 m3) fun _ m12 =>
  cal (f_X9_meets n p3 p2 p1 m12) fun x18 m18 =>
  if x18 = 0 then (
    cal (f_X9_mark n p1 0 p2 m18) fun _ m27 =>
    j30 m27
  ) else
  j30 m18
set_option maxRecDepth 100000 in
set_option maxHeartbeats 4000000 in
theorem s_X9_dropIfOutdone (l : Launch) (sc : g_S) (E : Mem → g_H) (R : Nat → Prop) (hE : LE E R) (hR : RYS R) (n : Nat)  (p1 : Nat) (p2 : Int) (p3 : Nat) (hp1 : R p1) (hp2 : inR p2) (hp3 : R p3) (mi : Mem) (r : Rz) (H : f_X9_dropIfOutdone n p1 p2 p3 mi = some r) : AMet l sc yX9_dropIfOutdone cX9_dropIfOutdone 4 none 1 0 0 [.ref 4, .ref p1, iv p2, .ref p3] (E mi) (pV E r) := by
  unfold f_X9_dropIfOutdone at H
  refine AMet.of (own := RX9) (by decide +kernel) rfl (Nat.le_of_ble_eq_true rfl) [(0, .ref 4), (1, .ref p1), (2, iv p2), (3, .ref p3)] rfl (fun D base ad => ?_)
  refine aw_aload_n (pc := 0) dX9_dropIfOutdone_0 rfl ?_
  refine cx_iconst (pc := 1) dX9_dropIfOutdone_1 ?_
  refine aw_iload_n (pc := 2) dX9_dropIfOutdone_2 rfl ?_
  refine cx_callS (pc := 3) (P := pI) (dC := 0) (mcC := 0) (msC := 0) [.ref p1, iv 0, iv p2] (fun r1 H1 => s_X9_has l sc E R hE hR n p1 0 p2 hp1 (inR_lit _ rfl) hp2 mi r1 H1) ca_X9_93 rfl rfl (Nat.le_of_ble_eq_true rfl) (Nat.le_of_ble_eq_true rfl) (Nat.le_of_ble_eq_true rfl) (Nat.le_of_ble_eq_true rfl) dX9_dropIfOutdone_3 H (fun x3 m3 v3 hh3 H hp => ?_)
  refine cx_backI hp (fun hx3 => ?_)
  refine jn_ind (fun (f9 : Mem → Option Rz) => ∀ (m30 : Mem), f9 m30 = some r → AW l D base sc RX9 yX9_dropIfOutdone cX9_dropIfOutdone 4 none 1 0 0 ad (E mi) (pV E r) 0 0 (E m30) 30 [] []) (fun m30 H => ?_) (fun j30 hj30 H => ?_) H
  · -- 30
    exact cx_vret (pc := 30) rfl (Nat.le_of_ble_eq_true rfl) (Nat.le_of_ble_eq_true rfl) dX9_dropIfOutdone_30 H
  refine cx_if_eq (pc := 6) 30 hx3 dX9_dropIfOutdone_6 rfl H (fun H => ?_) (fun H => ?_)
  · -- 6: 30
    exact AW.sel [] rfl (hj30 _ H)
  · -- 6: 9
    refine aw_aload_n (pc := 9) dX9_dropIfOutdone_9 rfl ?_
    refine cx_iconst (pc := 10) dX9_dropIfOutdone_10 ?_
    refine aw_iload_n (pc := 11) dX9_dropIfOutdone_11 rfl ?_
    refine cx_callS (pc := 12) (P := pV) (dC := 0) (mcC := 0) (msC := 0) [.ref p1, iv 0, iv p2] (fun r1 H1 => s_X9_unmark l sc E R hE hR n p1 0 p2 hp1 (inR_lit _ rfl) hp2 m3 r1 H1) ca_X9_105 rfl rfl (Nat.le_of_ble_eq_true rfl) (Nat.le_of_ble_eq_true rfl) (Nat.le_of_ble_eq_true rfl) (Nat.le_of_ble_eq_true rfl) dX9_dropIfOutdone_12 H (fun x12 m12 v12 hh12 H hp => ?_)
    refine cx_backV hp ?_
    refine aw_aload_n (pc := 15) dX9_dropIfOutdone_15 rfl ?_
    refine aw_iload_n (pc := 16) dX9_dropIfOutdone_16 rfl ?_
    refine aw_aload_n (pc := 17) dX9_dropIfOutdone_17 rfl ?_
    refine cx_callS (pc := 18) (P := pI) (dC := 0) (mcC := 0) (msC := 0) [.ref p3, iv p2, .ref p1] (fun r1 H1 => s_X9_meets l sc E R hE hR n p3 p2 p1 hp3 hp2 hp1 m12 r1 H1) ca_X9_101 rfl rfl (Nat.le_of_ble_eq_true rfl) (Nat.le_of_ble_eq_true rfl) (Nat.le_of_ble_eq_true rfl) (Nat.le_of_ble_eq_true rfl) dX9_dropIfOutdone_18 H (fun x18 m18 v18 hh18 H hp => ?_)
    refine cx_backI hp (fun hx18 => ?_)
    refine cx_if_ne (pc := 21) 30 hx18 dX9_dropIfOutdone_21 rfl H (fun H => ?_) (fun H => ?_)
    · -- 21: 24
      refine aw_aload_n (pc := 24) dX9_dropIfOutdone_24 rfl ?_
      refine cx_iconst (pc := 25) dX9_dropIfOutdone_25 ?_
      refine aw_iload_n (pc := 26) dX9_dropIfOutdone_26 rfl ?_
      refine cx_callS (pc := 27) (P := pV) (dC := 0) (mcC := 0) (msC := 0) [.ref p1, iv 0, iv p2] (fun r1 H1 => s_X9_mark l sc E R hE hR n p1 0 p2 hp1 (inR_lit _ rfl) hp2 m18 r1 H1) ca_X9_75 rfl rfl (Nat.le_of_ble_eq_true rfl) (Nat.le_of_ble_eq_true rfl) (Nat.le_of_ble_eq_true rfl) (Nat.le_of_ble_eq_true rfl) dX9_dropIfOutdone_27 H (fun x27 m27 v27 hh27 H hp => ?_)
      refine cx_backV hp ?_
      exact AW.sel [] rfl (hj30 _ H)
    · -- 21: 30
      exact AW.sel [] rfl (hj30 _ H)
/-- X9 end ()I -/
def f_X9_end (n : Nat)  (mi : Mem) : Option Rz :=
  gtF mi 4 14 fun x1 =>
  if x1 = 0 then (
    cal (f_X9_compareAll n mi) fun x10 m10 =>
    if x10 < 0 then (
      gtF m10 4 13 fun x21 =>
      nm (w32 (x21 - 1)) fun z26 =>
      lp (F := Int → Mem → Option Rz) (fun _ _ => none) (fun w27 v2_27 m27 =>
        if v2_27 < 0 then (
          lp (F := Int → Mem → Option Rz) (fun _ _ => none) (fun w81 v2_81 m81 =>
            gtF m81 4 13 fun x83 =>
            if v2_81 < x83 then (
              cal (f_X9_dropIfOutdone n 11 v2_81 7 m81) fun _ m99 =>
              cal (f_X9_dropIfOutdone n 12 v2_81 8 m99) fun _ m112 =>
              w81 (w32 (v2_81 + 1)) m112
            ) else
            cal (f_X9_add n m81) fun x122 m122 =>
            rt x122 m122
          ) n 0 m27
        ) else
        cal (f_X9_bypass n 11 v2_27 6 14 5 m27) fun _ m49 =>
        cal (f_X9_bypass n 12 v2_27 5 13 6 m49) fun _ m70 =>
        w27 (w32 (v2_27 + (-1))) m70
      ) n z26 m10
    ) else
    rt x10 m10
  ) else
  rt (-1) mi
set_option maxRecDepth 100000 in
set_option maxHeartbeats 4000000 in
theorem s_X9_end (l : Launch) (sc : g_S) (E : Mem → g_H) (R : Nat → Prop) (hE : LE E R) (hR : RYS R) (n : Nat)    (mi : Mem) (r : Rz) (H : f_X9_end n  mi = some r) : AMet l sc yX9_end cX9_end 3 (some FieldType.int) 2 0 0 [.ref 4] (E mi) (pI E r) := by
  have r4 : R 4 := hR.1 4 (Nat.le_of_ble_eq_true rfl) (Nat.le_of_ble_eq_true rfl)
  have r5 : R 5 := hR.1 5 (Nat.le_of_ble_eq_true rfl) (Nat.le_of_ble_eq_true rfl)
  have r6 : R 6 := hR.1 6 (Nat.le_of_ble_eq_true rfl) (Nat.le_of_ble_eq_true rfl)
  have r7 : R 7 := hR.1 7 (Nat.le_of_ble_eq_true rfl) (Nat.le_of_ble_eq_true rfl)
  have r8 : R 8 := hR.1 8 (Nat.le_of_ble_eq_true rfl) (Nat.le_of_ble_eq_true rfl)
  have r11 : R 11 := hR.1 11 (Nat.le_of_ble_eq_true rfl) (Nat.le_of_ble_eq_true rfl)
  have r12 : R 12 := hR.1 12 (Nat.le_of_ble_eq_true rfl) (Nat.le_of_ble_eq_true rfl)
  have r13 : R 13 := hR.1 13 (Nat.le_of_ble_eq_true rfl) (Nat.le_of_ble_eq_true rfl)
  have r14 : R 14 := hR.1 14 (Nat.le_of_ble_eq_true rfl) (Nat.le_of_ble_eq_true rfl)
  unfold f_X9_end at H
  refine AMet.of (own := RX9) (by decide +kernel) rfl (Nat.le_of_ble_eq_true rfl) [(0, .ref 4)] rfl (fun D base ad => ?_)
  refine aw_aload_n (pc := 0) dX9_end_0 rfl ?_
  refine cx_gtF (pc := 1) hE r4 fl_X9_61 rfl rfl (Nat.le_of_ble_eq_true rfl) dX9_end_1 H (fun x1 hx1 H => ?_)
  refine cx_if_eq (pc := 4) 9 hx1 dX9_end_4 rfl H (fun H => ?_) (fun H => ?_)
  · -- 4: 9
    refine aw_aload_n (pc := 9) dX9_end_9 rfl ?_
    refine cx_callV (pc := 10) (P := pI) (dC := 1) (mcC := 0) (msC := 0) [] hE r4 (fun r1 H1 => s_X9_compareAll l sc E R hE hR n mi r1 H1) ca_X9_79 rfl ⟨_, rfl, rfl⟩ rfl rfl (Nat.le_of_ble_eq_true rfl) (Nat.le_of_ble_eq_true rfl) (Nat.le_of_ble_eq_true rfl) (Nat.le_of_ble_eq_true rfl) dX9_end_10 H (fun x10 m10 v10 hh10 H hp => ?_)
    refine cx_backI hp (fun hx10 => ?_)
    refine aw_istore_n (pc := 13) [(1, iv x10), (0, .ref 4)] dX9_end_13 rfl (by decide) ?_
    refine aw_iload_n (pc := 14) dX9_end_14 rfl ?_
    refine cx_if_lt (pc := 15) 20 hx10 dX9_end_15 rfl H (fun H => ?_) (fun H => ?_)
    · -- 15: 20
      refine aw_aload_n (pc := 20) dX9_end_20 rfl ?_
      refine cx_gtF (pc := 21) hE r4 fl_X9_50 rfl rfl (Nat.le_of_ble_eq_true rfl) dX9_end_21 H (fun x21 hx21 H => ?_)
      refine cx_iconst (pc := 24) dX9_end_24 ?_
      refine cx_isub (pc := 25) dX9_end_25 ?_
      refine cx_nm (inR_w32 _) H (fun z26 hz26 H => ?_)
      refine aw_istore_n (pc := 26) [(2, iv z26), (1, iv x10), (0, .ref 4)] dX9_end_26 rfl (by decide) ?_
      refine AW.sel [2, 0] rfl (lp_ind (bot := fun _ _ => none) (fun (f9 : Int → Mem → Option Rz) => ∀ (v2_27 : Int) (m27 : Mem), inR v2_27 → f9 v2_27 m27 = some r → AW l D base sc RX9 yX9_end cX9_end 3 (some FieldType.int) 2 0 0 ad (E mi) (pI E r) 0 0 (E m27) 27 [(0, .ref 4), (2, iv v2_27)] []) (fun _ _ _ h9 => nomatch h9) (fun w27 ih27 v2_27 m27 hv2_27 H => ?_) n _ _ hz26 H)
      refine aw_iload_n (pc := 27) dX9_end_27 rfl ?_
      refine cx_if_lt (pc := 28) 79 hv2_27 dX9_end_28 rfl H (fun H => ?_) (fun H => ?_)
      · -- 28: 79
        refine cx_iconst (pc := 79) dX9_end_79 ?_
        refine aw_istore_n (pc := 80) [(2, iv 0), (0, .ref 4)] dX9_end_80 rfl (by decide) ?_
        refine AW.sel [1, 0] rfl (lp_ind (bot := fun _ _ => none) (fun (f9 : Int → Mem → Option Rz) => ∀ (v2_81 : Int) (m81 : Mem), inR v2_81 → f9 v2_81 m81 = some r → AW l D base sc RX9 yX9_end cX9_end 3 (some FieldType.int) 2 0 0 ad (E mi) (pI E r) 0 0 (E m81) 81 [(0, .ref 4), (2, iv v2_81)] []) (fun _ _ _ h9 => nomatch h9) (fun w81 ih81 v2_81 m81 hv2_81 H => ?_) n _ _ (inR_lit _ rfl) H)
        refine aw_iload_n (pc := 81) dX9_end_81 rfl ?_
        refine aw_aload_n (pc := 82) dX9_end_82 rfl ?_
        refine cx_gtF (pc := 83) hE r4 fl_X9_50 rfl rfl (Nat.le_of_ble_eq_true rfl) dX9_end_83 H (fun x83 hx83 H => ?_)
        refine cx_icmp_ge (pc := 86) 121 hv2_81 hx83 dX9_end_86 rfl H (fun H => ?_) (fun H => ?_)
        · -- 86: 89
          refine aw_aload_n (pc := 89) dX9_end_89 rfl ?_
          refine aw_aload_n (pc := 90) dX9_end_90 rfl ?_
          refine cx_gtC (pc := 91) 11 hE r4 fl_X9_29 rfl rfl (Nat.le_of_ble_eq_true rfl) dX9_end_91 ?_
          refine aw_iload_n (pc := 94) dX9_end_94 rfl ?_
          refine aw_aload_n (pc := 95) dX9_end_95 rfl ?_
          refine cx_gtC (pc := 96) 7 hE r4 fl_X9_16 rfl rfl (Nat.le_of_ble_eq_true rfl) dX9_end_96 ?_
          refine cx_callV (pc := 99) (P := pV) (dC := 1) (mcC := 0) (msC := 0) [.ref 11, iv v2_81, .ref 7] hE r4 (fun r1 H1 => s_X9_dropIfOutdone l sc E R hE hR n 11 v2_81 7 r11 hv2_81 r7 m81 r1 H1) ca_X9_86 rfl ⟨_, rfl, rfl⟩ rfl rfl (Nat.le_of_ble_eq_true rfl) (Nat.le_of_ble_eq_true rfl) (Nat.le_of_ble_eq_true rfl) (Nat.le_of_ble_eq_true rfl) dX9_end_99 H (fun x99 m99 v99 hh99 H hp => ?_)
          refine cx_backV hp ?_
          refine aw_aload_n (pc := 102) dX9_end_102 rfl ?_
          refine aw_aload_n (pc := 103) dX9_end_103 rfl ?_
          refine cx_gtC (pc := 104) 12 hE r4 fl_X9_32 rfl rfl (Nat.le_of_ble_eq_true rfl) dX9_end_104 ?_
          refine aw_iload_n (pc := 107) dX9_end_107 rfl ?_
          refine aw_aload_n (pc := 108) dX9_end_108 rfl ?_
          refine cx_gtC (pc := 109) 8 hE r4 fl_X9_19 rfl rfl (Nat.le_of_ble_eq_true rfl) dX9_end_109 ?_
          refine cx_callV (pc := 112) (P := pV) (dC := 1) (mcC := 0) (msC := 0) [.ref 12, iv v2_81, .ref 8] hE r4 (fun r1 H1 => s_X9_dropIfOutdone l sc E R hE hR n 12 v2_81 8 r12 hv2_81 r8 m99 r1 H1) ca_X9_86 rfl ⟨_, rfl, rfl⟩ rfl rfl (Nat.le_of_ble_eq_true rfl) (Nat.le_of_ble_eq_true rfl) (Nat.le_of_ble_eq_true rfl) (Nat.le_of_ble_eq_true rfl) dX9_end_112 H (fun x112 m112 v112 hh112 H hp => ?_)
          refine cx_backV hp ?_
          refine cx_iinc (pc := 115) [(2, iv (w32 (v2_81 + 1))), (0, .ref 4)] dX9_end_115 rfl rfl (by decide) ?_
          refine aw_goto (pc := 118) 81 dX9_end_118 rfl ?_
          exact AW.sel [1, 0] rfl (ih81 _ _ (inR_w32 _) H)
        · -- 86: 121
          refine aw_aload_n (pc := 121) dX9_end_121 rfl ?_
          refine cx_callV (pc := 122) (P := pI) (dC := 1) (mcC := 0) (msC := 0) [] hE r4 (fun r1 H1 => s_X9_add l sc E R hE hR n m81 r1 H1) ca_X9_90 rfl ⟨_, rfl, rfl⟩ rfl rfl (Nat.le_of_ble_eq_true rfl) (Nat.le_of_ble_eq_true rfl) (Nat.le_of_ble_eq_true rfl) (Nat.le_of_ble_eq_true rfl) dX9_end_122 H (fun x122 m122 v122 hh122 H hp => ?_)
          refine cx_backI hp (fun hx122 => ?_)
          exact cx_iret (pc := 125) hx122 rfl (Nat.le_of_ble_eq_true rfl) (Nat.le_of_ble_eq_true rfl) dX9_end_125 H
      · -- 28: 31
        refine aw_aload_n (pc := 31) dX9_end_31 rfl ?_
        refine aw_aload_n (pc := 32) dX9_end_32 rfl ?_
        refine cx_gtC (pc := 33) 11 hE r4 fl_X9_29 rfl rfl (Nat.le_of_ble_eq_true rfl) dX9_end_33 ?_
        refine aw_iload_n (pc := 36) dX9_end_36 rfl ?_
        refine aw_aload_n (pc := 37) dX9_end_37 rfl ?_
        refine cx_gtC (pc := 38) 6 hE r4 fl_X9_13 rfl rfl (Nat.le_of_ble_eq_true rfl) dX9_end_38 ?_
        refine aw_aload_n (pc := 41) dX9_end_41 rfl ?_
        refine cx_gtC (pc := 42) 14 hE r4 fl_X9_38 rfl rfl (Nat.le_of_ble_eq_true rfl) dX9_end_42 ?_
        refine aw_aload_n (pc := 45) dX9_end_45 rfl ?_
        refine cx_gtC (pc := 46) 5 hE r4 fl_X9_9 rfl rfl (Nat.le_of_ble_eq_true rfl) dX9_end_46 ?_
        refine cx_callV (pc := 49) (P := pV) (dC := 1) (mcC := 0) (msC := 0) [.ref 11, iv v2_27, .ref 6, .ref 14, .ref 5] hE r4 (fun r1 H1 => s_X9_bypass l sc E R hE hR n 11 v2_27 6 14 5 r11 hv2_27 r6 r14 r5 m27 r1 H1) ca_X9_82 rfl ⟨_, rfl, rfl⟩ rfl rfl (Nat.le_of_ble_eq_true rfl) (Nat.le_of_ble_eq_true rfl) (Nat.le_of_ble_eq_true rfl) (Nat.le_of_ble_eq_true rfl) dX9_end_49 H (fun x49 m49 v49 hh49 H hp => ?_)
        refine cx_backV hp ?_
        refine aw_aload_n (pc := 52) dX9_end_52 rfl ?_
        refine aw_aload_n (pc := 53) dX9_end_53 rfl ?_
        refine cx_gtC (pc := 54) 12 hE r4 fl_X9_32 rfl rfl (Nat.le_of_ble_eq_true rfl) dX9_end_54 ?_
        refine aw_iload_n (pc := 57) dX9_end_57 rfl ?_
        refine aw_aload_n (pc := 58) dX9_end_58 rfl ?_
        refine cx_gtC (pc := 59) 5 hE r4 fl_X9_9 rfl rfl (Nat.le_of_ble_eq_true rfl) dX9_end_59 ?_
        refine aw_aload_n (pc := 62) dX9_end_62 rfl ?_
        refine cx_gtC (pc := 63) 13 hE r4 fl_X9_35 rfl rfl (Nat.le_of_ble_eq_true rfl) dX9_end_63 ?_
        refine aw_aload_n (pc := 66) dX9_end_66 rfl ?_
        refine cx_gtC (pc := 67) 6 hE r4 fl_X9_13 rfl rfl (Nat.le_of_ble_eq_true rfl) dX9_end_67 ?_
        refine cx_callV (pc := 70) (P := pV) (dC := 1) (mcC := 0) (msC := 0) [.ref 12, iv v2_27, .ref 5, .ref 13, .ref 6] hE r4 (fun r1 H1 => s_X9_bypass l sc E R hE hR n 12 v2_27 5 13 6 r12 hv2_27 r5 r13 r6 m49 r1 H1) ca_X9_82 rfl ⟨_, rfl, rfl⟩ rfl rfl (Nat.le_of_ble_eq_true rfl) (Nat.le_of_ble_eq_true rfl) (Nat.le_of_ble_eq_true rfl) (Nat.le_of_ble_eq_true rfl) dX9_end_70 H (fun x70 m70 v70 hh70 H hp => ?_)
        refine cx_backV hp ?_
        refine cx_iinc (pc := 73) [(2, iv (w32 (v2_27 + (-1)))), (0, .ref 4)] dX9_end_73 rfl rfl (by decide) ?_
        refine aw_goto (pc := 76) 27 dX9_end_76 rfl ?_
        exact AW.sel [1, 0] rfl (ih27 _ _ (inR_w32 _) H)
    · -- 15: 18
      refine aw_iload_n (pc := 18) dX9_end_18 rfl ?_
      exact cx_iret (pc := 19) hx10 rfl (Nat.le_of_ble_eq_true rfl) (Nat.le_of_ble_eq_true rfl) dX9_end_19 H
  · -- 4: 7
    refine cx_iconst (pc := 7) dX9_end_7 ?_
    exact cx_iret (pc := 8) (inR_lit _ rfl) rfl (Nat.le_of_ble_eq_true rfl) (Nat.le_of_ble_eq_true rfl) dX9_end_8 H
/-- X9 isOption (III)Z -/
def f_X9_isOption (n : Nat) (p1 : Int) (p2 : Int) (p3 : Int) (mi : Mem) : Option Rz :=
  cal (f_X9_isNode n p1 mi) fun x2 m2 =>
  jn (fun (s0_44 : Int) (m44 : Mem) =>
    rtZ s0_44 m44
  ) fun (j44 : Int → Mem → Option Rz) =>
  jn (fun (m43 : Mem) =>
    j44 0 m43
  ) fun (j43 : Mem → Option Rz) =>
  if x2 = 0 then (
    j43 m2
  ) else
  cal (f_X9_isNode n p3 m2) fun x10 m10 =>
  if x10 = 0 then (
    j43 m10
  ) else
  jn (fun (s0_31 : Nat) (m31 : Mem) =>
    cal (f_X9_has n s0_31 p1 p3 m31) fun x33 m33 =>
    if x33 = 0 then (
      j43 m33
    ) else
    j44 1 m33
  ) fun (j31 : Nat → Mem → Option Rz) =>
  if p2 = 0 then (
    j31 5 m10
  ) else
  j31 6 m10
set_option maxRecDepth 100000 in
set_option maxHeartbeats 4000000 in
theorem s_X9_isOption (l : Launch) (sc : g_S) (E : Mem → g_H) (R : Nat → Prop) (hE : LE E R) (hR : RYS R) (n : Nat)  (p1 : Int) (p2 : Int) (p3 : Int) (hp1 : inR p1) (hp2 : inR p2) (hp3 : inR p3) (mi : Mem) (r : Rz) (H : f_X9_isOption n p1 p2 p3 mi = some r) : AMet l sc yX9_isOption cX9_isOption 4 (some FieldType.boolean) 1 0 0 [.ref 4, iv p1, iv p2, iv p3] (E mi) (pI E r) := by
  have r4 : R 4 := hR.1 4 (Nat.le_of_ble_eq_true rfl) (Nat.le_of_ble_eq_true rfl)
  have r5 : R 5 := hR.1 5 (Nat.le_of_ble_eq_true rfl) (Nat.le_of_ble_eq_true rfl)
  have r6 : R 6 := hR.1 6 (Nat.le_of_ble_eq_true rfl) (Nat.le_of_ble_eq_true rfl)
  unfold f_X9_isOption at H
  refine AMet.of (own := RX9) (by decide +kernel) rfl (Nat.le_of_ble_eq_true rfl) [(0, .ref 4), (1, iv p1), (2, iv p2), (3, iv p3)] rfl (fun D base ad => ?_)
  refine aw_aload_n (pc := 0) dX9_isOption_0 rfl ?_
  refine aw_iload_n (pc := 1) dX9_isOption_1 rfl ?_
  refine cx_callV (pc := 2) (P := pI) (dC := 0) (mcC := 0) (msC := 0) [iv p1] hE r4 (fun r1 H1 => s_X9_isNode l sc E R hE hR n p1 hp1 mi r1 H1) ca_X9_71 rfl ⟨_, rfl, rfl⟩ rfl rfl (Nat.le_of_ble_eq_true rfl) (Nat.le_of_ble_eq_true rfl) (Nat.le_of_ble_eq_true rfl) (Nat.le_of_ble_eq_true rfl) dX9_isOption_2 H (fun x2 m2 v2 hh2 H hp => ?_)
  refine cx_backI hp (fun hx2 => ?_)
  refine jn_ind (fun (f9 : Int → Mem → Option Rz) => ∀ (s0_44 : Int) (m44 : Mem), inR s0_44 → f9 s0_44 m44 = some r → AW l D base sc RX9 yX9_isOption cX9_isOption 4 (some FieldType.boolean) 1 0 0 ad (E mi) (pI E r) 0 0 (E m44) 44 [] [iv s0_44]) (fun s0_44 m44 hs0_44 H => ?_) (fun j44 hj44 H => ?_) H
  · -- 44
    exact cx_zret (pc := 44) rfl (Nat.le_of_ble_eq_true rfl) (Nat.le_of_ble_eq_true rfl) dX9_isOption_44 H
  refine jn_ind (fun (f9 : Mem → Option Rz) => ∀ (m43 : Mem), f9 m43 = some r → AW l D base sc RX9 yX9_isOption cX9_isOption 4 (some FieldType.boolean) 1 0 0 ad (E mi) (pI E r) 0 0 (E m43) 43 [] []) (fun m43 H => ?_) (fun j43 hj43 H => ?_) H
  · -- 43
    refine cx_iconst (pc := 43) dX9_isOption_43 ?_
    exact AW.sel [] rfl (hj44 _ _ (inR_lit _ rfl) H)
  refine cx_if_eq (pc := 5) 43 hx2 dX9_isOption_5 rfl H (fun H => ?_) (fun H => ?_)
  · -- 5: 43
    exact AW.sel [] rfl (hj43 _ H)
  · -- 5: 8
    refine aw_aload_n (pc := 8) dX9_isOption_8 rfl ?_
    refine aw_iload_n (pc := 9) dX9_isOption_9 rfl ?_
    refine cx_callV (pc := 10) (P := pI) (dC := 0) (mcC := 0) (msC := 0) [iv p3] hE r4 (fun r1 H1 => s_X9_isNode l sc E R hE hR n p3 hp3 m2 r1 H1) ca_X9_71 rfl ⟨_, rfl, rfl⟩ rfl rfl (Nat.le_of_ble_eq_true rfl) (Nat.le_of_ble_eq_true rfl) (Nat.le_of_ble_eq_true rfl) (Nat.le_of_ble_eq_true rfl) dX9_isOption_10 H (fun x10 m10 v10 hh10 H hp => ?_)
    refine cx_backI hp (fun hx10 => ?_)
    refine cx_if_eq (pc := 13) 43 hx10 dX9_isOption_13 rfl H (fun H => ?_) (fun H => ?_)
    · -- 13: 43
      exact AW.sel [] rfl (hj43 _ H)
    · -- 13: 16
      refine aw_iload_n (pc := 16) dX9_isOption_16 rfl ?_
      refine jn_ind (fun (f9 : Nat → Mem → Option Rz) => ∀ (s0_31 : Nat) (m31 : Mem), R s0_31 → f9 s0_31 m31 = some r → AW l D base sc RX9 yX9_isOption cX9_isOption 4 (some FieldType.boolean) 1 0 0 ad (E mi) (pI E r) 0 0 (E m31) 31 [(1, iv p1), (3, iv p3)] [.ref s0_31]) (fun s0_31 m31 hs0_31 H => ?_) (fun j31 hj31 H => ?_) H
      · -- 31
        refine aw_iload_n (pc := 31) dX9_isOption_31 rfl ?_
        refine aw_iload_n (pc := 32) dX9_isOption_32 rfl ?_
        refine cx_callS (pc := 33) (P := pI) (dC := 0) (mcC := 0) (msC := 0) [.ref s0_31, iv p1, iv p3] (fun r1 H1 => s_X9_has l sc E R hE hR n s0_31 p1 p3 hs0_31 hp1 hp3 m31 r1 H1) ca_X9_93 rfl rfl (Nat.le_of_ble_eq_true rfl) (Nat.le_of_ble_eq_true rfl) (Nat.le_of_ble_eq_true rfl) (Nat.le_of_ble_eq_true rfl) dX9_isOption_33 H (fun x33 m33 v33 hh33 H hp => ?_)
        refine cx_backI hp (fun hx33 => ?_)
        refine cx_if_eq (pc := 36) 43 hx33 dX9_isOption_36 rfl H (fun H => ?_) (fun H => ?_)
        · -- 36: 43
          exact AW.sel [] rfl (hj43 _ H)
        · -- 36: 39
          refine cx_iconst (pc := 39) dX9_isOption_39 ?_
          refine aw_goto (pc := 40) 44 dX9_isOption_40 rfl ?_
          exact AW.sel [] rfl (hj44 _ _ (inR_lit _ rfl) H)
      refine cx_if_ne (pc := 17) 27 hp2 dX9_isOption_17 rfl H (fun H => ?_) (fun H => ?_)
      · -- 17: 20
        refine aw_aload_n (pc := 20) dX9_isOption_20 rfl ?_
        refine cx_gtC (pc := 21) 5 hE r4 fl_X9_9 rfl rfl (Nat.le_of_ble_eq_true rfl) dX9_isOption_21 ?_
        refine aw_goto (pc := 24) 31 dX9_isOption_24 rfl ?_
        exact AW.sel [1, 3] rfl (hj31 _ _ r5 H)
      · -- 17: 27
        refine aw_aload_n (pc := 27) dX9_isOption_27 rfl ?_
        refine cx_gtC (pc := 28) 6 hE r4 fl_X9_13 rfl rfl (Nat.le_of_ble_eq_true rfl) dX9_isOption_28 ?_
        exact AW.sel [1, 3] rfl (hj31 _ _ r6 H)
/-- X9 gather (I)V -/
def f_X9_gather (n : Nat) (p1 : Int) (mi : Mem) : Option Rz :=
  cal (f_J7_fill_d0a16 n 17 0 mi) fun _ m5 =>
  cal (f_X9_mark n 17 0 p1 m5) fun _ m14 =>
  lp (F := Int → Mem → Option Rz) (fun _ _ => none) (fun w19 v2_19 m19 =>
    if v2_19 < 0 then (
      rt 0 m19
    ) else
    cal (f_X9_has n 17 0 v2_19 m19) fun x29 m29 =>
    jn (fun (m59 : Mem) =>
      w19 (w32 (v2_19 + (-1))) m59
    ) fun (j59 : Mem → Option Rz) =>
    if x29 = 0 then (
      j59 m29
    ) else
    cal (f_X9_join n 17 5 v2_19 m29) fun _ m44 =>
    cal (f_X9_join n 17 6 v2_19 m44) fun _ m56 =>
    j59 m56
  ) n p1 m14
set_option maxRecDepth 100000 in
set_option maxHeartbeats 4000000 in
theorem s_X9_gather (l : Launch) (sc : g_S) (E : Mem → g_H) (R : Nat → Prop) (hE : LE E R) (hR : RYS R) (n : Nat)  (p1 : Int) (hp1 : inR p1) (mi : Mem) (r : Rz) (H : f_X9_gather n p1 mi = some r) : AMet l sc yX9_gather cX9_gather 3 none 1 0 0 [.ref 4, iv p1] (E mi) (pV E r) := by
  have r4 : R 4 := hR.1 4 (Nat.le_of_ble_eq_true rfl) (Nat.le_of_ble_eq_true rfl)
  have r5 : R 5 := hR.1 5 (Nat.le_of_ble_eq_true rfl) (Nat.le_of_ble_eq_true rfl)
  have r6 : R 6 := hR.1 6 (Nat.le_of_ble_eq_true rfl) (Nat.le_of_ble_eq_true rfl)
  have r17 : R 17 := hR.1 17 (Nat.le_of_ble_eq_true rfl) (Nat.le_of_ble_eq_true rfl)
  unfold f_X9_gather at H
  refine AMet.of (own := RX9) (by decide +kernel) rfl (Nat.le_of_ble_eq_true rfl) [(0, .ref 4), (1, iv p1)] rfl (fun D base ad => ?_)
  refine aw_aload_n (pc := 0) dX9_gather_0 rfl ?_
  refine cx_gtC (pc := 1) 17 hE r4 fl_X9_47 rfl rfl (Nat.le_of_ble_eq_true rfl) dX9_gather_1 ?_
  refine cx_lconst (pc := 4) dX9_gather_4 ?_
  refine cx_callS (pc := 5) (P := pV) (dC := 0) (mcC := 0) (msC := 0) [.ref 17, jv 0] (fun r1 H1 => s_J7_fill_d0a16 l sc E R hE n 17 0 r17 mi r1 H1) ca_X9_65 rfl rfl (Nat.le_of_ble_eq_true rfl) (Nat.le_of_ble_eq_true rfl) (Nat.le_of_ble_eq_true rfl) (Nat.le_of_ble_eq_true rfl) dX9_gather_5 H (fun x5 m5 v5 hh5 H hp => ?_)
  refine cx_backV hp ?_
  refine aw_aload_n (pc := 8) dX9_gather_8 rfl ?_
  refine cx_gtC (pc := 9) 17 hE r4 fl_X9_47 rfl rfl (Nat.le_of_ble_eq_true rfl) dX9_gather_9 ?_
  refine cx_iconst (pc := 12) dX9_gather_12 ?_
  refine aw_iload_n (pc := 13) dX9_gather_13 rfl ?_
  refine cx_callS (pc := 14) (P := pV) (dC := 0) (mcC := 0) (msC := 0) [.ref 17, iv 0, iv p1] (fun r1 H1 => s_X9_mark l sc E R hE hR n 17 0 p1 r17 (inR_lit _ rfl) hp1 m5 r1 H1) ca_X9_75 rfl rfl (Nat.le_of_ble_eq_true rfl) (Nat.le_of_ble_eq_true rfl) (Nat.le_of_ble_eq_true rfl) (Nat.le_of_ble_eq_true rfl) dX9_gather_14 H (fun x14 m14 v14 hh14 H hp => ?_)
  refine cx_backV hp ?_
  refine aw_iload_n (pc := 17) dX9_gather_17 rfl ?_
  refine aw_istore_n (pc := 18) [(2, iv p1), (0, .ref 4), (1, iv p1)] dX9_gather_18 rfl (by decide) ?_
  refine AW.sel [1, 0] rfl (lp_ind (bot := fun _ _ => none) (fun (f9 : Int → Mem → Option Rz) => ∀ (v2_19 : Int) (m19 : Mem), inR v2_19 → f9 v2_19 m19 = some r → AW l D base sc RX9 yX9_gather cX9_gather 3 none 1 0 0 ad (E mi) (pV E r) 0 0 (E m19) 19 [(0, .ref 4), (2, iv v2_19)] []) (fun _ _ _ h9 => nomatch h9) (fun w19 ih19 v2_19 m19 hv2_19 H => ?_) n _ _ hp1 H)
  refine aw_iload_n (pc := 19) dX9_gather_19 rfl ?_
  refine cx_if_lt (pc := 20) 65 hv2_19 dX9_gather_20 rfl H (fun H => ?_) (fun H => ?_)
  · -- 20: 65
    exact cx_vret (pc := 65) rfl (Nat.le_of_ble_eq_true rfl) (Nat.le_of_ble_eq_true rfl) dX9_gather_65 H
  · -- 20: 23
    refine aw_aload_n (pc := 23) dX9_gather_23 rfl ?_
    refine cx_gtC (pc := 24) 17 hE r4 fl_X9_47 rfl rfl (Nat.le_of_ble_eq_true rfl) dX9_gather_24 ?_
    refine cx_iconst (pc := 27) dX9_gather_27 ?_
    refine aw_iload_n (pc := 28) dX9_gather_28 rfl ?_
    refine cx_callS (pc := 29) (P := pI) (dC := 0) (mcC := 0) (msC := 0) [.ref 17, iv 0, iv v2_19] (fun r1 H1 => s_X9_has l sc E R hE hR n 17 0 v2_19 r17 (inR_lit _ rfl) hv2_19 m19 r1 H1) ca_X9_93 rfl rfl (Nat.le_of_ble_eq_true rfl) (Nat.le_of_ble_eq_true rfl) (Nat.le_of_ble_eq_true rfl) (Nat.le_of_ble_eq_true rfl) dX9_gather_29 H (fun x29 m29 v29 hh29 H hp => ?_)
    refine cx_backI hp (fun hx29 => ?_)
    refine jn_ind (fun (f9 : Mem → Option Rz) => ∀ (m59 : Mem), f9 m59 = some r → AW l D base sc RX9 yX9_gather cX9_gather 3 none 1 0 0 ad (E mi) (pV E r) 0 0 (E m59) 59 [(0, .ref 4), (2, iv v2_19)] []) (fun m59 H => ?_) (fun j59 hj59 H => ?_) H
    · -- 59
      refine cx_iinc (pc := 59) [(2, iv (w32 (v2_19 + (-1)))), (0, .ref 4)] dX9_gather_59 rfl rfl (by decide) ?_
      refine aw_goto (pc := 62) 19 dX9_gather_62 rfl ?_
      exact AW.sel [1, 0] rfl (ih19 _ _ (inR_w32 _) H)
    refine cx_if_eq (pc := 32) 59 hx29 dX9_gather_32 rfl H (fun H => ?_) (fun H => ?_)
    · -- 32: 59
      exact AW.sel [0, 1] rfl (hj59 _ H)
    · -- 32: 35
      refine aw_aload_n (pc := 35) dX9_gather_35 rfl ?_
      refine cx_gtC (pc := 36) 17 hE r4 fl_X9_47 rfl rfl (Nat.le_of_ble_eq_true rfl) dX9_gather_36 ?_
      refine aw_aload_n (pc := 39) dX9_gather_39 rfl ?_
      refine cx_gtC (pc := 40) 5 hE r4 fl_X9_9 rfl rfl (Nat.le_of_ble_eq_true rfl) dX9_gather_40 ?_
      refine aw_iload_n (pc := 43) dX9_gather_43 rfl ?_
      refine cx_callS (pc := 44) (P := pV) (dC := 0) (mcC := 0) (msC := 0) [.ref 17, .ref 5, iv v2_19] (fun r1 H1 => s_X9_join l sc E R hE hR n 17 5 v2_19 r17 r5 hv2_19 m29 r1 H1) ca_X9_97 rfl rfl (Nat.le_of_ble_eq_true rfl) (Nat.le_of_ble_eq_true rfl) (Nat.le_of_ble_eq_true rfl) (Nat.le_of_ble_eq_true rfl) dX9_gather_44 H (fun x44 m44 v44 hh44 H hp => ?_)
      refine cx_backV hp ?_
      refine aw_aload_n (pc := 47) dX9_gather_47 rfl ?_
      refine cx_gtC (pc := 48) 17 hE r4 fl_X9_47 rfl rfl (Nat.le_of_ble_eq_true rfl) dX9_gather_48 ?_
      refine aw_aload_n (pc := 51) dX9_gather_51 rfl ?_
      refine cx_gtC (pc := 52) 6 hE r4 fl_X9_13 rfl rfl (Nat.le_of_ble_eq_true rfl) dX9_gather_52 ?_
      refine aw_iload_n (pc := 55) dX9_gather_55 rfl ?_
      refine cx_callS (pc := 56) (P := pV) (dC := 0) (mcC := 0) (msC := 0) [.ref 17, .ref 6, iv v2_19] (fun r1 H1 => s_X9_join l sc E R hE hR n 17 6 v2_19 r17 r6 hv2_19 m44 r1 H1) ca_X9_97 rfl rfl (Nat.le_of_ble_eq_true rfl) (Nat.le_of_ble_eq_true rfl) (Nat.le_of_ble_eq_true rfl) (Nat.le_of_ble_eq_true rfl) dX9_gather_56 H (fun x56 m56 v56 hh56 H hp => ?_)
      refine cx_backV hp ?_
      exact AW.sel [0, 1] rfl (hj59 _ H)
/-- X9 followers (I[I)I -/
def f_X9_followers (n : Nat) (p1 : Int) (p2 : Nat) (mi : Mem) : Option Rz :=
  cal (f_X9_isNode n p1 mi) fun x2 m2 =>
  if x2 = 0 then (
    rt (-1) m2
  ) else
  cal (f_X9_gather n p1 m2) fun _ m12 =>
  lp (F := Int → Int → Mem → Option Rz) (fun _ _ _ => none) (fun w20 v3_20 v4_20 m20 =>
    if p1 < v4_20 then (
      rt v3_20 m20
    ) else
    cal (f_X9_has n 17 0 v4_20 m20) fun x33 m33 =>
    jn (fun (v3_55 : Int) (m55 : Mem) =>
      w20 v3_55 (w32 (v4_20 + 1)) m55
    ) fun (j55 : Int → Mem → Option Rz) =>
    if x33 = 0 then (
      j55 v3_20 m33
    ) else
    lenA m33 p2 fun x41 =>
    if v3_20 < x41 then (
      stI m33 p2 v3_20 v4_20 fun m51 =>
      j55 (w32 (v3_20 + 1)) m51
    ) else
    rt (-1) m33
  ) n 0 0 m12
set_option maxRecDepth 100000 in
set_option maxHeartbeats 4000000 in
theorem s_X9_followers (l : Launch) (sc : g_S) (E : Mem → g_H) (R : Nat → Prop) (hE : LE E R) (hR : RYS R) (n : Nat)  (p1 : Int) (p2 : Nat) (hp1 : inR p1) (hp2 : R p2) (mi : Mem) (r : Rz) (H : f_X9_followers n p1 p2 mi = some r) : AMet l sc yX9_followers cX9_followers 5 (some FieldType.int) 2 0 0 [.ref 4, iv p1, .ref p2] (E mi) (pI E r) := by
  have r4 : R 4 := hR.1 4 (Nat.le_of_ble_eq_true rfl) (Nat.le_of_ble_eq_true rfl)
  have r17 : R 17 := hR.1 17 (Nat.le_of_ble_eq_true rfl) (Nat.le_of_ble_eq_true rfl)
  unfold f_X9_followers at H
  refine AMet.of (own := RX9) (by decide +kernel) rfl (Nat.le_of_ble_eq_true rfl) [(0, .ref 4), (1, iv p1), (2, .ref p2)] rfl (fun D base ad => ?_)
  refine aw_aload_n (pc := 0) dX9_followers_0 rfl ?_
  refine aw_iload_n (pc := 1) dX9_followers_1 rfl ?_
  refine cx_callV (pc := 2) (P := pI) (dC := 0) (mcC := 0) (msC := 0) [iv p1] hE r4 (fun r1 H1 => s_X9_isNode l sc E R hE hR n p1 hp1 mi r1 H1) ca_X9_71 rfl ⟨_, rfl, rfl⟩ rfl rfl (Nat.le_of_ble_eq_true rfl) (Nat.le_of_ble_eq_true rfl) (Nat.le_of_ble_eq_true rfl) (Nat.le_of_ble_eq_true rfl) dX9_followers_2 H (fun x2 m2 v2 hh2 H hp => ?_)
  refine cx_backI hp (fun hx2 => ?_)
  refine cx_if_ne (pc := 5) 10 hx2 dX9_followers_5 rfl H (fun H => ?_) (fun H => ?_)
  · -- 5: 8
    refine cx_iconst (pc := 8) dX9_followers_8 ?_
    exact cx_iret (pc := 9) (inR_lit _ rfl) rfl (Nat.le_of_ble_eq_true rfl) (Nat.le_of_ble_eq_true rfl) dX9_followers_9 H
  · -- 5: 10
    refine aw_aload_n (pc := 10) dX9_followers_10 rfl ?_
    refine aw_iload_n (pc := 11) dX9_followers_11 rfl ?_
    refine cx_callV (pc := 12) (P := pV) (dC := 1) (mcC := 0) (msC := 0) [iv p1] hE r4 (fun r1 H1 => s_X9_gather l sc E R hE hR n p1 hp1 m2 r1 H1) ca_X9_115 rfl ⟨_, rfl, rfl⟩ rfl rfl (Nat.le_of_ble_eq_true rfl) (Nat.le_of_ble_eq_true rfl) (Nat.le_of_ble_eq_true rfl) (Nat.le_of_ble_eq_true rfl) dX9_followers_12 H (fun x12 m12 v12 hh12 H hp => ?_)
    refine cx_backV hp ?_
    refine cx_iconst (pc := 15) dX9_followers_15 ?_
    refine aw_istore_n (pc := 16) [(3, iv 0), (0, .ref 4), (1, iv p1), (2, .ref p2)] dX9_followers_16 rfl (by decide) ?_
    refine cx_iconst (pc := 17) dX9_followers_17 ?_
    refine aw_istore (pc := 18) [(4, iv 0), (3, iv 0), (0, .ref 4), (1, iv p1), (2, .ref p2)] dX9_followers_18 rfl (by decide) ?_
    refine AW.sel [2, 3, 4, 1, 0] rfl (lp_ind (bot := fun _ _ _ => none) (fun (f9 : Int → Int → Mem → Option Rz) => ∀ (v3_20 : Int) (v4_20 : Int) (m20 : Mem), inR v3_20 → inR v4_20 → f9 v3_20 v4_20 m20 = some r → AW l D base sc RX9 yX9_followers cX9_followers 5 (some FieldType.int) 2 0 0 ad (E mi) (pI E r) 0 0 (E m20) 20 [(0, .ref 4), (1, iv p1), (2, .ref p2), (3, iv v3_20), (4, iv v4_20)] []) (fun _ _ _ _ _ h9 => nomatch h9) (fun w20 ih20 v3_20 v4_20 m20 hv3_20 hv4_20 H => ?_) n _ _ _ (inR_lit _ rfl) (inR_lit _ rfl) H)
    refine aw_iload (pc := 20) dX9_followers_20 rfl ?_
    refine aw_iload_n (pc := 22) dX9_followers_22 rfl ?_
    refine cx_icmp_gt (pc := 23) 61 hv4_20 hp1 dX9_followers_23 rfl H (fun H => ?_) (fun H => ?_)
    · -- 23: 61
      refine aw_iload_n (pc := 61) dX9_followers_61 rfl ?_
      exact cx_iret (pc := 62) hv3_20 rfl (Nat.le_of_ble_eq_true rfl) (Nat.le_of_ble_eq_true rfl) dX9_followers_62 H
    · -- 23: 26
      refine aw_aload_n (pc := 26) dX9_followers_26 rfl ?_
      refine cx_gtC (pc := 27) 17 hE r4 fl_X9_47 rfl rfl (Nat.le_of_ble_eq_true rfl) dX9_followers_27 ?_
      refine cx_iconst (pc := 30) dX9_followers_30 ?_
      refine aw_iload (pc := 31) dX9_followers_31 rfl ?_
      refine cx_callS (pc := 33) (P := pI) (dC := 0) (mcC := 0) (msC := 0) [.ref 17, iv 0, iv v4_20] (fun r1 H1 => s_X9_has l sc E R hE hR n 17 0 v4_20 r17 (inR_lit _ rfl) hv4_20 m20 r1 H1) ca_X9_93 rfl rfl (Nat.le_of_ble_eq_true rfl) (Nat.le_of_ble_eq_true rfl) (Nat.le_of_ble_eq_true rfl) (Nat.le_of_ble_eq_true rfl) dX9_followers_33 H (fun x33 m33 v33 hh33 H hp => ?_)
      refine cx_backI hp (fun hx33 => ?_)
      refine jn_ind (fun (f9 : Int → Mem → Option Rz) => ∀ (v3_55 : Int) (m55 : Mem), inR v3_55 → f9 v3_55 m55 = some r → AW l D base sc RX9 yX9_followers cX9_followers 5 (some FieldType.int) 2 0 0 ad (E mi) (pI E r) 0 0 (E m55) 55 [(0, .ref 4), (1, iv p1), (2, .ref p2), (3, iv v3_55), (4, iv v4_20)] []) (fun v3_55 m55 hv3_55 H => ?_) (fun j55 hj55 H => ?_) H
      · -- 55
        refine cx_iinc (pc := 55) [(4, iv (w32 (v4_20 + 1))), (0, .ref 4), (1, iv p1), (2, .ref p2), (3, iv v3_55)] dX9_followers_55 rfl rfl (by decide) ?_
        refine aw_goto (pc := 58) 20 dX9_followers_58 rfl ?_
        exact AW.sel [1, 2, 3, 4, 0] rfl (ih20 _ _ _ hv3_55 (inR_w32 _) H)
      refine cx_if_eq (pc := 36) 55 hx33 dX9_followers_36 rfl H (fun H => ?_) (fun H => ?_)
      · -- 36: 55
        exact AW.sel [0, 1, 2, 3, 4] rfl (hj55 _ _ hv3_20 H)
      · -- 36: 39
        refine aw_iload_n (pc := 39) dX9_followers_39 rfl ?_
        refine aw_aload_n (pc := 40) dX9_followers_40 rfl ?_
        refine cx_lenA (pc := 41) hE hp2 dX9_followers_41 H (fun x41 hx41 H => ?_)
        refine cx_icmp_lt (pc := 42) 47 hv3_20 hx41 dX9_followers_42 rfl H (fun H => ?_) (fun H => ?_)
        · -- 42: 47
          refine aw_aload_n (pc := 47) dX9_followers_47 rfl ?_
          refine aw_iload_n (pc := 48) dX9_followers_48 rfl ?_
          refine aw_iload (pc := 49) dX9_followers_49 rfl ?_
          refine cx_stI (pc := 51) hE hp2 hv3_20 dX9_followers_51 H (fun m51 H => ?_)
          refine cx_iinc (pc := 52) [(3, iv (w32 (v3_20 + 1))), (0, .ref 4), (1, iv p1), (2, .ref p2), (4, iv v4_20)] dX9_followers_52 rfl rfl (by decide) ?_
          exact AW.sel [1, 2, 3, 0, 4] rfl (hj55 _ _ (inR_w32 _) H)
        · -- 42: 45
          refine cx_iconst (pc := 45) dX9_followers_45 ?_
          exact cx_iret (pc := 46) (inR_lit _ rfl) rfl (Nat.le_of_ble_eq_true rfl) (Nat.le_of_ble_eq_true rfl) dX9_followers_46 H
/-- X9 clear ()V -/
def f_X9_clear (n : Nat)  (mi : Mem) : Option Rz :=
  ptF mi 4 13 0 fun m2 =>
  cal (f_X9_begin n m2) fun _ m6 =>
  cal (f_X9_end n m6) fun x10 m10 =>
  rt 0 m10
set_option maxRecDepth 100000 in
set_option maxHeartbeats 4000000 in
theorem s_X9_clear (l : Launch) (sc : g_S) (E : Mem → g_H) (R : Nat → Prop) (hE : LE E R) (hR : RYS R) (n : Nat)    (mi : Mem) (r : Rz) (H : f_X9_clear n  mi = some r) : AMet l sc yX9_clear cX9_clear 1 none 3 0 0 [.ref 4] (E mi) (pV E r) := by
  have r4 : R 4 := hR.1 4 (Nat.le_of_ble_eq_true rfl) (Nat.le_of_ble_eq_true rfl)
  unfold f_X9_clear at H
  refine AMet.of (own := RX9) (by decide +kernel) rfl (Nat.le_of_ble_eq_true rfl) [(0, .ref 4)] rfl (fun D base ad => ?_)
  refine aw_aload_n (pc := 0) dX9_clear_0 rfl ?_
  refine cx_iconst (pc := 1) dX9_clear_1 ?_
  refine cx_ptF (pc := 2) tyX9 hE r4 fl_X9_50 (fun r h => ⟨gty_X9 r h, by cases h; rfl⟩) rfl rfl rfl (Nat.le_of_ble_eq_true rfl) dX9_clear_2 H (fun m2 H => ?_)
  refine aw_aload_n (pc := 5) dX9_clear_5 rfl ?_
  refine cx_callV (pc := 6) (P := pV) (dC := 1) (mcC := 0) (msC := 0) [] hE r4 (fun r1 H1 => s_X9_begin l sc E R hE hR n m2 r1 H1) ca_X9_54 rfl ⟨_, rfl, rfl⟩ rfl rfl (Nat.le_of_ble_eq_true rfl) (Nat.le_of_ble_eq_true rfl) (Nat.le_of_ble_eq_true rfl) (Nat.le_of_ble_eq_true rfl) dX9_clear_6 H (fun x6 m6 v6 hh6 H hp => ?_)
  refine cx_backV hp ?_
  refine aw_aload_n (pc := 9) dX9_clear_9 rfl ?_
  refine cx_callV (pc := 10) (P := pI) (dC := 2) (mcC := 0) (msC := 0) [] hE r4 (fun r1 H1 => s_X9_end l sc E R hE hR n m6 r1 H1) ca_X9_57 rfl ⟨_, rfl, rfl⟩ rfl rfl (Nat.le_of_ble_eq_true rfl) (Nat.le_of_ble_eq_true rfl) (Nat.le_of_ble_eq_true rfl) (Nat.le_of_ble_eq_true rfl) dX9_clear_10 H (fun x10 m10 v10 hh10 H hp => ?_)
  refine cx_backI hp (fun hx10 => ?_)
  refine aw_pop (pc := 13) dX9_clear_13 rfl ?_
  exact cx_vret (pc := 14) rfl (Nat.le_of_ble_eq_true rfl) (Nat.le_of_ble_eq_true rfl) dX9_clear_14 H
/-- X9 isAtMost (II)Z -/
def f_X9_isAtMost (n : Nat) (p1 : Int) (p2 : Int) (mi : Mem) : Option Rz :=
  cal (f_X9_isNode n p1 mi) fun x2 m2 =>
  jn (fun (s0_33 : Int) (m33 : Mem) =>
    rtZ s0_33 m33
  ) fun (j33 : Int → Mem → Option Rz) =>
  jn (fun (m32 : Mem) =>
    j33 0 m32
  ) fun (j32 : Mem → Option Rz) =>
  if x2 = 0 then (
    j32 m2
  ) else
  cal (f_X9_isNode n p2 m2) fun x10 m10 =>
  if x10 = 0 then (
    j32 m10
  ) else
  cal (f_X9_has n 7 p1 p2 m10) fun x22 m22 =>
  if x22 = 0 then (
    j32 m22
  ) else
  j33 1 m22
set_option maxRecDepth 100000 in
set_option maxHeartbeats 4000000 in
theorem s_X9_isAtMost (l : Launch) (sc : g_S) (E : Mem → g_H) (R : Nat → Prop) (hE : LE E R) (hR : RYS R) (n : Nat)  (p1 : Int) (p2 : Int) (hp1 : inR p1) (hp2 : inR p2) (mi : Mem) (r : Rz) (H : f_X9_isAtMost n p1 p2 mi = some r) : AMet l sc yX9_isAtMost cX9_isAtMost 3 (some FieldType.boolean) 1 0 0 [.ref 4, iv p1, iv p2] (E mi) (pI E r) := by
  have r4 : R 4 := hR.1 4 (Nat.le_of_ble_eq_true rfl) (Nat.le_of_ble_eq_true rfl)
  have r7 : R 7 := hR.1 7 (Nat.le_of_ble_eq_true rfl) (Nat.le_of_ble_eq_true rfl)
  unfold f_X9_isAtMost at H
  refine AMet.of (own := RX9) (by decide +kernel) rfl (Nat.le_of_ble_eq_true rfl) [(0, .ref 4), (1, iv p1), (2, iv p2)] rfl (fun D base ad => ?_)
  refine aw_aload_n (pc := 0) dX9_isAtMost_0 rfl ?_
  refine aw_iload_n (pc := 1) dX9_isAtMost_1 rfl ?_
  refine cx_callV (pc := 2) (P := pI) (dC := 0) (mcC := 0) (msC := 0) [iv p1] hE r4 (fun r1 H1 => s_X9_isNode l sc E R hE hR n p1 hp1 mi r1 H1) ca_X9_71 rfl ⟨_, rfl, rfl⟩ rfl rfl (Nat.le_of_ble_eq_true rfl) (Nat.le_of_ble_eq_true rfl) (Nat.le_of_ble_eq_true rfl) (Nat.le_of_ble_eq_true rfl) dX9_isAtMost_2 H (fun x2 m2 v2 hh2 H hp => ?_)
  refine cx_backI hp (fun hx2 => ?_)
  refine jn_ind (fun (f9 : Int → Mem → Option Rz) => ∀ (s0_33 : Int) (m33 : Mem), inR s0_33 → f9 s0_33 m33 = some r → AW l D base sc RX9 yX9_isAtMost cX9_isAtMost 3 (some FieldType.boolean) 1 0 0 ad (E mi) (pI E r) 0 0 (E m33) 33 [] [iv s0_33]) (fun s0_33 m33 hs0_33 H => ?_) (fun j33 hj33 H => ?_) H
  · -- 33
    exact cx_zret (pc := 33) rfl (Nat.le_of_ble_eq_true rfl) (Nat.le_of_ble_eq_true rfl) dX9_isAtMost_33 H
  refine jn_ind (fun (f9 : Mem → Option Rz) => ∀ (m32 : Mem), f9 m32 = some r → AW l D base sc RX9 yX9_isAtMost cX9_isAtMost 3 (some FieldType.boolean) 1 0 0 ad (E mi) (pI E r) 0 0 (E m32) 32 [] []) (fun m32 H => ?_) (fun j32 hj32 H => ?_) H
  · -- 32
    refine cx_iconst (pc := 32) dX9_isAtMost_32 ?_
    exact AW.sel [] rfl (hj33 _ _ (inR_lit _ rfl) H)
  refine cx_if_eq (pc := 5) 32 hx2 dX9_isAtMost_5 rfl H (fun H => ?_) (fun H => ?_)
  · -- 5: 32
    exact AW.sel [] rfl (hj32 _ H)
  · -- 5: 8
    refine aw_aload_n (pc := 8) dX9_isAtMost_8 rfl ?_
    refine aw_iload_n (pc := 9) dX9_isAtMost_9 rfl ?_
    refine cx_callV (pc := 10) (P := pI) (dC := 0) (mcC := 0) (msC := 0) [iv p2] hE r4 (fun r1 H1 => s_X9_isNode l sc E R hE hR n p2 hp2 m2 r1 H1) ca_X9_71 rfl ⟨_, rfl, rfl⟩ rfl rfl (Nat.le_of_ble_eq_true rfl) (Nat.le_of_ble_eq_true rfl) (Nat.le_of_ble_eq_true rfl) (Nat.le_of_ble_eq_true rfl) dX9_isAtMost_10 H (fun x10 m10 v10 hh10 H hp => ?_)
    refine cx_backI hp (fun hx10 => ?_)
    refine cx_if_eq (pc := 13) 32 hx10 dX9_isAtMost_13 rfl H (fun H => ?_) (fun H => ?_)
    · -- 13: 32
      exact AW.sel [] rfl (hj32 _ H)
    · -- 13: 16
      refine aw_aload_n (pc := 16) dX9_isAtMost_16 rfl ?_
      refine cx_gtC (pc := 17) 7 hE r4 fl_X9_16 rfl rfl (Nat.le_of_ble_eq_true rfl) dX9_isAtMost_17 ?_
      refine aw_iload_n (pc := 20) dX9_isAtMost_20 rfl ?_
      refine aw_iload_n (pc := 21) dX9_isAtMost_21 rfl ?_
      refine cx_callS (pc := 22) (P := pI) (dC := 0) (mcC := 0) (msC := 0) [.ref 7, iv p1, iv p2] (fun r1 H1 => s_X9_has l sc E R hE hR n 7 p1 p2 r7 hp1 hp2 m10 r1 H1) ca_X9_93 rfl rfl (Nat.le_of_ble_eq_true rfl) (Nat.le_of_ble_eq_true rfl) (Nat.le_of_ble_eq_true rfl) (Nat.le_of_ble_eq_true rfl) dX9_isAtMost_22 H (fun x22 m22 v22 hh22 H hp => ?_)
      refine cx_backI hp (fun hx22 => ?_)
      refine cx_if_eq (pc := 25) 32 hx22 dX9_isAtMost_25 rfl H (fun H => ?_) (fun H => ?_)
      · -- 25: 32
        exact AW.sel [] rfl (hj32 _ H)
      · -- 25: 28
        refine cx_iconst (pc := 28) dX9_isAtMost_28 ?_
        refine aw_goto (pc := 29) 33 dX9_isAtMost_29 rfl ?_
        exact AW.sel [] rfl (hj33 _ _ (inR_lit _ rfl) H)
/-- X9 beginWith (JJ)V -/
def f_X9_beginWith (n : Nat) (p1 : Nat) (p3 : Nat) (mi : Mem) : Option Rz :=
  cal (f_X9_begin n mi) fun _ m1 =>
  stJ m1 11 0 p1 fun m10 =>
  stJ m10 12 0 p3 fun m17 =>
  rt 0 m17
set_option maxRecDepth 100000 in
set_option maxHeartbeats 4000000 in
theorem s_X9_beginWith (l : Launch) (sc : g_S) (E : Mem → g_H) (R : Nat → Prop) (hE : LE E R) (hR : RYS R) (n : Nat)  (p1 : Nat) (p3 : Nat)  (mi : Mem) (r : Rz) (H : f_X9_beginWith n p1 p3 mi = some r) : AMet l sc yX9_beginWith cX9_beginWith 5 none 2 0 0 [.ref 4, jv p1, jv p3] (E mi) (pV E r) := by
  have r4 : R 4 := hR.1 4 (Nat.le_of_ble_eq_true rfl) (Nat.le_of_ble_eq_true rfl)
  have r11 : R 11 := hR.1 11 (Nat.le_of_ble_eq_true rfl) (Nat.le_of_ble_eq_true rfl)
  have r12 : R 12 := hR.1 12 (Nat.le_of_ble_eq_true rfl) (Nat.le_of_ble_eq_true rfl)
  unfold f_X9_beginWith at H
  refine AMet.of (own := RX9) (by decide +kernel) rfl (Nat.le_of_ble_eq_true rfl) [(0, .ref 4), (1, jv p1), (3, jv p3)] rfl (fun D base ad => ?_)
  refine aw_aload_n (pc := 0) dX9_beginWith_0 rfl ?_
  refine cx_callV (pc := 1) (P := pV) (dC := 1) (mcC := 0) (msC := 0) [] hE r4 (fun r1 H1 => s_X9_begin l sc E R hE hR n mi r1 H1) ca_X9_54 rfl ⟨_, rfl, rfl⟩ rfl rfl (Nat.le_of_ble_eq_true rfl) (Nat.le_of_ble_eq_true rfl) (Nat.le_of_ble_eq_true rfl) (Nat.le_of_ble_eq_true rfl) dX9_beginWith_1 H (fun x1 m1 v1 hh1 H hp => ?_)
  refine cx_backV hp ?_
  refine aw_aload_n (pc := 4) dX9_beginWith_4 rfl ?_
  refine cx_gtC (pc := 5) 11 hE r4 fl_X9_29 rfl rfl (Nat.le_of_ble_eq_true rfl) dX9_beginWith_5 ?_
  refine cx_iconst (pc := 8) dX9_beginWith_8 ?_
  refine aw_lload_n (pc := 9) dX9_beginWith_9 rfl ?_
  refine cx_stJ (pc := 10) hE r11 (inR_lit _ rfl) dX9_beginWith_10 H (fun m10 H => ?_)
  refine aw_aload_n (pc := 11) dX9_beginWith_11 rfl ?_
  refine cx_gtC (pc := 12) 12 hE r4 fl_X9_32 rfl rfl (Nat.le_of_ble_eq_true rfl) dX9_beginWith_12 ?_
  refine cx_iconst (pc := 15) dX9_beginWith_15 ?_
  refine aw_lload_n (pc := 16) dX9_beginWith_16 rfl ?_
  refine cx_stJ (pc := 17) hE r12 (inR_lit _ rfl) dX9_beginWith_17 H (fun m17 H => ?_)
  exact cx_vret (pc := 18) rfl (Nat.le_of_ble_eq_true rfl) (Nat.le_of_ble_eq_true rfl) dX9_beginWith_18 H
/-- X9 shifted (IZ)I -/
def f_X9_shifted (n : Nat) (p1 : Int) (p2 : Int) (mi : Mem) : Option Rz :=
  cal (f_X9_isNode n p1 mi) fun x2 m2 =>
  if x2 = 0 then (
    rt (-1) m2
  ) else
  cal (f_X9_gather n p1 m2) fun _ m12 =>
  jn (fun (s0_30 : Nat) (m30 : Mem) =>
    lp (F := Int → Mem → Option Rz) (fun _ _ => none) (fun w34 v4_34 m34 =>
      jn (fun (m166 : Mem) =>
        lenA m166 s0_30 fun x168 =>
        jn (fun (s0_179 : Int) (m179 : Mem) =>
          rt s0_179 m179
        ) fun (j179 : Int → Mem → Option Rz) =>
        if p1 < x168 then (
          ldI m166 s0_30 p1 fun x174 =>
          j179 x174 m166
        ) else
        j179 (-1) m166
      ) fun (j166 : Mem → Option Rz) =>
      if p1 < v4_34 then (
        j166 m34
      ) else
      lenA m34 s0_30 fun x43 =>
      if v4_34 < x43 then (
        cal (f_X9_has n 17 0 v4_34 m34) fun x54 m54 =>
        jn (fun (m160 : Mem) =>
          w34 (w32 (v4_34 + 1)) m160
        ) fun (j160 : Mem → Option Rz) =>
        if x54 = 0 then (
          j160 m54
        ) else
        ldI m54 s0_30 v4_34 fun x63 =>
        if x63 < 0 then (
          cal (f_X9_begin n m54) fun _ m68 =>
          jn (fun (s0_86 : Nat) (m86 : Mem) =>
            cal (f_X9_mark n s0_86 0 v4_34 m86) fun _ m89 =>
            lp (F := Int → Mem → Option Rz) (fun _ _ => none) (fun w95 v5_95 m95 =>
              if v5_95 < v4_34 then (
                cal (f_X9_has n 5 v4_34 v5_95 m95) fun x110 m110 =>
                jn (fun (m124 : Mem) =>
                  cal (f_X9_has n 6 v4_34 v5_95 m124) fun x132 m132 =>
                  jn (fun (m146 : Mem) =>
                    w95 (w32 (v5_95 + 1)) m146
                  ) fun (j146 : Mem → Option Rz) =>
                  if x132 = 0 then (
                    j146 m132
                  ) else
                  ldI m132 s0_30 v5_95 fun x142 =>
                  cal (f_X9_addRight n x142 m132) fun _ m143 =>
                  j146 m143
                ) fun (j124 : Mem → Option Rz) =>
                if x110 = 0 then (
                  j124 m110
                ) else
                ldI m110 s0_30 v5_95 fun x120 =>
                cal (f_X9_addLeft n x120 m110) fun _ m121 =>
                j124 m121
              ) else
              cal (f_X9_end n m95) fun x156 m156 =>
              stI m156 s0_30 v4_34 x156 fun m159 =>
              j160 m159
            ) n 0 m89
          ) fun (j86 : Nat → Mem → Option Rz) =>
          if p2 = 0 then (
            j86 12 m68
          ) else
          j86 11 m68
        ) else
        j160 m54
      ) else
      j166 m34
    ) n 0 m30
  ) fun (j30 : Nat → Mem → Option Rz) =>
  if p2 = 0 then (
    j30 10 m12
  ) else
  j30 9 m12
set_option maxRecDepth 100000 in
set_option maxHeartbeats 4000000 in
theorem s_X9_shifted (l : Launch) (sc : g_S) (E : Mem → g_H) (R : Nat → Prop) (hE : LE E R) (hR : RYS R) (n : Nat)  (p1 : Int) (p2 : Int) (hp1 : inR p1) (hp2 : inR p2) (mi : Mem) (r : Rz) (H : f_X9_shifted n p1 p2 mi = some r) : AMet l sc yX9_shifted cX9_shifted 6 (some FieldType.int) 3 0 0 [.ref 4, iv p1, iv p2] (E mi) (pI E r) := by
  have r4 : R 4 := hR.1 4 (Nat.le_of_ble_eq_true rfl) (Nat.le_of_ble_eq_true rfl)
  have r5 : R 5 := hR.1 5 (Nat.le_of_ble_eq_true rfl) (Nat.le_of_ble_eq_true rfl)
  have r6 : R 6 := hR.1 6 (Nat.le_of_ble_eq_true rfl) (Nat.le_of_ble_eq_true rfl)
  have r9 : R 9 := hR.1 9 (Nat.le_of_ble_eq_true rfl) (Nat.le_of_ble_eq_true rfl)
  have r10 : R 10 := hR.1 10 (Nat.le_of_ble_eq_true rfl) (Nat.le_of_ble_eq_true rfl)
  have r11 : R 11 := hR.1 11 (Nat.le_of_ble_eq_true rfl) (Nat.le_of_ble_eq_true rfl)
  have r12 : R 12 := hR.1 12 (Nat.le_of_ble_eq_true rfl) (Nat.le_of_ble_eq_true rfl)
  have r17 : R 17 := hR.1 17 (Nat.le_of_ble_eq_true rfl) (Nat.le_of_ble_eq_true rfl)
  unfold f_X9_shifted at H
  refine AMet.of (own := RX9) (by decide +kernel) rfl (Nat.le_of_ble_eq_true rfl) [(0, .ref 4), (1, iv p1), (2, iv p2)] rfl (fun D base ad => ?_)
  refine aw_aload_n (pc := 0) dX9_shifted_0 rfl ?_
  refine aw_iload_n (pc := 1) dX9_shifted_1 rfl ?_
  refine cx_callV (pc := 2) (P := pI) (dC := 0) (mcC := 0) (msC := 0) [iv p1] hE r4 (fun r1 H1 => s_X9_isNode l sc E R hE hR n p1 hp1 mi r1 H1) ca_X9_71 rfl ⟨_, rfl, rfl⟩ rfl rfl (Nat.le_of_ble_eq_true rfl) (Nat.le_of_ble_eq_true rfl) (Nat.le_of_ble_eq_true rfl) (Nat.le_of_ble_eq_true rfl) dX9_shifted_2 H (fun x2 m2 v2 hh2 H hp => ?_)
  refine cx_backI hp (fun hx2 => ?_)
  refine cx_if_ne (pc := 5) 10 hx2 dX9_shifted_5 rfl H (fun H => ?_) (fun H => ?_)
  · -- 5: 8
    refine cx_iconst (pc := 8) dX9_shifted_8 ?_
    exact cx_iret (pc := 9) (inR_lit _ rfl) rfl (Nat.le_of_ble_eq_true rfl) (Nat.le_of_ble_eq_true rfl) dX9_shifted_9 H
  · -- 5: 10
    refine aw_aload_n (pc := 10) dX9_shifted_10 rfl ?_
    refine aw_iload_n (pc := 11) dX9_shifted_11 rfl ?_
    refine cx_callV (pc := 12) (P := pV) (dC := 1) (mcC := 0) (msC := 0) [iv p1] hE r4 (fun r1 H1 => s_X9_gather l sc E R hE hR n p1 hp1 m2 r1 H1) ca_X9_115 rfl ⟨_, rfl, rfl⟩ rfl rfl (Nat.le_of_ble_eq_true rfl) (Nat.le_of_ble_eq_true rfl) (Nat.le_of_ble_eq_true rfl) (Nat.le_of_ble_eq_true rfl) dX9_shifted_12 H (fun x12 m12 v12 hh12 H hp => ?_)
    refine cx_backV hp ?_
    refine aw_iload_n (pc := 15) dX9_shifted_15 rfl ?_
    refine jn_ind (fun (f9 : Nat → Mem → Option Rz) => ∀ (s0_30 : Nat) (m30 : Mem), R s0_30 → f9 s0_30 m30 = some r → AW l D base sc RX9 yX9_shifted cX9_shifted 6 (some FieldType.int) 3 0 0 ad (E mi) (pI E r) 0 0 (E m30) 30 [(0, .ref 4), (1, iv p1), (2, iv p2)] [.ref s0_30]) (fun s0_30 m30 hs0_30 H => ?_) (fun j30 hj30 H => ?_) H
    · -- 30
      refine aw_astore_n (pc := 30) [(3, .ref s0_30), (0, .ref 4), (1, iv p1), (2, iv p2)] dX9_shifted_30 rfl (by decide) ?_
      refine cx_iconst (pc := 31) dX9_shifted_31 ?_
      refine aw_istore (pc := 32) [(4, iv 0), (3, .ref s0_30), (0, .ref 4), (1, iv p1), (2, iv p2)] dX9_shifted_32 rfl (by decide) ?_
      refine AW.sel [2, 3, 4, 1, 0] rfl (lp_ind (bot := fun _ _ => none) (fun (f9 : Int → Mem → Option Rz) => ∀ (v4_34 : Int) (m34 : Mem), inR v4_34 → f9 v4_34 m34 = some r → AW l D base sc RX9 yX9_shifted cX9_shifted 6 (some FieldType.int) 3 0 0 ad (E mi) (pI E r) 0 0 (E m34) 34 [(0, .ref 4), (1, iv p1), (2, iv p2), (3, .ref s0_30), (4, iv v4_34)] []) (fun _ _ _ h9 => nomatch h9) (fun w34 ih34 v4_34 m34 hv4_34 H => ?_) n _ _ (inR_lit _ rfl) H)
      refine aw_iload (pc := 34) dX9_shifted_34 rfl ?_
      refine aw_iload_n (pc := 36) dX9_shifted_36 rfl ?_
      refine jn_ind (fun (f9 : Mem → Option Rz) => ∀ (m166 : Mem), f9 m166 = some r → AW l D base sc RX9 yX9_shifted cX9_shifted 6 (some FieldType.int) 3 0 0 ad (E mi) (pI E r) 0 0 (E m166) 166 [(1, iv p1), (3, .ref s0_30)] []) (fun m166 H => ?_) (fun j166 hj166 H => ?_) H
      · -- 166
        refine aw_iload_n (pc := 166) dX9_shifted_166 rfl ?_
        refine aw_aload_n (pc := 167) dX9_shifted_167 rfl ?_
        refine cx_lenA (pc := 168) hE hs0_30 dX9_shifted_168 H (fun x168 hx168 H => ?_)
        refine jn_ind (fun (f9 : Int → Mem → Option Rz) => ∀ (s0_179 : Int) (m179 : Mem), inR s0_179 → f9 s0_179 m179 = some r → AW l D base sc RX9 yX9_shifted cX9_shifted 6 (some FieldType.int) 3 0 0 ad (E mi) (pI E r) 0 0 (E m179) 179 [] [iv s0_179]) (fun s0_179 m179 hs0_179 H => ?_) (fun j179 hj179 H => ?_) H
        · -- 179
          exact cx_iret (pc := 179) hs0_179 rfl (Nat.le_of_ble_eq_true rfl) (Nat.le_of_ble_eq_true rfl) dX9_shifted_179 H
        refine cx_icmp_ge (pc := 169) 178 hp1 hx168 dX9_shifted_169 rfl H (fun H => ?_) (fun H => ?_)
        · -- 169: 172
          refine aw_aload_n (pc := 172) dX9_shifted_172 rfl ?_
          refine aw_iload_n (pc := 173) dX9_shifted_173 rfl ?_
          refine cx_ldI (pc := 174) hE hs0_30 hp1 dX9_shifted_174 H (fun x174 hx174 H => ?_)
          refine aw_goto (pc := 175) 179 dX9_shifted_175 rfl ?_
          exact AW.sel [] rfl (hj179 _ _ hx174 H)
        · -- 169: 178
          refine cx_iconst (pc := 178) dX9_shifted_178 ?_
          exact AW.sel [] rfl (hj179 _ _ (inR_lit _ rfl) H)
      refine cx_icmp_gt (pc := 37) 166 hv4_34 hp1 dX9_shifted_37 rfl H (fun H => ?_) (fun H => ?_)
      · -- 37: 166
        exact AW.sel [1, 3] rfl (hj166 _ H)
      · -- 37: 40
        refine aw_iload (pc := 40) dX9_shifted_40 rfl ?_
        refine aw_aload_n (pc := 42) dX9_shifted_42 rfl ?_
        refine cx_lenA (pc := 43) hE hs0_30 dX9_shifted_43 H (fun x43 hx43 H => ?_)
        refine cx_icmp_ge (pc := 44) 166 hv4_34 hx43 dX9_shifted_44 rfl H (fun H => ?_) (fun H => ?_)
        · -- 44: 47
          refine aw_aload_n (pc := 47) dX9_shifted_47 rfl ?_
          refine cx_gtC (pc := 48) 17 hE r4 fl_X9_47 rfl rfl (Nat.le_of_ble_eq_true rfl) dX9_shifted_48 ?_
          refine cx_iconst (pc := 51) dX9_shifted_51 ?_
          refine aw_iload (pc := 52) dX9_shifted_52 rfl ?_
          refine cx_callS (pc := 54) (P := pI) (dC := 0) (mcC := 0) (msC := 0) [.ref 17, iv 0, iv v4_34] (fun r1 H1 => s_X9_has l sc E R hE hR n 17 0 v4_34 r17 (inR_lit _ rfl) hv4_34 m34 r1 H1) ca_X9_93 rfl rfl (Nat.le_of_ble_eq_true rfl) (Nat.le_of_ble_eq_true rfl) (Nat.le_of_ble_eq_true rfl) (Nat.le_of_ble_eq_true rfl) dX9_shifted_54 H (fun x54 m54 v54 hh54 H hp => ?_)
          refine cx_backI hp (fun hx54 => ?_)
          refine jn_ind (fun (f9 : Mem → Option Rz) => ∀ (m160 : Mem), f9 m160 = some r → AW l D base sc RX9 yX9_shifted cX9_shifted 6 (some FieldType.int) 3 0 0 ad (E mi) (pI E r) 0 0 (E m160) 160 [(0, .ref 4), (1, iv p1), (2, iv p2), (3, .ref s0_30), (4, iv v4_34)] []) (fun m160 H => ?_) (fun j160 hj160 H => ?_) H
          · -- 160
            refine cx_iinc (pc := 160) [(4, iv (w32 (v4_34 + 1))), (0, .ref 4), (1, iv p1), (2, iv p2), (3, .ref s0_30)] dX9_shifted_160 rfl rfl (by decide) ?_
            refine aw_goto (pc := 163) 34 dX9_shifted_163 rfl ?_
            exact AW.sel [1, 2, 3, 4, 0] rfl (ih34 _ _ (inR_w32 _) H)
          refine cx_if_eq (pc := 57) 160 hx54 dX9_shifted_57 rfl H (fun H => ?_) (fun H => ?_)
          · -- 57: 160
            exact AW.sel [0, 1, 2, 3, 4] rfl (hj160 _ H)
          · -- 57: 60
            refine aw_aload_n (pc := 60) dX9_shifted_60 rfl ?_
            refine aw_iload (pc := 61) dX9_shifted_61 rfl ?_
            refine cx_ldI (pc := 63) hE hs0_30 hv4_34 dX9_shifted_63 H (fun x63 hx63 H => ?_)
            refine cx_if_ge (pc := 64) 160 hx63 dX9_shifted_64 rfl H (fun H => ?_) (fun H => ?_)
            · -- 64: 67
              refine aw_aload_n (pc := 67) dX9_shifted_67 rfl ?_
              refine cx_callV (pc := 68) (P := pV) (dC := 1) (mcC := 0) (msC := 0) [] hE r4 (fun r1 H1 => s_X9_begin l sc E R hE hR n m54 r1 H1) ca_X9_54 rfl ⟨_, rfl, rfl⟩ rfl rfl (Nat.le_of_ble_eq_true rfl) (Nat.le_of_ble_eq_true rfl) (Nat.le_of_ble_eq_true rfl) (Nat.le_of_ble_eq_true rfl) dX9_shifted_68 H (fun x68 m68 v68 hh68 H hp => ?_)
              refine cx_backV hp ?_
              refine aw_iload_n (pc := 71) dX9_shifted_71 rfl ?_
              refine jn_ind (fun (f9 : Nat → Mem → Option Rz) => ∀ (s0_86 : Nat) (m86 : Mem), R s0_86 → f9 s0_86 m86 = some r → AW l D base sc RX9 yX9_shifted cX9_shifted 6 (some FieldType.int) 3 0 0 ad (E mi) (pI E r) 0 0 (E m86) 86 [(0, .ref 4), (1, iv p1), (2, iv p2), (3, .ref s0_30), (4, iv v4_34)] [.ref s0_86]) (fun s0_86 m86 hs0_86 H => ?_) (fun j86 hj86 H => ?_) H
              · -- 86
                refine cx_iconst (pc := 86) dX9_shifted_86 ?_
                refine aw_iload (pc := 87) dX9_shifted_87 rfl ?_
                refine cx_callS (pc := 89) (P := pV) (dC := 0) (mcC := 0) (msC := 0) [.ref s0_86, iv 0, iv v4_34] (fun r1 H1 => s_X9_mark l sc E R hE hR n s0_86 0 v4_34 hs0_86 (inR_lit _ rfl) hv4_34 m86 r1 H1) ca_X9_75 rfl rfl (Nat.le_of_ble_eq_true rfl) (Nat.le_of_ble_eq_true rfl) (Nat.le_of_ble_eq_true rfl) (Nat.le_of_ble_eq_true rfl) dX9_shifted_89 H (fun x89 m89 v89 hh89 H hp => ?_)
                refine cx_backV hp ?_
                refine cx_iconst (pc := 92) dX9_shifted_92 ?_
                refine aw_istore (pc := 93) [(5, iv 0), (0, .ref 4), (1, iv p1), (2, iv p2), (3, .ref s0_30), (4, iv v4_34)] dX9_shifted_93 rfl (by decide) ?_
                refine AW.sel [1, 2, 3, 4, 5, 0] rfl (lp_ind (bot := fun _ _ => none) (fun (f9 : Int → Mem → Option Rz) => ∀ (v5_95 : Int) (m95 : Mem), inR v5_95 → f9 v5_95 m95 = some r → AW l D base sc RX9 yX9_shifted cX9_shifted 6 (some FieldType.int) 3 0 0 ad (E mi) (pI E r) 0 0 (E m95) 95 [(0, .ref 4), (1, iv p1), (2, iv p2), (3, .ref s0_30), (4, iv v4_34), (5, iv v5_95)] []) (fun _ _ _ h9 => nomatch h9) (fun w95 ih95 v5_95 m95 hv5_95 H => ?_) n _ _ (inR_lit _ rfl) H)
                refine aw_iload (pc := 95) dX9_shifted_95 rfl ?_
                refine aw_iload (pc := 97) dX9_shifted_97 rfl ?_
                refine cx_icmp_ge (pc := 99) 152 hv5_95 hv4_34 dX9_shifted_99 rfl H (fun H => ?_) (fun H => ?_)
                · -- 99: 102
                  refine aw_aload_n (pc := 102) dX9_shifted_102 rfl ?_
                  refine cx_gtC (pc := 103) 5 hE r4 fl_X9_9 rfl rfl (Nat.le_of_ble_eq_true rfl) dX9_shifted_103 ?_
                  refine aw_iload (pc := 106) dX9_shifted_106 rfl ?_
                  refine aw_iload (pc := 108) dX9_shifted_108 rfl ?_
                  refine cx_callS (pc := 110) (P := pI) (dC := 0) (mcC := 0) (msC := 0) [.ref 5, iv v4_34, iv v5_95] (fun r1 H1 => s_X9_has l sc E R hE hR n 5 v4_34 v5_95 r5 hv4_34 hv5_95 m95 r1 H1) ca_X9_93 rfl rfl (Nat.le_of_ble_eq_true rfl) (Nat.le_of_ble_eq_true rfl) (Nat.le_of_ble_eq_true rfl) (Nat.le_of_ble_eq_true rfl) dX9_shifted_110 H (fun x110 m110 v110 hh110 H hp => ?_)
                  refine cx_backI hp (fun hx110 => ?_)
                  refine jn_ind (fun (f9 : Mem → Option Rz) => ∀ (m124 : Mem), f9 m124 = some r → AW l D base sc RX9 yX9_shifted cX9_shifted 6 (some FieldType.int) 3 0 0 ad (E mi) (pI E r) 0 0 (E m124) 124 [(0, .ref 4), (1, iv p1), (2, iv p2), (3, .ref s0_30), (4, iv v4_34), (5, iv v5_95)] []) (fun m124 H => ?_) (fun j124 hj124 H => ?_) H
                  · -- 124
                    refine aw_aload_n (pc := 124) dX9_shifted_124 rfl ?_
                    refine cx_gtC (pc := 125) 6 hE r4 fl_X9_13 rfl rfl (Nat.le_of_ble_eq_true rfl) dX9_shifted_125 ?_
                    refine aw_iload (pc := 128) dX9_shifted_128 rfl ?_
                    refine aw_iload (pc := 130) dX9_shifted_130 rfl ?_
                    refine cx_callS (pc := 132) (P := pI) (dC := 0) (mcC := 0) (msC := 0) [.ref 6, iv v4_34, iv v5_95] (fun r1 H1 => s_X9_has l sc E R hE hR n 6 v4_34 v5_95 r6 hv4_34 hv5_95 m124 r1 H1) ca_X9_93 rfl rfl (Nat.le_of_ble_eq_true rfl) (Nat.le_of_ble_eq_true rfl) (Nat.le_of_ble_eq_true rfl) (Nat.le_of_ble_eq_true rfl) dX9_shifted_132 H (fun x132 m132 v132 hh132 H hp => ?_)
                    refine cx_backI hp (fun hx132 => ?_)
                    refine jn_ind (fun (f9 : Mem → Option Rz) => ∀ (m146 : Mem), f9 m146 = some r → AW l D base sc RX9 yX9_shifted cX9_shifted 6 (some FieldType.int) 3 0 0 ad (E mi) (pI E r) 0 0 (E m146) 146 [(0, .ref 4), (1, iv p1), (2, iv p2), (3, .ref s0_30), (4, iv v4_34), (5, iv v5_95)] []) (fun m146 H => ?_) (fun j146 hj146 H => ?_) H
                    · -- 146
                      refine cx_iinc (pc := 146) [(5, iv (w32 (v5_95 + 1))), (0, .ref 4), (1, iv p1), (2, iv p2), (3, .ref s0_30), (4, iv v4_34)] dX9_shifted_146 rfl rfl (by decide) ?_
                      refine aw_goto (pc := 149) 95 dX9_shifted_149 rfl ?_
                      exact AW.sel [1, 2, 3, 4, 5, 0] rfl (ih95 _ _ (inR_w32 _) H)
                    refine cx_if_eq (pc := 135) 146 hx132 dX9_shifted_135 rfl H (fun H => ?_) (fun H => ?_)
                    · -- 135: 146
                      exact AW.sel [0, 1, 2, 3, 4, 5] rfl (hj146 _ H)
                    · -- 135: 138
                      refine aw_aload_n (pc := 138) dX9_shifted_138 rfl ?_
                      refine aw_aload_n (pc := 139) dX9_shifted_139 rfl ?_
                      refine aw_iload (pc := 140) dX9_shifted_140 rfl ?_
                      refine cx_ldI (pc := 142) hE hs0_30 hv5_95 dX9_shifted_142 H (fun x142 hx142 H => ?_)
                      refine cx_callV (pc := 143) (P := pV) (dC := 1) (mcC := 0) (msC := 0) [iv x142] hE r4 (fun r1 H1 => s_X9_addRight l sc E R hE hR n x142 hx142 m132 r1 H1) ca_X9_122 rfl ⟨_, rfl, rfl⟩ rfl rfl (Nat.le_of_ble_eq_true rfl) (Nat.le_of_ble_eq_true rfl) (Nat.le_of_ble_eq_true rfl) (Nat.le_of_ble_eq_true rfl) dX9_shifted_143 H (fun x143 m143 v143 hh143 H hp => ?_)
                      refine cx_backV hp ?_
                      exact AW.sel [0, 1, 2, 3, 4, 5] rfl (hj146 _ H)
                  refine cx_if_eq (pc := 113) 124 hx110 dX9_shifted_113 rfl H (fun H => ?_) (fun H => ?_)
                  · -- 113: 124
                    exact AW.sel [0, 1, 2, 3, 4, 5] rfl (hj124 _ H)
                  · -- 113: 116
                    refine aw_aload_n (pc := 116) dX9_shifted_116 rfl ?_
                    refine aw_aload_n (pc := 117) dX9_shifted_117 rfl ?_
                    refine aw_iload (pc := 118) dX9_shifted_118 rfl ?_
                    refine cx_ldI (pc := 120) hE hs0_30 hv5_95 dX9_shifted_120 H (fun x120 hx120 H => ?_)
                    refine cx_callV (pc := 121) (P := pV) (dC := 1) (mcC := 0) (msC := 0) [iv x120] hE r4 (fun r1 H1 => s_X9_addLeft l sc E R hE hR n x120 hx120 m110 r1 H1) ca_X9_119 rfl ⟨_, rfl, rfl⟩ rfl rfl (Nat.le_of_ble_eq_true rfl) (Nat.le_of_ble_eq_true rfl) (Nat.le_of_ble_eq_true rfl) (Nat.le_of_ble_eq_true rfl) dX9_shifted_121 H (fun x121 m121 v121 hh121 H hp => ?_)
                    refine cx_backV hp ?_
                    exact AW.sel [0, 1, 2, 3, 4, 5] rfl (hj124 _ H)
                · -- 99: 152
                  refine aw_aload_n (pc := 152) dX9_shifted_152 rfl ?_
                  refine aw_iload (pc := 153) dX9_shifted_153 rfl ?_
                  refine aw_aload_n (pc := 155) dX9_shifted_155 rfl ?_
                  refine cx_callV (pc := 156) (P := pI) (dC := 2) (mcC := 0) (msC := 0) [] hE r4 (fun r1 H1 => s_X9_end l sc E R hE hR n m95 r1 H1) ca_X9_57 rfl ⟨_, rfl, rfl⟩ rfl rfl (Nat.le_of_ble_eq_true rfl) (Nat.le_of_ble_eq_true rfl) (Nat.le_of_ble_eq_true rfl) (Nat.le_of_ble_eq_true rfl) dX9_shifted_156 H (fun x156 m156 v156 hh156 H hp => ?_)
                  refine cx_backI hp (fun hx156 => ?_)
                  refine cx_stI (pc := 159) hE hs0_30 hv4_34 dX9_shifted_159 H (fun m159 H => ?_)
                  exact AW.sel [0, 1, 2, 3, 4] rfl (hj160 _ H)
              refine cx_if_eq (pc := 72) 82 hp2 dX9_shifted_72 rfl H (fun H => ?_) (fun H => ?_)
              · -- 72: 82
                refine aw_aload_n (pc := 82) dX9_shifted_82 rfl ?_
                refine cx_gtC (pc := 83) 12 hE r4 fl_X9_32 rfl rfl (Nat.le_of_ble_eq_true rfl) dX9_shifted_83 ?_
                exact AW.sel [0, 1, 2, 3, 4] rfl (hj86 _ _ r12 H)
              · -- 72: 75
                refine aw_aload_n (pc := 75) dX9_shifted_75 rfl ?_
                refine cx_gtC (pc := 76) 11 hE r4 fl_X9_29 rfl rfl (Nat.le_of_ble_eq_true rfl) dX9_shifted_76 ?_
                refine aw_goto (pc := 79) 86 dX9_shifted_79 rfl ?_
                exact AW.sel [0, 1, 2, 3, 4] rfl (hj86 _ _ r11 H)
            · -- 64: 160
              exact AW.sel [0, 1, 2, 3, 4] rfl (hj160 _ H)
        · -- 44: 166
          exact AW.sel [1, 3] rfl (hj166 _ H)
    refine cx_if_eq (pc := 16) 26 hp2 dX9_shifted_16 rfl H (fun H => ?_) (fun H => ?_)
    · -- 16: 26
      refine aw_aload_n (pc := 26) dX9_shifted_26 rfl ?_
      refine cx_gtC (pc := 27) 10 hE r4 fl_X9_26 rfl rfl (Nat.le_of_ble_eq_true rfl) dX9_shifted_27 ?_
      exact AW.sel [0, 1, 2] rfl (hj30 _ _ r10 H)
    · -- 16: 19
      refine aw_aload_n (pc := 19) dX9_shifted_19 rfl ?_
      refine cx_gtC (pc := 20) 9 hE r4 fl_X9_22 rfl rfl (Nat.le_of_ble_eq_true rfl) dX9_shifted_20 ?_
      refine aw_goto (pc := 23) 30 dX9_shifted_23 rfl ?_
      exact AW.sel [0, 1, 2] rfl (hj30 _ _ r9 H)
/-- X9 isBare ([JI)Z -/
def f_X9_isBare (n : Nat) (p0 : Nat) (p1 : Int) (mi : Mem) : Option Rz :=
  nm (w32 (p1 * 4)) fun z3 =>
  lp (F := Int → Mem → Option Rz) (fun _ _ => none) (fun w6 v3_6 m6 =>
    jn (fun (m41 : Mem) =>
      rtZ 1 m41
    ) fun (j41 : Mem → Option Rz) =>
    if v3_6 < 4 then (
      if z3 < 0 then (
        j41 m6
      ) else
      lenA m6 p0 fun x19 =>
      if w32 (z3 + v3_6) < x19 then (
        ldJ m6 p0 (w32 (z3 + v3_6)) fun x27 =>
        if jcmp x27 0 = 0 then (
          w6 (w32 (v3_6 + 1)) m6
        ) else
        rtZ 0 m6
      ) else
      j41 m6
    ) else
    j41 m6
  ) n 0 mi
set_option maxRecDepth 100000 in
set_option maxHeartbeats 4000000 in
theorem s_X9_isBare (l : Launch) (sc : g_S) (E : Mem → g_H) (R : Nat → Prop) (hE : LE E R) (hR : RYS R) (n : Nat)  (p0 : Nat) (p1 : Int) (hp0 : R p0) (hp1 : inR p1) (mi : Mem) (r : Rz) (H : f_X9_isBare n p0 p1 mi = some r) : AMet l sc yX9_isBare cX9_isBare 4 (some FieldType.boolean) 0 0 0 [.ref p0, iv p1] (E mi) (pI E r) := by
  unfold f_X9_isBare at H
  refine AMet.of (own := RX9) (by decide +kernel) rfl (Nat.le_of_ble_eq_true rfl) [(0, .ref p0), (1, iv p1)] rfl (fun D base ad => ?_)
  refine aw_iload_n (pc := 0) dX9_isBare_0 rfl ?_
  refine cx_iconst (pc := 1) dX9_isBare_1 ?_
  refine cx_imul (pc := 2) dX9_isBare_2 ?_
  refine cx_nm (inR_w32 _) H (fun z3 hz3 H => ?_)
  refine aw_istore_n (pc := 3) [(2, iv z3), (0, .ref p0), (1, iv p1)] dX9_isBare_3 rfl (by decide) ?_
  refine cx_iconst (pc := 4) dX9_isBare_4 ?_
  refine aw_istore_n (pc := 5) [(3, iv 0), (2, iv z3), (0, .ref p0), (1, iv p1)] dX9_isBare_5 rfl (by decide) ?_
  refine AW.sel [2, 1, 0] rfl (lp_ind (bot := fun _ _ => none) (fun (f9 : Int → Mem → Option Rz) => ∀ (v3_6 : Int) (m6 : Mem), inR v3_6 → f9 v3_6 m6 = some r → AW l D base sc RX9 yX9_isBare cX9_isBare 4 (some FieldType.boolean) 0 0 0 ad (E mi) (pI E r) 0 0 (E m6) 6 [(0, .ref p0), (2, iv z3), (3, iv v3_6)] []) (fun _ _ _ h9 => nomatch h9) (fun w6 ih6 v3_6 m6 hv3_6 H => ?_) n _ _ (inR_lit _ rfl) H)
  refine aw_iload_n (pc := 6) dX9_isBare_6 rfl ?_
  refine cx_iconst (pc := 7) dX9_isBare_7 ?_
  refine jn_ind (fun (f9 : Mem → Option Rz) => ∀ (m41 : Mem), f9 m41 = some r → AW l D base sc RX9 yX9_isBare cX9_isBare 4 (some FieldType.boolean) 0 0 0 ad (E mi) (pI E r) 0 0 (E m41) 41 [] []) (fun m41 H => ?_) (fun j41 hj41 H => ?_) H
  · -- 41
    refine cx_iconst (pc := 41) dX9_isBare_41 ?_
    exact cx_zret (pc := 42) rfl (Nat.le_of_ble_eq_true rfl) (Nat.le_of_ble_eq_true rfl) dX9_isBare_42 H
  refine cx_icmp_ge (pc := 8) 41 hv3_6 (inR_lit _ rfl) dX9_isBare_8 rfl H (fun H => ?_) (fun H => ?_)
  · -- 8: 11
    refine aw_iload_n (pc := 11) dX9_isBare_11 rfl ?_
    refine cx_if_lt (pc := 12) 41 hz3 dX9_isBare_12 rfl H (fun H => ?_) (fun H => ?_)
    · -- 12: 41
      exact AW.sel [] rfl (hj41 _ H)
    · -- 12: 15
      refine aw_iload_n (pc := 15) dX9_isBare_15 rfl ?_
      refine aw_iload_n (pc := 16) dX9_isBare_16 rfl ?_
      refine cx_iadd (pc := 17) dX9_isBare_17 ?_
      refine aw_aload_n (pc := 18) dX9_isBare_18 rfl ?_
      refine cx_lenA (pc := 19) hE hp0 dX9_isBare_19 H (fun x19 hx19 H => ?_)
      refine cx_icmp_ge (pc := 20) 41 (inR_w32 _) hx19 dX9_isBare_20 rfl H (fun H => ?_) (fun H => ?_)
      · -- 20: 23
        refine aw_aload_n (pc := 23) dX9_isBare_23 rfl ?_
        refine aw_iload_n (pc := 24) dX9_isBare_24 rfl ?_
        refine aw_iload_n (pc := 25) dX9_isBare_25 rfl ?_
        refine cx_iadd (pc := 26) dX9_isBare_26 ?_
        refine cx_ldJ (pc := 27) hE hp0 (inR_w32 _) dX9_isBare_27 H (fun x27 H => ?_)
        refine cx_lconst (pc := 28) dX9_isBare_28 ?_
        refine cx_lcmp (pc := 29) dX9_isBare_29 ?_
        refine cx_if_eq (pc := 30) 35 (inR_32 _) dX9_isBare_30 rfl H (fun H => ?_) (fun H => ?_)
        · -- 30: 35
          refine cx_iinc (pc := 35) [(3, iv (w32 (v3_6 + 1))), (0, .ref p0), (2, iv z3)] dX9_isBare_35 rfl rfl (by decide) ?_
          refine aw_goto (pc := 38) 6 dX9_isBare_38 rfl ?_
          exact AW.sel [1, 2, 0] rfl (ih6 _ _ (inR_w32 _) H)
        · -- 30: 33
          refine cx_iconst (pc := 33) dX9_isBare_33 ?_
          exact cx_zret (pc := 34) rfl (Nat.le_of_ble_eq_true rfl) (Nat.le_of_ble_eq_true rfl) dX9_isBare_34 H
      · -- 20: 41
        exact AW.sel [] rfl (hj41 _ H)
  · -- 8: 41
    exact AW.sel [] rfl (hj41 _ H)
/-- X9 isWhole (I)Z -/
def f_X9_isWhole (n : Nat) (p1 : Int) (mi : Mem) : Option Rz :=
  cal (f_X9_isNode n p1 mi) fun x2 m2 =>
  jn (fun (s0_35 : Int) (m35 : Mem) =>
    rtZ s0_35 m35
  ) fun (j35 : Int → Mem → Option Rz) =>
  jn (fun (m34 : Mem) =>
    j35 0 m34
  ) fun (j34 : Mem → Option Rz) =>
  if x2 = 0 then (
    j34 m2
  ) else
  cal (f_X9_isBare n 5 p1 m2) fun x13 m13 =>
  jn (fun (m30 : Mem) =>
    j35 1 m30
  ) fun (j30 : Mem → Option Rz) =>
  if x13 = 0 then (
    cal (f_X9_isBare n 6 p1 m13) fun x24 m24 =>
    if x24 = 0 then (
      j34 m24
    ) else
    j30 m24
  ) else
  j30 m13
set_option maxRecDepth 100000 in
set_option maxHeartbeats 4000000 in
theorem s_X9_isWhole (l : Launch) (sc : g_S) (E : Mem → g_H) (R : Nat → Prop) (hE : LE E R) (hR : RYS R) (n : Nat)  (p1 : Int) (hp1 : inR p1) (mi : Mem) (r : Rz) (H : f_X9_isWhole n p1 mi = some r) : AMet l sc yX9_isWhole cX9_isWhole 2 (some FieldType.boolean) 1 0 0 [.ref 4, iv p1] (E mi) (pI E r) := by
  have r4 : R 4 := hR.1 4 (Nat.le_of_ble_eq_true rfl) (Nat.le_of_ble_eq_true rfl)
  have r5 : R 5 := hR.1 5 (Nat.le_of_ble_eq_true rfl) (Nat.le_of_ble_eq_true rfl)
  have r6 : R 6 := hR.1 6 (Nat.le_of_ble_eq_true rfl) (Nat.le_of_ble_eq_true rfl)
  unfold f_X9_isWhole at H
  refine AMet.of (own := RX9) (by decide +kernel) rfl (Nat.le_of_ble_eq_true rfl) [(0, .ref 4), (1, iv p1)] rfl (fun D base ad => ?_)
  refine aw_aload_n (pc := 0) dX9_isWhole_0 rfl ?_
  refine aw_iload_n (pc := 1) dX9_isWhole_1 rfl ?_
  refine cx_callV (pc := 2) (P := pI) (dC := 0) (mcC := 0) (msC := 0) [iv p1] hE r4 (fun r1 H1 => s_X9_isNode l sc E R hE hR n p1 hp1 mi r1 H1) ca_X9_71 rfl ⟨_, rfl, rfl⟩ rfl rfl (Nat.le_of_ble_eq_true rfl) (Nat.le_of_ble_eq_true rfl) (Nat.le_of_ble_eq_true rfl) (Nat.le_of_ble_eq_true rfl) dX9_isWhole_2 H (fun x2 m2 v2 hh2 H hp => ?_)
  refine cx_backI hp (fun hx2 => ?_)
  refine jn_ind (fun (f9 : Int → Mem → Option Rz) => ∀ (s0_35 : Int) (m35 : Mem), inR s0_35 → f9 s0_35 m35 = some r → AW l D base sc RX9 yX9_isWhole cX9_isWhole 2 (some FieldType.boolean) 1 0 0 ad (E mi) (pI E r) 0 0 (E m35) 35 [] [iv s0_35]) (fun s0_35 m35 hs0_35 H => ?_) (fun j35 hj35 H => ?_) H
  · -- 35
    exact cx_zret (pc := 35) rfl (Nat.le_of_ble_eq_true rfl) (Nat.le_of_ble_eq_true rfl) dX9_isWhole_35 H
  refine jn_ind (fun (f9 : Mem → Option Rz) => ∀ (m34 : Mem), f9 m34 = some r → AW l D base sc RX9 yX9_isWhole cX9_isWhole 2 (some FieldType.boolean) 1 0 0 ad (E mi) (pI E r) 0 0 (E m34) 34 [] []) (fun m34 H => ?_) (fun j34 hj34 H => ?_) H
  · -- 34
    refine cx_iconst (pc := 34) dX9_isWhole_34 ?_
    exact AW.sel [] rfl (hj35 _ _ (inR_lit _ rfl) H)
  refine cx_if_eq (pc := 5) 34 hx2 dX9_isWhole_5 rfl H (fun H => ?_) (fun H => ?_)
  · -- 5: 34
    exact AW.sel [] rfl (hj34 _ H)
  · -- 5: 8
    refine aw_aload_n (pc := 8) dX9_isWhole_8 rfl ?_
    refine cx_gtC (pc := 9) 5 hE r4 fl_X9_9 rfl rfl (Nat.le_of_ble_eq_true rfl) dX9_isWhole_9 ?_
    refine aw_iload_n (pc := 12) dX9_isWhole_12 rfl ?_
    refine cx_callS (pc := 13) (P := pI) (dC := 0) (mcC := 0) (msC := 0) [.ref 5, iv p1] (fun r1 H1 => s_X9_isBare l sc E R hE hR n 5 p1 r5 hp1 m2 r1 H1) ca_X9_111 rfl rfl (Nat.le_of_ble_eq_true rfl) (Nat.le_of_ble_eq_true rfl) (Nat.le_of_ble_eq_true rfl) (Nat.le_of_ble_eq_true rfl) dX9_isWhole_13 H (fun x13 m13 v13 hh13 H hp => ?_)
    refine cx_backI hp (fun hx13 => ?_)
    refine jn_ind (fun (f9 : Mem → Option Rz) => ∀ (m30 : Mem), f9 m30 = some r → AW l D base sc RX9 yX9_isWhole cX9_isWhole 2 (some FieldType.boolean) 1 0 0 ad (E mi) (pI E r) 0 0 (E m30) 30 [] []) (fun m30 H => ?_) (fun j30 hj30 H => ?_) H
    · -- 30
      refine cx_iconst (pc := 30) dX9_isWhole_30 ?_
      refine aw_goto (pc := 31) 35 dX9_isWhole_31 rfl ?_
      exact AW.sel [] rfl (hj35 _ _ (inR_lit _ rfl) H)
    refine cx_if_ne (pc := 16) 30 hx13 dX9_isWhole_16 rfl H (fun H => ?_) (fun H => ?_)
    · -- 16: 19
      refine aw_aload_n (pc := 19) dX9_isWhole_19 rfl ?_
      refine cx_gtC (pc := 20) 6 hE r4 fl_X9_13 rfl rfl (Nat.le_of_ble_eq_true rfl) dX9_isWhole_20 ?_
      refine aw_iload_n (pc := 23) dX9_isWhole_23 rfl ?_
      refine cx_callS (pc := 24) (P := pI) (dC := 0) (mcC := 0) (msC := 0) [.ref 6, iv p1] (fun r1 H1 => s_X9_isBare l sc E R hE hR n 6 p1 r6 hp1 m13 r1 H1) ca_X9_111 rfl rfl (Nat.le_of_ble_eq_true rfl) (Nat.le_of_ble_eq_true rfl) (Nat.le_of_ble_eq_true rfl) (Nat.le_of_ble_eq_true rfl) dX9_isWhole_24 H (fun x24 m24 v24 hh24 H hp => ?_)
      refine cx_backI hp (fun hx24 => ?_)
      refine cx_if_eq (pc := 27) 34 hx24 dX9_isWhole_27 rfl H (fun H => ?_) (fun H => ?_)
      · -- 27: 34
        exact AW.sel [] rfl (hj34 _ H)
      · -- 27: 30
        exact AW.sel [] rfl (hj30 _ H)
    · -- 16: 30
      exact AW.sel [] rfl (hj30 _ H)
/-- X9 valueOf (I)I -/
def f_X9_valueOf (n : Nat) (p1 : Int) (mi : Mem) : Option Rz :=
  cal (f_X9_isNode n p1 mi) fun x2 m2 =>
  if x2 = 0 then (
    rt 0 m2
  ) else
  cal (f_X9_gather n p1 m2) fun _ m12 =>
  lp (F := Int → Int → Mem → Option Rz) (fun _ _ _ => none) (fun w19 v2_19 v3_19 m19 =>
    if p1 < v3_19 then (
      cal (f_X9_isBare n 6 p1 m19) fun x50 m50 =>
      jn (fun (s0_62 : Int) (m62 : Mem) =>
        rt s0_62 m62
      ) fun (j62 : Int → Mem → Option Rz) =>
      if x50 = 0 then (
        j62 (w32 (-v2_19)) m50
      ) else
      j62 v2_19 m50
    ) else
    cal (f_X9_has n 17 0 v3_19 m19) fun x30 m30 =>
    jn (fun (v2_39 : Int) (m39 : Mem) =>
      w19 v2_39 (w32 (v3_19 + 1)) m39
    ) fun (j39 : Int → Mem → Option Rz) =>
    if x30 = 0 then (
      j39 v2_19 m30
    ) else
    j39 (w32 (v2_19 + 1)) m30
  ) n (-1) 0 m12
set_option maxRecDepth 100000 in
set_option maxHeartbeats 4000000 in
theorem s_X9_valueOf (l : Launch) (sc : g_S) (E : Mem → g_H) (R : Nat → Prop) (hE : LE E R) (hR : RYS R) (n : Nat)  (p1 : Int) (hp1 : inR p1) (mi : Mem) (r : Rz) (H : f_X9_valueOf n p1 mi = some r) : AMet l sc yX9_valueOf cX9_valueOf 4 (some FieldType.int) 2 0 0 [.ref 4, iv p1] (E mi) (pI E r) := by
  have r4 : R 4 := hR.1 4 (Nat.le_of_ble_eq_true rfl) (Nat.le_of_ble_eq_true rfl)
  have r6 : R 6 := hR.1 6 (Nat.le_of_ble_eq_true rfl) (Nat.le_of_ble_eq_true rfl)
  have r17 : R 17 := hR.1 17 (Nat.le_of_ble_eq_true rfl) (Nat.le_of_ble_eq_true rfl)
  unfold f_X9_valueOf at H
  refine AMet.of (own := RX9) (by decide +kernel) rfl (Nat.le_of_ble_eq_true rfl) [(0, .ref 4), (1, iv p1)] rfl (fun D base ad => ?_)
  refine aw_aload_n (pc := 0) dX9_valueOf_0 rfl ?_
  refine aw_iload_n (pc := 1) dX9_valueOf_1 rfl ?_
  refine cx_callV (pc := 2) (P := pI) (dC := 0) (mcC := 0) (msC := 0) [iv p1] hE r4 (fun r1 H1 => s_X9_isNode l sc E R hE hR n p1 hp1 mi r1 H1) ca_X9_71 rfl ⟨_, rfl, rfl⟩ rfl rfl (Nat.le_of_ble_eq_true rfl) (Nat.le_of_ble_eq_true rfl) (Nat.le_of_ble_eq_true rfl) (Nat.le_of_ble_eq_true rfl) dX9_valueOf_2 H (fun x2 m2 v2 hh2 H hp => ?_)
  refine cx_backI hp (fun hx2 => ?_)
  refine cx_if_ne (pc := 5) 10 hx2 dX9_valueOf_5 rfl H (fun H => ?_) (fun H => ?_)
  · -- 5: 8
    refine cx_iconst (pc := 8) dX9_valueOf_8 ?_
    exact cx_iret (pc := 9) (inR_lit _ rfl) rfl (Nat.le_of_ble_eq_true rfl) (Nat.le_of_ble_eq_true rfl) dX9_valueOf_9 H
  · -- 5: 10
    refine aw_aload_n (pc := 10) dX9_valueOf_10 rfl ?_
    refine aw_iload_n (pc := 11) dX9_valueOf_11 rfl ?_
    refine cx_callV (pc := 12) (P := pV) (dC := 1) (mcC := 0) (msC := 0) [iv p1] hE r4 (fun r1 H1 => s_X9_gather l sc E R hE hR n p1 hp1 m2 r1 H1) ca_X9_115 rfl ⟨_, rfl, rfl⟩ rfl rfl (Nat.le_of_ble_eq_true rfl) (Nat.le_of_ble_eq_true rfl) (Nat.le_of_ble_eq_true rfl) (Nat.le_of_ble_eq_true rfl) dX9_valueOf_12 H (fun x12 m12 v12 hh12 H hp => ?_)
    refine cx_backV hp ?_
    refine cx_iconst (pc := 15) dX9_valueOf_15 ?_
    refine aw_istore_n (pc := 16) [(2, iv (-1)), (0, .ref 4), (1, iv p1)] dX9_valueOf_16 rfl (by decide) ?_
    refine cx_iconst (pc := 17) dX9_valueOf_17 ?_
    refine aw_istore_n (pc := 18) [(3, iv 0), (2, iv (-1)), (0, .ref 4), (1, iv p1)] dX9_valueOf_18 rfl (by decide) ?_
    refine AW.sel [2, 3, 1, 0] rfl (lp_ind (bot := fun _ _ _ => none) (fun (f9 : Int → Int → Mem → Option Rz) => ∀ (v2_19 : Int) (v3_19 : Int) (m19 : Mem), inR v2_19 → inR v3_19 → f9 v2_19 v3_19 m19 = some r → AW l D base sc RX9 yX9_valueOf cX9_valueOf 4 (some FieldType.int) 2 0 0 ad (E mi) (pI E r) 0 0 (E m19) 19 [(0, .ref 4), (1, iv p1), (2, iv v2_19), (3, iv v3_19)] []) (fun _ _ _ _ _ h9 => nomatch h9) (fun w19 ih19 v2_19 v3_19 m19 hv2_19 hv3_19 H => ?_) n _ _ _ (inR_lit _ rfl) (inR_lit _ rfl) H)
    refine aw_iload_n (pc := 19) dX9_valueOf_19 rfl ?_
    refine aw_iload_n (pc := 20) dX9_valueOf_20 rfl ?_
    refine cx_icmp_gt (pc := 21) 45 hv3_19 hp1 dX9_valueOf_21 rfl H (fun H => ?_) (fun H => ?_)
    · -- 21: 45
      refine aw_aload_n (pc := 45) dX9_valueOf_45 rfl ?_
      refine cx_gtC (pc := 46) 6 hE r4 fl_X9_13 rfl rfl (Nat.le_of_ble_eq_true rfl) dX9_valueOf_46 ?_
      refine aw_iload_n (pc := 49) dX9_valueOf_49 rfl ?_
      refine cx_callS (pc := 50) (P := pI) (dC := 0) (mcC := 0) (msC := 0) [.ref 6, iv p1] (fun r1 H1 => s_X9_isBare l sc E R hE hR n 6 p1 r6 hp1 m19 r1 H1) ca_X9_111 rfl rfl (Nat.le_of_ble_eq_true rfl) (Nat.le_of_ble_eq_true rfl) (Nat.le_of_ble_eq_true rfl) (Nat.le_of_ble_eq_true rfl) dX9_valueOf_50 H (fun x50 m50 v50 hh50 H hp => ?_)
      refine cx_backI hp (fun hx50 => ?_)
      refine jn_ind (fun (f9 : Int → Mem → Option Rz) => ∀ (s0_62 : Int) (m62 : Mem), inR s0_62 → f9 s0_62 m62 = some r → AW l D base sc RX9 yX9_valueOf cX9_valueOf 4 (some FieldType.int) 2 0 0 ad (E mi) (pI E r) 0 0 (E m62) 62 [] [iv s0_62]) (fun s0_62 m62 hs0_62 H => ?_) (fun j62 hj62 H => ?_) H
      · -- 62
        exact cx_iret (pc := 62) hs0_62 rfl (Nat.le_of_ble_eq_true rfl) (Nat.le_of_ble_eq_true rfl) dX9_valueOf_62 H
      refine cx_if_eq (pc := 53) 60 hx50 dX9_valueOf_53 rfl H (fun H => ?_) (fun H => ?_)
      · -- 53: 60
        refine aw_iload_n (pc := 60) dX9_valueOf_60 rfl ?_
        refine cx_ineg (pc := 61) dX9_valueOf_61 ?_
        exact AW.sel [] rfl (hj62 _ _ (inR_w32 _) H)
      · -- 53: 56
        refine aw_iload_n (pc := 56) dX9_valueOf_56 rfl ?_
        refine aw_goto (pc := 57) 62 dX9_valueOf_57 rfl ?_
        exact AW.sel [] rfl (hj62 _ _ hv2_19 H)
    · -- 21: 24
      refine aw_aload_n (pc := 24) dX9_valueOf_24 rfl ?_
      refine cx_gtC (pc := 25) 17 hE r4 fl_X9_47 rfl rfl (Nat.le_of_ble_eq_true rfl) dX9_valueOf_25 ?_
      refine cx_iconst (pc := 28) dX9_valueOf_28 ?_
      refine aw_iload_n (pc := 29) dX9_valueOf_29 rfl ?_
      refine cx_callS (pc := 30) (P := pI) (dC := 0) (mcC := 0) (msC := 0) [.ref 17, iv 0, iv v3_19] (fun r1 H1 => s_X9_has l sc E R hE hR n 17 0 v3_19 r17 (inR_lit _ rfl) hv3_19 m19 r1 H1) ca_X9_93 rfl rfl (Nat.le_of_ble_eq_true rfl) (Nat.le_of_ble_eq_true rfl) (Nat.le_of_ble_eq_true rfl) (Nat.le_of_ble_eq_true rfl) dX9_valueOf_30 H (fun x30 m30 v30 hh30 H hp => ?_)
      refine cx_backI hp (fun hx30 => ?_)
      refine jn_ind (fun (f9 : Int → Mem → Option Rz) => ∀ (v2_39 : Int) (m39 : Mem), inR v2_39 → f9 v2_39 m39 = some r → AW l D base sc RX9 yX9_valueOf cX9_valueOf 4 (some FieldType.int) 2 0 0 ad (E mi) (pI E r) 0 0 (E m39) 39 [(0, .ref 4), (1, iv p1), (2, iv v2_39), (3, iv v3_19)] []) (fun v2_39 m39 hv2_39 H => ?_) (fun j39 hj39 H => ?_) H
      · -- 39
        refine cx_iinc (pc := 39) [(3, iv (w32 (v3_19 + 1))), (0, .ref 4), (1, iv p1), (2, iv v2_39)] dX9_valueOf_39 rfl rfl (by decide) ?_
        refine aw_goto (pc := 42) 19 dX9_valueOf_42 rfl ?_
        exact AW.sel [1, 2, 3, 0] rfl (ih19 _ _ _ hv2_39 (inR_w32 _) H)
      refine cx_if_eq (pc := 33) 39 hx30 dX9_valueOf_33 rfl H (fun H => ?_) (fun H => ?_)
      · -- 33: 39
        exact AW.sel [0, 1, 2, 3] rfl (hj39 _ _ hv2_19 H)
      · -- 33: 36
        refine cx_iinc (pc := 36) [(2, iv (w32 (v2_19 + 1))), (0, .ref 4), (1, iv p1), (3, iv v3_19)] dX9_valueOf_36 rfl rfl (by decide) ?_
        exact AW.sel [1, 2, 0, 3] rfl (hj39 _ _ (inR_w32 _) H)
