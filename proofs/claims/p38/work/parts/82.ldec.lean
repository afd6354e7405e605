/-! THE LAW: its instructions, its links -/
theorem dL_mod_0 : decode cL_mod 0 = .ok (.iload_n 0, 1) := by decide +kernel
theorem dL_mod_1 : decode cL_mod 1 = .ok (.iload_n 1, 1) := by decide +kernel
theorem dL_mod_2 : decode cL_mod 2 = .ok (.irem, 1) := by decide +kernel
theorem dL_mod_3 : decode cL_mod 3 = .ok (.istore_n 2, 1) := by decide +kernel
theorem dL_mod_4 : decode cL_mod 4 = .ok (.iload_n 2, 1) := by decide +kernel
theorem dL_mod_5 : decode cL_mod 5 = .ok (.ifCond .ge 9, 3) := by decide +kernel
theorem dL_mod_8 : decode cL_mod 8 = .ok (.iload_n 2, 1) := by decide +kernel
theorem dL_mod_9 : decode cL_mod 9 = .ok (.iload_n 1, 1) := by decide +kernel
theorem dL_mod_10 : decode cL_mod 10 = .ok (.iadd, 1) := by decide +kernel
theorem dL_mod_11 : decode cL_mod 11 = .ok (.goto 4, 3) := by decide +kernel
theorem dL_mod_14 : decode cL_mod 14 = .ok (.iload_n 2, 1) := by decide +kernel
theorem dL_mod_15 : decode cL_mod 15 = .ok (.ireturn, 1) := by decide +kernel
theorem dL_cell_0 : decode cL_cell 0 = .ok (.iload_n 1, 1) := by decide +kernel
theorem dL_cell_1 : decode cL_cell 1 = .ok (.aload_n 0, 1) := by decide +kernel
theorem dL_cell_2 : decode cL_cell 2 = .ok (.arraylength, 1) := by decide +kernel
theorem dL_cell_3 : decode cL_cell 3 = .ok (.if_icmp .ge 9, 3) := by decide +kernel
theorem dL_cell_6 : decode cL_cell 6 = .ok (.aload_n 0, 1) := by decide +kernel
theorem dL_cell_7 : decode cL_cell 7 = .ok (.iload_n 1, 1) := by decide +kernel
theorem dL_cell_8 : decode cL_cell 8 = .ok (.iaload, 1) := by decide +kernel
theorem dL_cell_9 : decode cL_cell 9 = .ok (.goto 4, 3) := by decide +kernel
theorem dL_cell_12 : decode cL_cell 12 = .ok (.iconst 0, 1) := by decide +kernel
theorem dL_cell_13 : decode cL_cell 13 = .ok (.ireturn, 1) := by decide +kernel
theorem dL_feeds_0 : decode cL_feeds 0 = .ok (.iconst 0, 1) := by decide +kernel
theorem dL_feeds_1 : decode cL_feeds 1 = .ok (.istore_n 3, 1) := by decide +kernel
theorem dL_feeds_2 : decode cL_feeds 2 = .ok (.iconst 0, 1) := by decide +kernel
theorem dL_feeds_3 : decode cL_feeds 3 = .ok (.istore 4, 2) := by decide +kernel
theorem dL_feeds_5 : decode cL_feeds 5 = .ok (.iload 4, 2) := by decide +kernel
theorem dL_feeds_7 : decode cL_feeds 7 = .ok (.iload_n 2, 1) := by decide +kernel
theorem dL_feeds_8 : decode cL_feeds 8 = .ok (.if_icmp .ge 86, 3) := by decide +kernel
theorem dL_feeds_11 : decode cL_feeds 11 = .ok (.iload_n 2, 1) := by decide +kernel
theorem dL_feeds_12 : decode cL_feeds 12 = .ok (.iload 4, 2) := by decide +kernel
theorem dL_feeds_14 : decode cL_feeds 14 = .ok (.isub, 1) := by decide +kernel
theorem dL_feeds_15 : decode cL_feeds 15 = .ok (.bipush 8, 2) := by decide +kernel
theorem dL_feeds_17 : decode cL_feeds 17 = .ok (.if_icmp .ge 10, 3) := by decide +kernel
theorem dL_feeds_20 : decode cL_feeds 20 = .ok (.iload_n 2, 1) := by decide +kernel
theorem dL_feeds_21 : decode cL_feeds 21 = .ok (.iload 4, 2) := by decide +kernel
theorem dL_feeds_23 : decode cL_feeds 23 = .ok (.isub, 1) := by decide +kernel
theorem dL_feeds_24 : decode cL_feeds 24 = .ok (.goto 5, 3) := by decide +kernel
theorem dL_feeds_27 : decode cL_feeds 27 = .ok (.bipush 8, 2) := by decide +kernel
theorem dL_feeds_29 : decode cL_feeds 29 = .ok (.istore 5, 2) := by decide +kernel
theorem dL_feeds_31 : decode cL_feeds 31 = .ok (.lconst 0, 1) := by decide +kernel
theorem dL_feeds_32 : decode cL_feeds 32 = .ok (.lstore 6, 2) := by decide +kernel
theorem dL_feeds_34 : decode cL_feeds 34 = .ok (.iconst 0, 1) := by decide +kernel
theorem dL_feeds_35 : decode cL_feeds 35 = .ok (.istore 8, 2) := by decide +kernel
theorem dL_feeds_37 : decode cL_feeds 37 = .ok (.iload 8, 2) := by decide +kernel
theorem dL_feeds_39 : decode cL_feeds 39 = .ok (.iload 5, 2) := by decide +kernel
theorem dL_feeds_41 : decode cL_feeds 41 = .ok (.if_icmp .ge 28, 3) := by decide +kernel
theorem dL_feeds_44 : decode cL_feeds 44 = .ok (.lload 6, 2) := by decide +kernel
theorem dL_feeds_46 : decode cL_feeds 46 = .ok (.aload_n 1, 1) := by decide +kernel
theorem dL_feeds_47 : decode cL_feeds 47 = .ok (.iload 4, 2) := by decide +kernel
theorem dL_feeds_49 : decode cL_feeds 49 = .ok (.iload 8, 2) := by decide +kernel
theorem dL_feeds_51 : decode cL_feeds 51 = .ok (.iadd, 1) := by decide +kernel
theorem dL_feeds_52 : decode cL_feeds 52 = .ok (.iaload, 1) := by decide +kernel
theorem dL_feeds_53 : decode cL_feeds 53 = .ok (.i2l, 1) := by decide +kernel
theorem dL_feeds_54 : decode cL_feeds 54 = .ok (.bipush 8, 2) := by decide +kernel
theorem dL_feeds_56 : decode cL_feeds 56 = .ok (.iload 8, 2) := by decide +kernel
theorem dL_feeds_58 : decode cL_feeds 58 = .ok (.imul, 1) := by decide +kernel
theorem dL_feeds_59 : decode cL_feeds 59 = .ok (.lshl, 1) := by decide +kernel
theorem dL_feeds_60 : decode cL_feeds 60 = .ok (.lor, 1) := by decide +kernel
theorem dL_feeds_61 : decode cL_feeds 61 = .ok (.lstore 6, 2) := by decide +kernel
theorem dL_feeds_63 : decode cL_feeds 63 = .ok (.iinc 8 1, 3) := by decide +kernel
theorem dL_feeds_66 : decode cL_feeds 66 = .ok (.goto (-29), 3) := by decide +kernel
theorem dL_feeds_69 : decode cL_feeds 69 = .ok (.iload_n 3, 1) := by decide +kernel
theorem dL_feeds_70 : decode cL_feeds 70 = .ok (.iload 5, 2) := by decide +kernel
theorem dL_feeds_72 : decode cL_feeds 72 = .ok (.iadd, 1) := by decide +kernel
theorem dL_feeds_73 : decode cL_feeds 73 = .ok (.istore_n 3, 1) := by decide +kernel
theorem dL_feeds_74 : decode cL_feeds 74 = .ok (.aload_n 0, 1) := by decide +kernel
theorem dL_feeds_75 : decode cL_feeds 75 = .ok (.lload 6, 2) := by decide +kernel
theorem dL_feeds_77 : decode cL_feeds 77 = .ok (.iload 5, 2) := by decide +kernel
theorem dL_feeds_79 : decode cL_feeds 79 = .ok (.invokevirtual 9, 3) := by decide +kernel
theorem dL_feeds_82 : decode cL_feeds 82 = .ok (.iload_n 3, 1) := by decide +kernel
theorem dL_feeds_83 : decode cL_feeds 83 = .ok (.if_icmp .eq 5, 3) := by decide +kernel
theorem dL_feeds_86 : decode cL_feeds 86 = .ok (.iconst 0, 1) := by decide +kernel
theorem dL_feeds_87 : decode cL_feeds 87 = .ok (.ireturn, 1) := by decide +kernel
theorem dL_feeds_88 : decode cL_feeds 88 = .ok (.iinc 4 8, 3) := by decide +kernel
theorem dL_feeds_91 : decode cL_feeds 91 = .ok (.goto (-86), 3) := by decide +kernel
theorem dL_feeds_94 : decode cL_feeds 94 = .ok (.iconst 1, 1) := by decide +kernel
theorem dL_feeds_95 : decode cL_feeds 95 = .ok (.ireturn, 1) := by decide +kernel
theorem dL_acts_0 : decode cL_acts 0 = .ok (.iload_n 1, 1) := by decide +kernel
theorem dL_acts_1 : decode cL_acts 1 = .ok (.iconst 4, 1) := by decide +kernel
theorem dL_acts_2 : decode cL_acts 2 = .ok (.ishr, 1) := by decide +kernel
theorem dL_acts_3 : decode cL_acts 3 = .ok (.bipush 6, 2) := by decide +kernel
theorem dL_acts_5 : decode cL_acts 5 = .ok (.invokestatic 15, 3) := by decide +kernel
theorem dL_acts_8 : decode cL_acts 8 = .ok (.istore_n 2, 1) := by decide +kernel
theorem dL_acts_9 : decode cL_acts 9 = .ok (.iload_n 1, 1) := by decide +kernel
theorem dL_acts_10 : decode cL_acts 10 = .ok (.bipush 7, 2) := by decide +kernel
theorem dL_acts_12 : decode cL_acts 12 = .ok (.ishr, 1) := by decide +kernel
theorem dL_acts_13 : decode cL_acts 13 = .ok (.bipush 6, 2) := by decide +kernel
theorem dL_acts_15 : decode cL_acts 15 = .ok (.invokestatic 15, 3) := by decide +kernel
theorem dL_acts_18 : decode cL_acts 18 = .ok (.istore_n 3, 1) := by decide +kernel
theorem dL_acts_19 : decode cL_acts 19 = .ok (.iload_n 1, 1) := by decide +kernel
theorem dL_acts_20 : decode cL_acts 20 = .ok (.bipush 10, 2) := by decide +kernel
theorem dL_acts_22 : decode cL_acts 22 = .ok (.ishr, 1) := by decide +kernel
theorem dL_acts_23 : decode cL_acts 23 = .ok (.bipush 6, 2) := by decide +kernel
theorem dL_acts_25 : decode cL_acts 25 = .ok (.invokestatic 15, 3) := by decide +kernel
theorem dL_acts_28 : decode cL_acts 28 = .ok (.istore 4, 2) := by decide +kernel
theorem dL_acts_30 : decode cL_acts 30 = .ok (.iload_n 1, 1) := by decide +kernel
theorem dL_acts_31 : decode cL_acts 31 = .ok (.bipush 9, 2) := by decide +kernel
theorem dL_acts_33 : decode cL_acts 33 = .ok (.invokestatic 15, 3) := by decide +kernel
theorem dL_acts_36 : decode cL_acts 36 = .ok (.tableswitch 189 0 7 #[48, 65, 79, 104, 136, 149, 173, 182], 48) := by decide +kernel
theorem dL_acts_84 : decode cL_acts 84 = .ok (.aload_n 0, 1) := by decide +kernel
theorem dL_acts_85 : decode cL_acts 85 = .ok (.iload_n 2, 1) := by decide +kernel
theorem dL_acts_86 : decode cL_acts 86 = .ok (.iload_n 1, 1) := by decide +kernel
theorem dL_acts_87 : decode cL_acts 87 = .ok (.bipush 13, 2) := by decide +kernel
theorem dL_acts_89 : decode cL_acts 89 = .ok (.ishr, 1) := by decide +kernel
theorem dL_acts_90 : decode cL_acts 90 = .ok (.bipush 7, 2) := by decide +kernel
theorem dL_acts_92 : decode cL_acts 92 = .ok (.invokestatic 15, 3) := by decide +kernel
theorem dL_acts_95 : decode cL_acts 95 = .ok (.iconst 3, 1) := by decide +kernel
theorem dL_acts_96 : decode cL_acts 96 = .ok (.isub, 1) := by decide +kernel
theorem dL_acts_97 : decode cL_acts 97 = .ok (.invokevirtual 19, 3) := by decide +kernel
theorem dL_acts_100 : decode cL_acts 100 = .ok (.ireturn, 1) := by decide +kernel
theorem dL_acts_101 : decode cL_acts 101 = .ok (.aload_n 0, 1) := by decide +kernel
theorem dL_acts_102 : decode cL_acts 102 = .ok (.iload_n 2, 1) := by decide +kernel
theorem dL_acts_103 : decode cL_acts 103 = .ok (.iload_n 1, 1) := by decide +kernel
theorem dL_acts_104 : decode cL_acts 104 = .ok (.bipush 13, 2) := by decide +kernel
theorem dL_acts_106 : decode cL_acts 106 = .ok (.ishr, 1) := by decide +kernel
theorem dL_acts_107 : decode cL_acts 107 = .ok (.iconst 5, 1) := by decide +kernel
theorem dL_acts_108 : decode cL_acts 108 = .ok (.invokestatic 15, 3) := by decide +kernel
theorem dL_acts_111 : decode cL_acts 111 = .ok (.invokevirtual 22, 3) := by decide +kernel
theorem dL_acts_114 : decode cL_acts 114 = .ok (.ireturn, 1) := by decide +kernel
theorem dL_acts_115 : decode cL_acts 115 = .ok (.aload_n 0, 1) := by decide +kernel
theorem dL_acts_116 : decode cL_acts 116 = .ok (.iload_n 2, 1) := by decide +kernel
theorem dL_acts_117 : decode cL_acts 117 = .ok (.iload_n 1, 1) := by decide +kernel
theorem dL_acts_118 : decode cL_acts 118 = .ok (.bipush 13, 2) := by decide +kernel
theorem dL_acts_120 : decode cL_acts 120 = .ok (.ishr, 1) := by decide +kernel
theorem dL_acts_121 : decode cL_acts 121 = .ok (.bipush 7, 2) := by decide +kernel
theorem dL_acts_123 : decode cL_acts 123 = .ok (.invokestatic 15, 3) := by decide +kernel
theorem dL_acts_126 : decode cL_acts 126 = .ok (.iconst 3, 1) := by decide +kernel
theorem dL_acts_127 : decode cL_acts 127 = .ok (.isub, 1) := by decide +kernel
theorem dL_acts_128 : decode cL_acts 128 = .ok (.iload_n 1, 1) := by decide +kernel
theorem dL_acts_129 : decode cL_acts 129 = .ok (.bipush 16, 2) := by decide +kernel
theorem dL_acts_131 : decode cL_acts 131 = .ok (.ishr, 1) := by decide +kernel
theorem dL_acts_132 : decode cL_acts 132 = .ok (.iconst 3, 1) := by decide +kernel
theorem dL_acts_133 : decode cL_acts 133 = .ok (.invokestatic 15, 3) := by decide +kernel
theorem dL_acts_136 : decode cL_acts 136 = .ok (.invokevirtual 25, 3) := by decide +kernel
theorem dL_acts_139 : decode cL_acts 139 = .ok (.ireturn, 1) := by decide +kernel
theorem dL_acts_140 : decode cL_acts 140 = .ok (.aload_n 0, 1) := by decide +kernel
theorem dL_acts_141 : decode cL_acts 141 = .ok (.iload_n 2, 1) := by decide +kernel
theorem dL_acts_142 : decode cL_acts 142 = .ok (.iconst 1, 1) := by decide +kernel
theorem dL_acts_143 : decode cL_acts 143 = .ok (.iload_n 1, 1) := by decide +kernel
theorem dL_acts_144 : decode cL_acts 144 = .ok (.bipush 13, 2) := by decide +kernel
theorem dL_acts_146 : decode cL_acts 146 = .ok (.ishr, 1) := by decide +kernel
theorem dL_acts_147 : decode cL_acts 147 = .ok (.iconst 3, 1) := by decide +kernel
theorem dL_acts_148 : decode cL_acts 148 = .ok (.invokestatic 15, 3) := by decide +kernel
theorem dL_acts_151 : decode cL_acts 151 = .ok (.iadd, 1) := by decide +kernel
theorem dL_acts_152 : decode cL_acts 152 = .ok (.iload_n 1, 1) := by decide +kernel
theorem dL_acts_153 : decode cL_acts 153 = .ok (.bipush 15, 2) := by decide +kernel
theorem dL_acts_155 : decode cL_acts 155 = .ok (.ishr, 1) := by decide +kernel
theorem dL_acts_156 : decode cL_acts 156 = .ok (.iconst 3, 1) := by decide +kernel
theorem dL_acts_157 : decode cL_acts 157 = .ok (.invokestatic 15, 3) := by decide +kernel
theorem dL_acts_160 : decode cL_acts 160 = .ok (.iload_n 1, 1) := by decide +kernel
theorem dL_acts_161 : decode cL_acts 161 = .ok (.bipush 17, 2) := by decide +kernel
theorem dL_acts_163 : decode cL_acts 163 = .ok (.ishr, 1) := by decide +kernel
theorem dL_acts_164 : decode cL_acts 164 = .ok (.iconst 3, 1) := by decide +kernel
theorem dL_acts_165 : decode cL_acts 165 = .ok (.invokestatic 15, 3) := by decide +kernel
theorem dL_acts_168 : decode cL_acts 168 = .ok (.invokevirtual 29, 3) := by decide +kernel
theorem dL_acts_171 : decode cL_acts 171 = .ok (.ireturn, 1) := by decide +kernel
theorem dL_acts_172 : decode cL_acts 172 = .ok (.aload_n 0, 1) := by decide +kernel
theorem dL_acts_173 : decode cL_acts 173 = .ok (.iload_n 2, 1) := by decide +kernel
theorem dL_acts_174 : decode cL_acts 174 = .ok (.iconst 1, 1) := by decide +kernel
theorem dL_acts_175 : decode cL_acts 175 = .ok (.iload_n 3, 1) := by decide +kernel
theorem dL_acts_176 : decode cL_acts 176 = .ok (.ishl, 1) := by decide +kernel
theorem dL_acts_177 : decode cL_acts 177 = .ok (.iconst 1, 1) := by decide +kernel
theorem dL_acts_178 : decode cL_acts 178 = .ok (.iload 4, 2) := by decide +kernel
theorem dL_acts_180 : decode cL_acts 180 = .ok (.ishl, 1) := by decide +kernel
theorem dL_acts_181 : decode cL_acts 181 = .ok (.invokevirtual 33, 3) := by decide +kernel
theorem dL_acts_184 : decode cL_acts 184 = .ok (.ireturn, 1) := by decide +kernel
theorem dL_acts_185 : decode cL_acts 185 = .ok (.aload_n 0, 1) := by decide +kernel
theorem dL_acts_186 : decode cL_acts 186 = .ok (.iload_n 2, 1) := by decide +kernel
theorem dL_acts_187 : decode cL_acts 187 = .ok (.iload_n 1, 1) := by decide +kernel
theorem dL_acts_188 : decode cL_acts 188 = .ok (.bipush 13, 2) := by decide +kernel
theorem dL_acts_190 : decode cL_acts 190 = .ok (.ishr, 1) := by decide +kernel
theorem dL_acts_191 : decode cL_acts 191 = .ok (.bipush 64, 2) := by decide +kernel
theorem dL_acts_193 : decode cL_acts 193 = .ok (.invokestatic 15, 3) := by decide +kernel
theorem dL_acts_196 : decode cL_acts 196 = .ok (.iload_n 1, 1) := by decide +kernel
theorem dL_acts_197 : decode cL_acts 197 = .ok (.bipush 15, 2) := by decide +kernel
theorem dL_acts_199 : decode cL_acts 199 = .ok (.ishr, 1) := by decide +kernel
theorem dL_acts_200 : decode cL_acts 200 = .ok (.bipush 64, 2) := by decide +kernel
theorem dL_acts_202 : decode cL_acts 202 = .ok (.invokestatic 15, 3) := by decide +kernel
theorem dL_acts_205 : decode cL_acts 205 = .ok (.invokevirtual 33, 3) := by decide +kernel
theorem dL_acts_208 : decode cL_acts 208 = .ok (.ireturn, 1) := by decide +kernel
theorem dL_acts_209 : decode cL_acts 209 = .ok (.aload_n 0, 1) := by decide +kernel
theorem dL_acts_210 : decode cL_acts 210 = .ok (.iload_n 2, 1) := by decide +kernel
theorem dL_acts_211 : decode cL_acts 211 = .ok (.iload_n 3, 1) := by decide +kernel
theorem dL_acts_212 : decode cL_acts 212 = .ok (.iload 4, 2) := by decide +kernel
theorem dL_acts_214 : decode cL_acts 214 = .ok (.invokevirtual 36, 3) := by decide +kernel
theorem dL_acts_217 : decode cL_acts 217 = .ok (.ireturn, 1) := by decide +kernel
theorem dL_acts_218 : decode cL_acts 218 = .ok (.aload_n 0, 1) := by decide +kernel
theorem dL_acts_219 : decode cL_acts 219 = .ok (.iload_n 2, 1) := by decide +kernel
theorem dL_acts_220 : decode cL_acts 220 = .ok (.iload_n 3, 1) := by decide +kernel
theorem dL_acts_221 : decode cL_acts 221 = .ok (.invokevirtual 39, 3) := by decide +kernel
theorem dL_acts_224 : decode cL_acts 224 = .ok (.ireturn, 1) := by decide +kernel
theorem dL_acts_225 : decode cL_acts 225 = .ok (.aload_n 0, 1) := by decide +kernel
theorem dL_acts_226 : decode cL_acts 226 = .ok (.iconst 3, 1) := by decide +kernel
theorem dL_acts_227 : decode cL_acts 227 = .ok (.iload_n 1, 1) := by decide +kernel
theorem dL_acts_228 : decode cL_acts 228 = .ok (.bipush 13, 2) := by decide +kernel
theorem dL_acts_230 : decode cL_acts 230 = .ok (.ishr, 1) := by decide +kernel
theorem dL_acts_231 : decode cL_acts 231 = .ok (.bipush 67, 2) := by decide +kernel
theorem dL_acts_233 : decode cL_acts 233 = .ok (.invokestatic 15, 3) := by decide +kernel
theorem dL_acts_236 : decode cL_acts 236 = .ok (.iload_n 2, 1) := by decide +kernel
theorem dL_acts_237 : decode cL_acts 237 = .ok (.invokevirtual 42, 3) := by decide +kernel
theorem dL_acts_240 : decode cL_acts 240 = .ok (.ireturn, 1) := by decide +kernel
theorem dL_isFirst_0 : decode cL_isFirst 0 = .ok (.iload_n 0, 1) := by decide +kernel
theorem dL_isFirst_1 : decode cL_isFirst 1 = .ok (.iconst 2, 1) := by decide +kernel
theorem dL_isFirst_2 : decode cL_isFirst 2 = .ok (.if_icmp .eq 16, 3) := by decide +kernel
theorem dL_isFirst_5 : decode cL_isFirst 5 = .ok (.iload_n 0, 1) := by decide +kernel
theorem dL_isFirst_6 : decode cL_isFirst 6 = .ok (.iload_n 1, 1) := by decide +kernel
theorem dL_isFirst_7 : decode cL_isFirst 7 = .ok (.ifCond .ne 7, 3) := by decide +kernel
theorem dL_isFirst_10 : decode cL_isFirst 10 = .ok (.iconst 1, 1) := by decide +kernel
theorem dL_isFirst_11 : decode cL_isFirst 11 = .ok (.goto 4, 3) := by decide +kernel
theorem dL_isFirst_14 : decode cL_isFirst 14 = .ok (.iconst (-1), 1) := by decide +kernel
theorem dL_isFirst_15 : decode cL_isFirst 15 = .ok (.if_icmp .ne 7, 3) := by decide +kernel
theorem dL_isFirst_18 : decode cL_isFirst 18 = .ok (.iconst 1, 1) := by decide +kernel
theorem dL_isFirst_19 : decode cL_isFirst 19 = .ok (.goto 4, 3) := by decide +kernel
theorem dL_isFirst_22 : decode cL_isFirst 22 = .ok (.iconst 0, 1) := by decide +kernel
theorem dL_isFirst_23 : decode cL_isFirst 23 = .ok (.ireturn, 1) := by decide +kernel
theorem dL_comesBack_0 : decode cL_comesBack 0 = .ok (.aload_n 0, 1) := by decide +kernel
theorem dL_comesBack_1 : decode cL_comesBack 1 = .ok (.iload_n 1, 1) := by decide +kernel
theorem dL_comesBack_2 : decode cL_comesBack 2 = .ok (.bipush 6, 2) := by decide +kernel
theorem dL_comesBack_4 : decode cL_comesBack 4 = .ok (.invokevirtual 45, 3) := by decide +kernel
theorem dL_comesBack_7 : decode cL_comesBack 7 = .ok (.istore_n 3, 1) := by decide +kernel
theorem dL_comesBack_8 : decode cL_comesBack 8 = .ok (.bipush 100, 2) := by decide +kernel
theorem dL_comesBack_10 : decode cL_comesBack 10 = .ok (.newarray .int, 2) := by decide +kernel
theorem dL_comesBack_12 : decode cL_comesBack 12 = .ok (.astore 4, 2) := by decide +kernel
theorem dL_comesBack_14 : decode cL_comesBack 14 = .ok (.iconst 0, 1) := by decide +kernel
theorem dL_comesBack_15 : decode cL_comesBack 15 = .ok (.istore 5, 2) := by decide +kernel
theorem dL_comesBack_17 : decode cL_comesBack 17 = .ok (.iconst (-1), 1) := by decide +kernel
theorem dL_comesBack_18 : decode cL_comesBack 18 = .ok (.istore 6, 2) := by decide +kernel
theorem dL_comesBack_20 : decode cL_comesBack 20 = .ok (.iconst 0, 1) := by decide +kernel
theorem dL_comesBack_21 : decode cL_comesBack 21 = .ok (.istore 7, 2) := by decide +kernel
theorem dL_comesBack_23 : decode cL_comesBack 23 = .ok (.iload 7, 2) := by decide +kernel
theorem dL_comesBack_25 : decode cL_comesBack 25 = .ok (.iload_n 3, 1) := by decide +kernel
theorem dL_comesBack_26 : decode cL_comesBack 26 = .ok (.if_icmp .ge 107, 3) := by decide +kernel
theorem dL_comesBack_29 : decode cL_comesBack 29 = .ok (.aload 4, 2) := by decide +kernel
theorem dL_comesBack_31 : decode cL_comesBack 31 = .ok (.iload 7, 2) := by decide +kernel
theorem dL_comesBack_33 : decode cL_comesBack 33 = .ok (.aload_n 0, 1) := by decide +kernel
theorem dL_comesBack_34 : decode cL_comesBack 34 = .ok (.iload_n 1, 1) := by decide +kernel
theorem dL_comesBack_35 : decode cL_comesBack 35 = .ok (.iload 7, 2) := by decide +kernel
theorem dL_comesBack_37 : decode cL_comesBack 37 = .ok (.invokevirtual 48, 3) := by decide +kernel
theorem dL_comesBack_40 : decode cL_comesBack 40 = .ok (.iastore, 1) := by decide +kernel
theorem dL_comesBack_41 : decode cL_comesBack 41 = .ok (.aload 4, 2) := by decide +kernel
theorem dL_comesBack_43 : decode cL_comesBack 43 = .ok (.iload 7, 2) := by decide +kernel
theorem dL_comesBack_45 : decode cL_comesBack 45 = .ok (.iaload, 1) := by decide +kernel
theorem dL_comesBack_46 : decode cL_comesBack 46 = .ok (.bipush 123, 2) := by decide +kernel
theorem dL_comesBack_48 : decode cL_comesBack 48 = .ok (.if_icmp .eq 13, 3) := by decide +kernel
theorem dL_comesBack_51 : decode cL_comesBack 51 = .ok (.aload 4, 2) := by decide +kernel
theorem dL_comesBack_53 : decode cL_comesBack 53 = .ok (.iload 7, 2) := by decide +kernel
theorem dL_comesBack_55 : decode cL_comesBack 55 = .ok (.iaload, 1) := by decide +kernel
theorem dL_comesBack_56 : decode cL_comesBack 56 = .ok (.bipush 45, 2) := by decide +kernel
theorem dL_comesBack_58 : decode cL_comesBack 58 = .ok (.if_icmp .ne 7, 3) := by decide +kernel
theorem dL_comesBack_61 : decode cL_comesBack 61 = .ok (.iconst 1, 1) := by decide +kernel
theorem dL_comesBack_62 : decode cL_comesBack 62 = .ok (.goto 4, 3) := by decide +kernel
theorem dL_comesBack_65 : decode cL_comesBack 65 = .ok (.iconst 0, 1) := by decide +kernel
theorem dL_comesBack_66 : decode cL_comesBack 66 = .ok (.istore 8, 2) := by decide +kernel
theorem dL_comesBack_68 : decode cL_comesBack 68 = .ok (.iload 8, 2) := by decide +kernel
theorem dL_comesBack_70 : decode cL_comesBack 70 = .ok (.ifCond .eq 19, 3) := by decide +kernel
theorem dL_comesBack_73 : decode cL_comesBack 73 = .ok (.iload 5, 2) := by decide +kernel
theorem dL_comesBack_75 : decode cL_comesBack 75 = .ok (.iconst 5, 1) := by decide +kernel
theorem dL_comesBack_76 : decode cL_comesBack 76 = .ok (.if_icmp .ne 13, 3) := by decide +kernel
theorem dL_comesBack_79 : decode cL_comesBack 79 = .ok (.iload 6, 2) := by decide +kernel
theorem dL_comesBack_81 : decode cL_comesBack 81 = .ok (.ifCond .ge 8, 3) := by decide +kernel
theorem dL_comesBack_84 : decode cL_comesBack 84 = .ok (.iload 7, 2) := by decide +kernel
theorem dL_comesBack_86 : decode cL_comesBack 86 = .ok (.goto 5, 3) := by decide +kernel
theorem dL_comesBack_89 : decode cL_comesBack 89 = .ok (.iload 6, 2) := by decide +kernel
theorem dL_comesBack_91 : decode cL_comesBack 91 = .ok (.istore 6, 2) := by decide +kernel
theorem dL_comesBack_93 : decode cL_comesBack 93 = .ok (.iload 5, 2) := by decide +kernel
theorem dL_comesBack_95 : decode cL_comesBack 95 = .ok (.aload 4, 2) := by decide +kernel
theorem dL_comesBack_97 : decode cL_comesBack 97 = .ok (.iload 7, 2) := by decide +kernel
theorem dL_comesBack_99 : decode cL_comesBack 99 = .ok (.iaload, 1) := by decide +kernel
theorem dL_comesBack_100 : decode cL_comesBack 100 = .ok (.bipush 123, 2) := by decide +kernel
theorem dL_comesBack_102 : decode cL_comesBack 102 = .ok (.if_icmp .ne 7, 3) := by decide +kernel
theorem dL_comesBack_105 : decode cL_comesBack 105 = .ok (.iconst 1, 1) := by decide +kernel
theorem dL_comesBack_106 : decode cL_comesBack 106 = .ok (.goto 18, 3) := by decide +kernel
theorem dL_comesBack_109 : decode cL_comesBack 109 = .ok (.aload 4, 2) := by decide +kernel
theorem dL_comesBack_111 : decode cL_comesBack 111 = .ok (.iload 7, 2) := by decide +kernel
theorem dL_comesBack_113 : decode cL_comesBack 113 = .ok (.iaload, 1) := by decide +kernel
theorem dL_comesBack_114 : decode cL_comesBack 114 = .ok (.bipush 125, 2) := by decide +kernel
theorem dL_comesBack_116 : decode cL_comesBack 116 = .ok (.if_icmp .ne 7, 3) := by decide +kernel
theorem dL_comesBack_119 : decode cL_comesBack 119 = .ok (.iconst (-1), 1) := by decide +kernel
theorem dL_comesBack_120 : decode cL_comesBack 120 = .ok (.goto 4, 3) := by decide +kernel
theorem dL_comesBack_123 : decode cL_comesBack 123 = .ok (.iconst 0, 1) := by decide +kernel
theorem dL_comesBack_124 : decode cL_comesBack 124 = .ok (.iadd, 1) := by decide +kernel
theorem dL_comesBack_125 : decode cL_comesBack 125 = .ok (.istore 5, 2) := by decide +kernel
theorem dL_comesBack_127 : decode cL_comesBack 127 = .ok (.iinc 7 1, 3) := by decide +kernel
theorem dL_comesBack_130 : decode cL_comesBack 130 = .ok (.goto (-107), 3) := by decide +kernel
theorem dL_comesBack_133 : decode cL_comesBack 133 = .ok (.aload_n 2, 1) := by decide +kernel
theorem dL_comesBack_134 : decode cL_comesBack 134 = .ok (.aload 4, 2) := by decide +kernel
theorem dL_comesBack_136 : decode cL_comesBack 136 = .ok (.iload_n 3, 1) := by decide +kernel
theorem dL_comesBack_137 : decode cL_comesBack 137 = .ok (.invokestatic 51, 3) := by decide +kernel
theorem dL_comesBack_140 : decode cL_comesBack 140 = .ok (.ifCond .ne 5, 3) := by decide +kernel
theorem dL_comesBack_143 : decode cL_comesBack 143 = .ok (.iconst 0, 1) := by decide +kernel
theorem dL_comesBack_144 : decode cL_comesBack 144 = .ok (.ireturn, 1) := by decide +kernel
theorem dL_comesBack_145 : decode cL_comesBack 145 = .ok (.aload_n 2, 1) := by decide +kernel
theorem dL_comesBack_146 : decode cL_comesBack 146 = .ok (.iconst 0, 1) := by decide +kernel
theorem dL_comesBack_147 : decode cL_comesBack 147 = .ok (.invokevirtual 55, 3) := by decide +kernel
theorem dL_comesBack_150 : decode cL_comesBack 150 = .ok (.istore 7, 2) := by decide +kernel
theorem dL_comesBack_152 : decode cL_comesBack 152 = .ok (.iload 6, 2) := by decide +kernel
theorem dL_comesBack_154 : decode cL_comesBack 154 = .ok (.ifCond .lt 19, 3) := by decide +kernel
theorem dL_comesBack_157 : decode cL_comesBack 157 = .ok (.iload 7, 2) := by decide +kernel
theorem dL_comesBack_159 : decode cL_comesBack 159 = .ok (.bipush (-10), 2) := by decide +kernel
theorem dL_comesBack_161 : decode cL_comesBack 161 = .ok (.iload 6, 2) := by decide +kernel
theorem dL_comesBack_163 : decode cL_comesBack 163 = .ok (.isub, 1) := by decide +kernel
theorem dL_comesBack_164 : decode cL_comesBack 164 = .ok (.if_icmp .ne 7, 3) := by decide +kernel
theorem dL_comesBack_167 : decode cL_comesBack 167 = .ok (.iconst 1, 1) := by decide +kernel
theorem dL_comesBack_168 : decode cL_comesBack 168 = .ok (.goto 4, 3) := by decide +kernel
theorem dL_comesBack_171 : decode cL_comesBack 171 = .ok (.iconst 0, 1) := by decide +kernel
theorem dL_comesBack_172 : decode cL_comesBack 172 = .ok (.ireturn, 1) := by decide +kernel
theorem dL_comesBack_173 : decode cL_comesBack 173 = .ok (.iload 7, 2) := by decide +kernel
theorem dL_comesBack_175 : decode cL_comesBack 175 = .ok (.aload_n 0, 1) := by decide +kernel
theorem dL_comesBack_176 : decode cL_comesBack 176 = .ok (.iload_n 1, 1) := by decide +kernel
theorem dL_comesBack_177 : decode cL_comesBack 177 = .ok (.iconst 0, 1) := by decide +kernel
theorem dL_comesBack_178 : decode cL_comesBack 178 = .ok (.invokevirtual 45, 3) := by decide +kernel
theorem dL_comesBack_181 : decode cL_comesBack 181 = .ok (.if_icmp .ne 14, 3) := by decide +kernel
theorem dL_comesBack_184 : decode cL_comesBack 184 = .ok (.aload_n 2, 1) := by decide +kernel
theorem dL_comesBack_185 : decode cL_comesBack 185 = .ok (.iconst 0, 1) := by decide +kernel
theorem dL_comesBack_186 : decode cL_comesBack 186 = .ok (.bipush 6, 2) := by decide +kernel
theorem dL_comesBack_188 : decode cL_comesBack 188 = .ok (.invokevirtual 45, 3) := by decide +kernel
theorem dL_comesBack_191 : decode cL_comesBack 191 = .ok (.iload_n 3, 1) := by decide +kernel
theorem dL_comesBack_192 : decode cL_comesBack 192 = .ok (.if_icmp .eq 5, 3) := by decide +kernel
theorem dL_comesBack_195 : decode cL_comesBack 195 = .ok (.iconst 0, 1) := by decide +kernel
theorem dL_comesBack_196 : decode cL_comesBack 196 = .ok (.ireturn, 1) := by decide +kernel
theorem dL_comesBack_197 : decode cL_comesBack 197 = .ok (.iconst 0, 1) := by decide +kernel
theorem dL_comesBack_198 : decode cL_comesBack 198 = .ok (.istore 8, 2) := by decide +kernel
theorem dL_comesBack_200 : decode cL_comesBack 200 = .ok (.iload 8, 2) := by decide +kernel
theorem dL_comesBack_202 : decode cL_comesBack 202 = .ok (.iload_n 3, 1) := by decide +kernel
theorem dL_comesBack_203 : decode cL_comesBack 203 = .ok (.if_icmp .ge 26, 3) := by decide +kernel
theorem dL_comesBack_206 : decode cL_comesBack 206 = .ok (.aload_n 2, 1) := by decide +kernel
theorem dL_comesBack_207 : decode cL_comesBack 207 = .ok (.iconst 0, 1) := by decide +kernel
theorem dL_comesBack_208 : decode cL_comesBack 208 = .ok (.iload 8, 2) := by decide +kernel
theorem dL_comesBack_210 : decode cL_comesBack 210 = .ok (.invokevirtual 48, 3) := by decide +kernel
theorem dL_comesBack_213 : decode cL_comesBack 213 = .ok (.aload 4, 2) := by decide +kernel
theorem dL_comesBack_215 : decode cL_comesBack 215 = .ok (.iload 8, 2) := by decide +kernel
theorem dL_comesBack_217 : decode cL_comesBack 217 = .ok (.iaload, 1) := by decide +kernel
theorem dL_comesBack_218 : decode cL_comesBack 218 = .ok (.if_icmp .eq 5, 3) := by decide +kernel
theorem dL_comesBack_221 : decode cL_comesBack 221 = .ok (.iconst 0, 1) := by decide +kernel
theorem dL_comesBack_222 : decode cL_comesBack 222 = .ok (.ireturn, 1) := by decide +kernel
theorem dL_comesBack_223 : decode cL_comesBack 223 = .ok (.iinc 8 1, 3) := by decide +kernel
theorem dL_comesBack_226 : decode cL_comesBack 226 = .ok (.goto (-26), 3) := by decide +kernel
theorem dL_comesBack_229 : decode cL_comesBack 229 = .ok (.aload_n 2, 1) := by decide +kernel
theorem dL_comesBack_230 : decode cL_comesBack 230 = .ok (.iconst 0, 1) := by decide +kernel
theorem dL_comesBack_231 : decode cL_comesBack 231 = .ok (.iconst 4, 1) := by decide +kernel
theorem dL_comesBack_232 : decode cL_comesBack 232 = .ok (.invokevirtual 45, 3) := by decide +kernel
theorem dL_comesBack_235 : decode cL_comesBack 235 = .ok (.aload_n 0, 1) := by decide +kernel
theorem dL_comesBack_236 : decode cL_comesBack 236 = .ok (.iload_n 1, 1) := by decide +kernel
theorem dL_comesBack_237 : decode cL_comesBack 237 = .ok (.iconst 4, 1) := by decide +kernel
theorem dL_comesBack_238 : decode cL_comesBack 238 = .ok (.invokevirtual 45, 3) := by decide +kernel
theorem dL_comesBack_241 : decode cL_comesBack 241 = .ok (.if_icmp .ne 37, 3) := by decide +kernel
theorem dL_comesBack_244 : decode cL_comesBack 244 = .ok (.aload_n 2, 1) := by decide +kernel
theorem dL_comesBack_245 : decode cL_comesBack 245 = .ok (.iconst 0, 1) := by decide +kernel
theorem dL_comesBack_246 : decode cL_comesBack 246 = .ok (.iconst 1, 1) := by decide +kernel
theorem dL_comesBack_247 : decode cL_comesBack 247 = .ok (.invokevirtual 45, 3) := by decide +kernel
theorem dL_comesBack_250 : decode cL_comesBack 250 = .ok (.aload_n 0, 1) := by decide +kernel
theorem dL_comesBack_251 : decode cL_comesBack 251 = .ok (.iload_n 1, 1) := by decide +kernel
theorem dL_comesBack_252 : decode cL_comesBack 252 = .ok (.iconst 1, 1) := by decide +kernel
theorem dL_comesBack_253 : decode cL_comesBack 253 = .ok (.invokevirtual 45, 3) := by decide +kernel
theorem dL_comesBack_256 : decode cL_comesBack 256 = .ok (.if_icmp .ne 22, 3) := by decide +kernel
theorem dL_comesBack_259 : decode cL_comesBack 259 = .ok (.aload_n 2, 1) := by decide +kernel
theorem dL_comesBack_260 : decode cL_comesBack 260 = .ok (.iconst 0, 1) := by decide +kernel
theorem dL_comesBack_261 : decode cL_comesBack 261 = .ok (.iconst 2, 1) := by decide +kernel
theorem dL_comesBack_262 : decode cL_comesBack 262 = .ok (.invokevirtual 45, 3) := by decide +kernel
theorem dL_comesBack_265 : decode cL_comesBack 265 = .ok (.aload_n 0, 1) := by decide +kernel
theorem dL_comesBack_266 : decode cL_comesBack 266 = .ok (.iload_n 1, 1) := by decide +kernel
theorem dL_comesBack_267 : decode cL_comesBack 267 = .ok (.iconst 2, 1) := by decide +kernel
theorem dL_comesBack_268 : decode cL_comesBack 268 = .ok (.invokevirtual 45, 3) := by decide +kernel
theorem dL_comesBack_271 : decode cL_comesBack 271 = .ok (.if_icmp .ne 7, 3) := by decide +kernel
theorem dL_comesBack_274 : decode cL_comesBack 274 = .ok (.iconst 1, 1) := by decide +kernel
theorem dL_comesBack_275 : decode cL_comesBack 275 = .ok (.goto 4, 3) := by decide +kernel
theorem dL_comesBack_278 : decode cL_comesBack 278 = .ok (.iconst 0, 1) := by decide +kernel
theorem dL_comesBack_279 : decode cL_comesBack 279 = .ok (.ireturn, 1) := by decide +kernel
theorem dL_fights_0 : decode cL_fights 0 = .ok (.aload_n 0, 1) := by decide +kernel
theorem dL_fights_1 : decode cL_fights 1 = .ok (.iload_n 1, 1) := by decide +kernel
theorem dL_fights_2 : decode cL_fights 2 = .ok (.iload_n 2, 1) := by decide +kernel
theorem dL_fights_3 : decode cL_fights 3 = .ok (.invokevirtual 59, 3) := by decide +kernel
theorem dL_fights_6 : decode cL_fights 6 = .ok (.istore 4, 2) := by decide +kernel
theorem dL_fights_8 : decode cL_fights 8 = .ok (.iload 4, 2) := by decide +kernel
theorem dL_fights_10 : decode cL_fights 10 = .ok (.iload_n 3, 1) := by decide +kernel
theorem dL_fights_11 : decode cL_fights 11 = .ok (.invokestatic 62, 3) := by decide +kernel
theorem dL_fights_14 : decode cL_fights 14 = .ok (.istore 5, 2) := by decide +kernel
theorem dL_fights_16 : decode cL_fights 16 = .ok (.aload_n 0, 1) := by decide +kernel
theorem dL_fights_17 : decode cL_fights 17 = .ok (.iload_n 1, 1) := by decide +kernel
theorem dL_fights_18 : decode cL_fights 18 = .ok (.iload_n 2, 1) := by decide +kernel
theorem dL_fights_19 : decode cL_fights 19 = .ok (.iload_n 3, 1) := by decide +kernel
theorem dL_fights_20 : decode cL_fights 20 = .ok (.iconst 0, 1) := by decide +kernel
theorem dL_fights_21 : decode cL_fights 21 = .ok (.invokevirtual 66, 3) := by decide +kernel
theorem dL_fights_24 : decode cL_fights 24 = .ok (.istore 6, 2) := by decide +kernel
theorem dL_fights_26 : decode cL_fights 26 = .ok (.aload_n 0, 1) := by decide +kernel
theorem dL_fights_27 : decode cL_fights 27 = .ok (.iload_n 1, 1) := by decide +kernel
theorem dL_fights_28 : decode cL_fights 28 = .ok (.iload_n 2, 1) := by decide +kernel
theorem dL_fights_29 : decode cL_fights 29 = .ok (.iload_n 3, 1) := by decide +kernel
theorem dL_fights_30 : decode cL_fights 30 = .ok (.iconst 1, 1) := by decide +kernel
theorem dL_fights_31 : decode cL_fights 31 = .ok (.invokevirtual 66, 3) := by decide +kernel
theorem dL_fights_34 : decode cL_fights 34 = .ok (.istore 7, 2) := by decide +kernel
theorem dL_fights_36 : decode cL_fights 36 = .ok (.aload_n 0, 1) := by decide +kernel
theorem dL_fights_37 : decode cL_fights 37 = .ok (.iload_n 1, 1) := by decide +kernel
theorem dL_fights_38 : decode cL_fights 38 = .ok (.iload_n 2, 1) := by decide +kernel
theorem dL_fights_39 : decode cL_fights 39 = .ok (.iload_n 3, 1) := by decide +kernel
theorem dL_fights_40 : decode cL_fights 40 = .ok (.iconst 0, 1) := by decide +kernel
theorem dL_fights_41 : decode cL_fights 41 = .ok (.invokevirtual 69, 3) := by decide +kernel
theorem dL_fights_44 : decode cL_fights 44 = .ok (.iload 5, 2) := by decide +kernel
theorem dL_fights_46 : decode cL_fights 46 = .ok (.ifCond .eq 9, 3) := by decide +kernel
theorem dL_fights_49 : decode cL_fights 49 = .ok (.iconst 1, 1) := by decide +kernel
theorem dL_fights_50 : decode cL_fights 50 = .ok (.iload_n 3, 1) := by decide +kernel
theorem dL_fights_51 : decode cL_fights 51 = .ok (.isub, 1) := by decide +kernel
theorem dL_fights_52 : decode cL_fights 52 = .ok (.goto 4, 3) := by decide +kernel
theorem dL_fights_55 : decode cL_fights 55 = .ok (.iload_n 3, 1) := by decide +kernel
theorem dL_fights_56 : decode cL_fights 56 = .ok (.if_icmp .ne 43, 3) := by decide +kernel
theorem dL_fights_59 : decode cL_fights 59 = .ok (.aload_n 0, 1) := by decide +kernel
theorem dL_fights_60 : decode cL_fights 60 = .ok (.iload_n 1, 1) := by decide +kernel
theorem dL_fights_61 : decode cL_fights 61 = .ok (.iload_n 2, 1) := by decide +kernel
theorem dL_fights_62 : decode cL_fights 62 = .ok (.iload_n 3, 1) := by decide +kernel
theorem dL_fights_63 : decode cL_fights 63 = .ok (.iconst 1, 1) := by decide +kernel
theorem dL_fights_64 : decode cL_fights 64 = .ok (.invokevirtual 69, 3) := by decide +kernel
theorem dL_fights_67 : decode cL_fights 67 = .ok (.iconst 2, 1) := by decide +kernel
theorem dL_fights_68 : decode cL_fights 68 = .ok (.irem, 1) := by decide +kernel
theorem dL_fights_69 : decode cL_fights 69 = .ok (.iload 5, 2) := by decide +kernel
theorem dL_fights_71 : decode cL_fights 71 = .ok (.ifCond .eq 7, 3) := by decide +kernel
theorem dL_fights_74 : decode cL_fights 74 = .ok (.iconst 1, 1) := by decide +kernel
theorem dL_fights_75 : decode cL_fights 75 = .ok (.goto 4, 3) := by decide +kernel
theorem dL_fights_78 : decode cL_fights 78 = .ok (.iconst 0, 1) := by decide +kernel
theorem dL_fights_79 : decode cL_fights 79 = .ok (.if_icmp .ne 20, 3) := by decide +kernel
theorem dL_fights_82 : decode cL_fights 82 = .ok (.iload 6, 2) := by decide +kernel
theorem dL_fights_84 : decode cL_fights 84 = .ok (.ldc 72, 2) := by decide +kernel
theorem dL_fights_86 : decode cL_fights 86 = .ok (.if_icmp .ne 7, 3) := by decide +kernel
theorem dL_fights_89 : decode cL_fights 89 = .ok (.iconst 1, 1) := by decide +kernel
theorem dL_fights_90 : decode cL_fights 90 = .ok (.goto 4, 3) := by decide +kernel
theorem dL_fights_93 : decode cL_fights 93 = .ok (.iconst 0, 1) := by decide +kernel
theorem dL_fights_94 : decode cL_fights 94 = .ok (.iload 5, 2) := by decide +kernel
theorem dL_fights_96 : decode cL_fights 96 = .ok (.if_icmp .ne 5, 3) := by decide +kernel
theorem dL_fights_99 : decode cL_fights 99 = .ok (.iconst 0, 1) := by decide +kernel
theorem dL_fights_100 : decode cL_fights 100 = .ok (.ireturn, 1) := by decide +kernel
theorem dL_fights_101 : decode cL_fights 101 = .ok (.iload 5, 2) := by decide +kernel
theorem dL_fights_103 : decode cL_fights 103 = .ok (.ifCond .ne 16, 3) := by decide +kernel
theorem dL_fights_106 : decode cL_fights 106 = .ok (.iload 7, 2) := by decide +kernel
theorem dL_fights_108 : decode cL_fights 108 = .ok (.ldc 72, 2) := by decide +kernel
theorem dL_fights_110 : decode cL_fights 110 = .ok (.if_icmp .ne 7, 3) := by decide +kernel
theorem dL_fights_113 : decode cL_fights 113 = .ok (.iconst 1, 1) := by decide +kernel
theorem dL_fights_114 : decode cL_fights 114 = .ok (.goto 4, 3) := by decide +kernel
theorem dL_fights_117 : decode cL_fights 117 = .ok (.iconst 0, 1) := by decide +kernel
theorem dL_fights_118 : decode cL_fights 118 = .ok (.ireturn, 1) := by decide +kernel
theorem dL_fights_119 : decode cL_fights 119 = .ok (.iload 6, 2) := by decide +kernel
theorem dL_fights_121 : decode cL_fights 121 = .ok (.ifCond .eq 9, 3) := by decide +kernel
theorem dL_fights_124 : decode cL_fights 124 = .ok (.iload 6, 2) := by decide +kernel
theorem dL_fights_126 : decode cL_fights 126 = .ok (.iconst 1, 1) := by decide +kernel
theorem dL_fights_127 : decode cL_fights 127 = .ok (.if_icmp .ne 26, 3) := by decide +kernel
theorem dL_fights_130 : decode cL_fights 130 = .ok (.aload_n 0, 1) := by decide +kernel
theorem dL_fights_131 : decode cL_fights 131 = .ok (.bipush 6, 2) := by decide +kernel
theorem dL_fights_133 : decode cL_fights 133 = .ok (.iload 6, 2) := by decide +kernel
theorem dL_fights_135 : decode cL_fights 135 = .ok (.ifCond .ne 7, 3) := by decide +kernel
theorem dL_fights_138 : decode cL_fights 138 = .ok (.iload_n 1, 1) := by decide +kernel
theorem dL_fights_139 : decode cL_fights 139 = .ok (.goto 4, 3) := by decide +kernel
theorem dL_fights_142 : decode cL_fights 142 = .ok (.iload_n 2, 1) := by decide +kernel
theorem dL_fights_143 : decode cL_fights 143 = .ok (.iload_n 3, 1) := by decide +kernel
theorem dL_fights_144 : decode cL_fights 144 = .ok (.iload 7, 2) := by decide +kernel
theorem dL_fights_146 : decode cL_fights 146 = .ok (.invokevirtual 73, 3) := by decide +kernel
theorem dL_fights_149 : decode cL_fights 149 = .ok (.iconst 1, 1) := by decide +kernel
theorem dL_fights_150 : decode cL_fights 150 = .ok (.if_icmp .ge 5, 3) := by decide +kernel
theorem dL_fights_153 : decode cL_fights 153 = .ok (.iconst 0, 1) := by decide +kernel
theorem dL_fights_154 : decode cL_fights 154 = .ok (.ireturn, 1) := by decide +kernel
theorem dL_fights_155 : decode cL_fights 155 = .ok (.aload_n 0, 1) := by decide +kernel
theorem dL_fights_156 : decode cL_fights 156 = .ok (.bipush 6, 2) := by decide +kernel
theorem dL_fights_158 : decode cL_fights 158 = .ok (.iload 6, 2) := by decide +kernel
theorem dL_fights_160 : decode cL_fights 160 = .ok (.ifCond .ne 7, 3) := by decide +kernel
theorem dL_fights_163 : decode cL_fights 163 = .ok (.iload_n 2, 1) := by decide +kernel
theorem dL_fights_164 : decode cL_fights 164 = .ok (.goto 4, 3) := by decide +kernel
theorem dL_fights_167 : decode cL_fights 167 = .ok (.iload_n 1, 1) := by decide +kernel
theorem dL_fights_168 : decode cL_fights 168 = .ok (.invokevirtual 59, 3) := by decide +kernel
theorem dL_fights_171 : decode cL_fights 171 = .ok (.iconst 1, 1) := by decide +kernel
theorem dL_fights_172 : decode cL_fights 172 = .ok (.iload_n 3, 1) := by decide +kernel
theorem dL_fights_173 : decode cL_fights 173 = .ok (.isub, 1) := by decide +kernel
theorem dL_fights_174 : decode cL_fights 174 = .ok (.invokestatic 62, 3) := by decide +kernel
theorem dL_fights_177 : decode cL_fights 177 = .ok (.ifCond .ne 7, 3) := by decide +kernel
theorem dL_fights_180 : decode cL_fights 180 = .ok (.iconst 1, 1) := by decide +kernel
theorem dL_fights_181 : decode cL_fights 181 = .ok (.goto 4, 3) := by decide +kernel
theorem dL_fights_184 : decode cL_fights 184 = .ok (.iconst 0, 1) := by decide +kernel
theorem dL_fights_185 : decode cL_fights 185 = .ok (.ireturn, 1) := by decide +kernel
theorem dL_weighs_0 : decode cL_weighs 0 = .ok (.aload_n 0, 1) := by decide +kernel
theorem dL_weighs_1 : decode cL_weighs 1 = .ok (.iload_n 1, 1) := by decide +kernel
theorem dL_weighs_2 : decode cL_weighs 2 = .ok (.invokevirtual 76, 3) := by decide +kernel
theorem dL_weighs_5 : decode cL_weighs 5 = .ok (.istore_n 3, 1) := by decide +kernel
theorem dL_weighs_6 : decode cL_weighs 6 = .ok (.aload_n 0, 1) := by decide +kernel
theorem dL_weighs_7 : decode cL_weighs 7 = .ok (.iload_n 2, 1) := by decide +kernel
theorem dL_weighs_8 : decode cL_weighs 8 = .ok (.invokevirtual 76, 3) := by decide +kernel
theorem dL_weighs_11 : decode cL_weighs 11 = .ok (.istore 4, 2) := by decide +kernel
theorem dL_weighs_13 : decode cL_weighs 13 = .ok (.aload_n 0, 1) := by decide +kernel
theorem dL_weighs_14 : decode cL_weighs 14 = .ok (.iload_n 1, 1) := by decide +kernel
theorem dL_weighs_15 : decode cL_weighs 15 = .ok (.invokevirtual 79, 3) := by decide +kernel
theorem dL_weighs_18 : decode cL_weighs 18 = .ok (.istore 5, 2) := by decide +kernel
theorem dL_weighs_20 : decode cL_weighs 20 = .ok (.aload_n 0, 1) := by decide +kernel
theorem dL_weighs_21 : decode cL_weighs 21 = .ok (.iload_n 1, 1) := by decide +kernel
theorem dL_weighs_22 : decode cL_weighs 22 = .ok (.iconst 5, 1) := by decide +kernel
theorem dL_weighs_23 : decode cL_weighs 23 = .ok (.invokevirtual 45, 3) := by decide +kernel
theorem dL_weighs_26 : decode cL_weighs 26 = .ok (.ifCond .ne 34, 3) := by decide +kernel
theorem dL_weighs_29 : decode cL_weighs 29 = .ok (.iload_n 3, 1) := by decide +kernel
theorem dL_weighs_30 : decode cL_weighs 30 = .ok (.ldc 82, 2) := by decide +kernel
theorem dL_weighs_32 : decode cL_weighs 32 = .ok (.if_icmp .ne 26, 3) := by decide +kernel
theorem dL_weighs_35 : decode cL_weighs 35 = .ok (.iload 5, 2) := by decide +kernel
theorem dL_weighs_37 : decode cL_weighs 37 = .ok (.ldc 82, 2) := by decide +kernel
theorem dL_weighs_39 : decode cL_weighs 39 = .ok (.if_icmp .ne 19, 3) := by decide +kernel
theorem dL_weighs_42 : decode cL_weighs 42 = .ok (.aload_n 0, 1) := by decide +kernel
theorem dL_weighs_43 : decode cL_weighs 43 = .ok (.bipush 6, 2) := by decide +kernel
theorem dL_weighs_45 : decode cL_weighs 45 = .ok (.iload_n 1, 1) := by decide +kernel
theorem dL_weighs_46 : decode cL_weighs 46 = .ok (.invokevirtual 83, 3) := by decide +kernel
theorem dL_weighs_49 : decode cL_weighs 49 = .ok (.ldc 82, 2) := by decide +kernel
theorem dL_weighs_51 : decode cL_weighs 51 = .ok (.if_icmp .ne 7, 3) := by decide +kernel
theorem dL_weighs_54 : decode cL_weighs 54 = .ok (.iconst 1, 1) := by decide +kernel
theorem dL_weighs_55 : decode cL_weighs 55 = .ok (.goto 4, 3) := by decide +kernel
theorem dL_weighs_58 : decode cL_weighs 58 = .ok (.iconst 0, 1) := by decide +kernel
theorem dL_weighs_59 : decode cL_weighs 59 = .ok (.ireturn, 1) := by decide +kernel
theorem dL_weighs_60 : decode cL_weighs 60 = .ok (.iload 5, 2) := by decide +kernel
theorem dL_weighs_62 : decode cL_weighs 62 = .ok (.ifCond .eq 14, 3) := by decide +kernel
theorem dL_weighs_65 : decode cL_weighs 65 = .ok (.aload_n 0, 1) := by decide +kernel
theorem dL_weighs_66 : decode cL_weighs 66 = .ok (.iload_n 1, 1) := by decide +kernel
theorem dL_weighs_67 : decode cL_weighs 67 = .ok (.iconst 4, 1) := by decide +kernel
theorem dL_weighs_68 : decode cL_weighs 68 = .ok (.invokevirtual 45, 3) := by decide +kernel
theorem dL_weighs_71 : decode cL_weighs 71 = .ok (.iload 5, 2) := by decide +kernel
theorem dL_weighs_73 : decode cL_weighs 73 = .ok (.if_icmp .ne 37, 3) := by decide +kernel
theorem dL_weighs_76 : decode cL_weighs 76 = .ok (.iload 5, 2) := by decide +kernel
theorem dL_weighs_78 : decode cL_weighs 78 = .ok (.iload_n 3, 1) := by decide +kernel
theorem dL_weighs_79 : decode cL_weighs 79 = .ok (.ldc 72, 2) := by decide +kernel
theorem dL_weighs_81 : decode cL_weighs 81 = .ok (.if_icmp .ne 7, 3) := by decide +kernel
theorem dL_weighs_84 : decode cL_weighs 84 = .ok (.iconst 0, 1) := by decide +kernel
theorem dL_weighs_85 : decode cL_weighs 85 = .ok (.goto 22, 3) := by decide +kernel
theorem dL_weighs_88 : decode cL_weighs 88 = .ok (.iload_n 3, 1) := by decide +kernel
theorem dL_weighs_89 : decode cL_weighs 89 = .ok (.iconst 1, 1) := by decide +kernel
theorem dL_weighs_90 : decode cL_weighs 90 = .ok (.if_icmp .le 7, 3) := by decide +kernel
theorem dL_weighs_93 : decode cL_weighs 93 = .ok (.iconst 1, 1) := by decide +kernel
theorem dL_weighs_94 : decode cL_weighs 94 = .ok (.goto 13, 3) := by decide +kernel
theorem dL_weighs_97 : decode cL_weighs 97 = .ok (.iload_n 3, 1) := by decide +kernel
theorem dL_weighs_98 : decode cL_weighs 98 = .ok (.iconst (-1), 1) := by decide +kernel
theorem dL_weighs_99 : decode cL_weighs 99 = .ok (.if_icmp .ge 7, 3) := by decide +kernel
theorem dL_weighs_102 : decode cL_weighs 102 = .ok (.iconst (-1), 1) := by decide +kernel
theorem dL_weighs_103 : decode cL_weighs 103 = .ok (.goto 4, 3) := by decide +kernel
theorem dL_weighs_106 : decode cL_weighs 106 = .ok (.iconst 0, 1) := by decide +kernel
theorem dL_weighs_107 : decode cL_weighs 107 = .ok (.if_icmp .eq 5, 3) := by decide +kernel
theorem dL_weighs_110 : decode cL_weighs 110 = .ok (.iconst 0, 1) := by decide +kernel
theorem dL_weighs_111 : decode cL_weighs 111 = .ok (.ireturn, 1) := by decide +kernel
theorem dL_weighs_112 : decode cL_weighs 112 = .ok (.aload_n 0, 1) := by decide +kernel
theorem dL_weighs_113 : decode cL_weighs 113 = .ok (.iload_n 2, 1) := by decide +kernel
theorem dL_weighs_114 : decode cL_weighs 114 = .ok (.iconst 5, 1) := by decide +kernel
theorem dL_weighs_115 : decode cL_weighs 115 = .ok (.invokevirtual 45, 3) := by decide +kernel
theorem dL_weighs_118 : decode cL_weighs 118 = .ok (.ifCond .eq 14, 3) := by decide +kernel
theorem dL_weighs_121 : decode cL_weighs 121 = .ok (.aload_n 0, 1) := by decide +kernel
theorem dL_weighs_122 : decode cL_weighs 122 = .ok (.bipush 6, 2) := by decide +kernel
theorem dL_weighs_124 : decode cL_weighs 124 = .ok (.iload_n 1, 1) := by decide +kernel
theorem dL_weighs_125 : decode cL_weighs 125 = .ok (.iload_n 2, 1) := by decide +kernel
theorem dL_weighs_126 : decode cL_weighs 126 = .ok (.invokevirtual 36, 3) := by decide +kernel
theorem dL_weighs_129 : decode cL_weighs 129 = .ok (.ifCond .ge 5, 3) := by decide +kernel
theorem dL_weighs_132 : decode cL_weighs 132 = .ok (.iconst 1, 1) := by decide +kernel
theorem dL_weighs_133 : decode cL_weighs 133 = .ok (.ireturn, 1) := by decide +kernel
theorem dL_weighs_134 : decode cL_weighs 134 = .ok (.aload_n 0, 1) := by decide +kernel
theorem dL_weighs_135 : decode cL_weighs 135 = .ok (.bipush 6, 2) := by decide +kernel
theorem dL_weighs_137 : decode cL_weighs 137 = .ok (.iconst 5, 1) := by decide +kernel
theorem dL_weighs_138 : decode cL_weighs 138 = .ok (.invokevirtual 45, 3) := by decide +kernel
theorem dL_weighs_141 : decode cL_weighs 141 = .ok (.iconst 1, 1) := by decide +kernel
theorem dL_weighs_142 : decode cL_weighs 142 = .ok (.if_icmp .eq 5, 3) := by decide +kernel
theorem dL_weighs_145 : decode cL_weighs 145 = .ok (.iconst 0, 1) := by decide +kernel
theorem dL_weighs_146 : decode cL_weighs 146 = .ok (.ireturn, 1) := by decide +kernel
theorem dL_weighs_147 : decode cL_weighs 147 = .ok (.iload_n 3, 1) := by decide +kernel
theorem dL_weighs_148 : decode cL_weighs 148 = .ok (.ldc 72, 2) := by decide +kernel
theorem dL_weighs_150 : decode cL_weighs 150 = .ok (.if_icmp .eq 50, 3) := by decide +kernel
theorem dL_weighs_153 : decode cL_weighs 153 = .ok (.iload 4, 2) := by decide +kernel
theorem dL_weighs_155 : decode cL_weighs 155 = .ok (.ldc 72, 2) := by decide +kernel
theorem dL_weighs_157 : decode cL_weighs 157 = .ok (.if_icmp .eq 43, 3) := by decide +kernel
theorem dL_weighs_160 : decode cL_weighs 160 = .ok (.aload_n 0, 1) := by decide +kernel
theorem dL_weighs_161 : decode cL_weighs 161 = .ok (.bipush 6, 2) := by decide +kernel
theorem dL_weighs_163 : decode cL_weighs 163 = .ok (.invokevirtual 76, 3) := by decide +kernel
theorem dL_weighs_166 : decode cL_weighs 166 = .ok (.iload_n 3, 1) := by decide +kernel
theorem dL_weighs_167 : decode cL_weighs 167 = .ok (.iload 4, 2) := by decide +kernel
theorem dL_weighs_169 : decode cL_weighs 169 = .ok (.iadd, 1) := by decide +kernel
theorem dL_weighs_170 : decode cL_weighs 170 = .ok (.if_icmp .ne 34, 3) := by decide +kernel
theorem dL_weighs_173 : decode cL_weighs 173 = .ok (.aload_n 0, 1) := by decide +kernel
theorem dL_weighs_174 : decode cL_weighs 174 = .ok (.iconst 1, 1) := by decide +kernel
theorem dL_weighs_175 : decode cL_weighs 175 = .ok (.iload_n 1, 1) := by decide +kernel
theorem dL_weighs_176 : decode cL_weighs 176 = .ok (.ishl, 1) := by decide +kernel
theorem dL_weighs_177 : decode cL_weighs 177 = .ok (.iconst 1, 1) := by decide +kernel
theorem dL_weighs_178 : decode cL_weighs 178 = .ok (.iload_n 2, 1) := by decide +kernel
theorem dL_weighs_179 : decode cL_weighs 179 = .ok (.ishl, 1) := by decide +kernel
theorem dL_weighs_180 : decode cL_weighs 180 = .ok (.ior, 1) := by decide +kernel
theorem dL_weighs_181 : decode cL_weighs 181 = .ok (.invokevirtual 86, 3) := by decide +kernel
theorem dL_weighs_184 : decode cL_weighs 184 = .ok (.iload_n 1, 1) := by decide +kernel
theorem dL_weighs_185 : decode cL_weighs 185 = .ok (.iload_n 2, 1) := by decide +kernel
theorem dL_weighs_186 : decode cL_weighs 186 = .ok (.if_icmp .ne 7, 3) := by decide +kernel
theorem dL_weighs_189 : decode cL_weighs 189 = .ok (.iload_n 3, 1) := by decide +kernel
theorem dL_weighs_190 : decode cL_weighs 190 = .ok (.goto 7, 3) := by decide +kernel
theorem dL_weighs_193 : decode cL_weighs 193 = .ok (.iload_n 3, 1) := by decide +kernel
theorem dL_weighs_194 : decode cL_weighs 194 = .ok (.iload 4, 2) := by decide +kernel
theorem dL_weighs_196 : decode cL_weighs 196 = .ok (.iadd, 1) := by decide +kernel
theorem dL_weighs_197 : decode cL_weighs 197 = .ok (.if_icmp .ne 7, 3) := by decide +kernel
theorem dL_weighs_200 : decode cL_weighs 200 = .ok (.iconst 1, 1) := by decide +kernel
theorem dL_weighs_201 : decode cL_weighs 201 = .ok (.goto 4, 3) := by decide +kernel
theorem dL_weighs_204 : decode cL_weighs 204 = .ok (.iconst 0, 1) := by decide +kernel
theorem dL_weighs_205 : decode cL_weighs 205 = .ok (.ireturn, 1) := by decide +kernel
theorem dL_law_0 : decode cL_law 0 = .ok (.new 10, 3) := by decide +kernel
theorem dL_law_3 : decode cL_law 3 = .ok (.dup, 1) := by decide +kernel
theorem dL_law_4 : decode cL_law 4 = .ok (.invokespecial 89, 3) := by decide +kernel
theorem dL_law_7 : decode cL_law 7 = .ok (.astore_n 1, 1) := by decide +kernel
theorem dL_law_8 : decode cL_law 8 = .ok (.new 10, 3) := by decide +kernel
theorem dL_law_11 : decode cL_law 11 = .ok (.dup, 1) := by decide +kernel
theorem dL_law_12 : decode cL_law 12 = .ok (.invokespecial 89, 3) := by decide +kernel
theorem dL_law_15 : decode cL_law 15 = .ok (.astore_n 2, 1) := by decide +kernel
theorem dL_law_16 : decode cL_law 16 = .ok (.iconst 0, 1) := by decide +kernel
theorem dL_law_17 : decode cL_law 17 = .ok (.istore_n 3, 1) := by decide +kernel
theorem dL_law_18 : decode cL_law 18 = .ok (.iload_n 3, 1) := by decide +kernel
theorem dL_law_19 : decode cL_law 19 = .ok (.bipush 12, 2) := by decide +kernel
theorem dL_law_21 : decode cL_law 21 = .ok (.if_icmp .ge 35, 3) := by decide +kernel
theorem dL_law_24 : decode cL_law 24 = .ok (.aload_n 1, 1) := by decide +kernel
theorem dL_law_25 : decode cL_law 25 = .ok (.aload_n 0, 1) := by decide +kernel
theorem dL_law_26 : decode cL_law 26 = .ok (.iload_n 3, 1) := by decide +kernel
theorem dL_law_27 : decode cL_law 27 = .ok (.invokestatic 90, 3) := by decide +kernel
theorem dL_law_30 : decode cL_law 30 = .ok (.invokestatic 94, 3) := by decide +kernel
theorem dL_law_33 : decode cL_law 33 = .ok (.istore 4, 2) := by decide +kernel
theorem dL_law_35 : decode cL_law 35 = .ok (.iload 4, 2) := by decide +kernel
theorem dL_law_37 : decode cL_law 37 = .ok (.iconst 1, 1) := by decide +kernel
theorem dL_law_38 : decode cL_law 38 = .ok (.if_icmp .ge 12, 3) := by decide +kernel
theorem dL_law_41 : decode cL_law 41 = .ok (.iload 4, 2) := by decide +kernel
theorem dL_law_43 : decode cL_law 43 = .ok (.ldc 98, 2) := by decide +kernel
theorem dL_law_45 : decode cL_law 45 = .ok (.if_icmp .eq 5, 3) := by decide +kernel
theorem dL_law_48 : decode cL_law 48 = .ok (.iconst 0, 1) := by decide +kernel
theorem dL_law_49 : decode cL_law 49 = .ok (.ireturn, 1) := by decide +kernel
theorem dL_law_50 : decode cL_law 50 = .ok (.iinc 3 1, 3) := by decide +kernel
theorem dL_law_53 : decode cL_law 53 = .ok (.goto (-35), 3) := by decide +kernel
theorem dL_law_56 : decode cL_law 56 = .ok (.iconst 0, 1) := by decide +kernel
theorem dL_law_57 : decode cL_law 57 = .ok (.istore_n 3, 1) := by decide +kernel
theorem dL_law_58 : decode cL_law 58 = .ok (.iload_n 3, 1) := by decide +kernel
theorem dL_law_59 : decode cL_law 59 = .ok (.iconst 3, 1) := by decide +kernel
theorem dL_law_60 : decode cL_law 60 = .ok (.if_icmp .ge 218, 3) := by decide +kernel
theorem dL_law_63 : decode cL_law 63 = .ok (.aload_n 0, 1) := by decide +kernel
theorem dL_law_64 : decode cL_law 64 = .ok (.bipush 12, 2) := by decide +kernel
theorem dL_law_66 : decode cL_law 66 = .ok (.iload_n 3, 1) := by decide +kernel
theorem dL_law_67 : decode cL_law 67 = .ok (.iadd, 1) := by decide +kernel
theorem dL_law_68 : decode cL_law 68 = .ok (.invokestatic 90, 3) := by decide +kernel
theorem dL_law_71 : decode cL_law 71 = .ok (.istore 4, 2) := by decide +kernel
theorem dL_law_73 : decode cL_law 73 = .ok (.iload 4, 2) := by decide +kernel
theorem dL_law_75 : decode cL_law 75 = .ok (.bipush 6, 2) := by decide +kernel
theorem dL_law_77 : decode cL_law 77 = .ok (.invokestatic 15, 3) := by decide +kernel
theorem dL_law_80 : decode cL_law 80 = .ok (.istore 5, 2) := by decide +kernel
theorem dL_law_82 : decode cL_law 82 = .ok (.iload 4, 2) := by decide +kernel
theorem dL_law_84 : decode cL_law 84 = .ok (.iconst 4, 1) := by decide +kernel
theorem dL_law_85 : decode cL_law 85 = .ok (.ishr, 1) := by decide +kernel
theorem dL_law_86 : decode cL_law 86 = .ok (.bipush 6, 2) := by decide +kernel
theorem dL_law_88 : decode cL_law 88 = .ok (.invokestatic 15, 3) := by decide +kernel
theorem dL_law_91 : decode cL_law 91 = .ok (.istore 6, 2) := by decide +kernel
theorem dL_law_93 : decode cL_law 93 = .ok (.aload_n 1, 1) := by decide +kernel
theorem dL_law_94 : decode cL_law 94 = .ok (.iload 5, 2) := by decide +kernel
theorem dL_law_96 : decode cL_law 96 = .ok (.iload 6, 2) := by decide +kernel
theorem dL_law_98 : decode cL_law 98 = .ok (.invokevirtual 99, 3) := by decide +kernel
theorem dL_law_101 : decode cL_law 101 = .ok (.istore 7, 2) := by decide +kernel
theorem dL_law_103 : decode cL_law 103 = .ok (.aload_n 1, 1) := by decide +kernel
theorem dL_law_104 : decode cL_law 104 = .ok (.bipush 7, 2) := by decide +kernel
theorem dL_law_106 : decode cL_law 106 = .ok (.iload 6, 2) := by decide +kernel
theorem dL_law_108 : decode cL_law 108 = .ok (.invokevirtual 39, 3) := by decide +kernel
theorem dL_law_111 : decode cL_law 111 = .ok (.istore 8, 2) := by decide +kernel
theorem dL_law_113 : decode cL_law 113 = .ok (.iload 8, 2) := by decide +kernel
theorem dL_law_115 : decode cL_law 115 = .ok (.ldc 98, 2) := by decide +kernel
theorem dL_law_117 : decode cL_law 117 = .ok (.if_icmp .ne 6, 3) := by decide +kernel
theorem dL_law_120 : decode cL_law 120 = .ok (.goto 152, 3) := by decide +kernel
theorem dL_law_123 : decode cL_law 123 = .ok (.iload 8, 2) := by decide +kernel
theorem dL_law_125 : decode cL_law 125 = .ok (.aload_n 1, 1) := by decide +kernel
theorem dL_law_126 : decode cL_law 126 = .ok (.iload 6, 2) := by decide +kernel
theorem dL_law_128 : decode cL_law 128 = .ok (.iconst 0, 1) := by decide +kernel
theorem dL_law_129 : decode cL_law 129 = .ok (.invokevirtual 45, 3) := by decide +kernel
theorem dL_law_132 : decode cL_law 132 = .ok (.if_icmp .ne 91, 3) := by decide +kernel
theorem dL_law_135 : decode cL_law 135 = .ok (.aload_n 1, 1) := by decide +kernel
theorem dL_law_136 : decode cL_law 136 = .ok (.iload 6, 2) := by decide +kernel
theorem dL_law_138 : decode cL_law 138 = .ok (.bipush 7, 2) := by decide +kernel
theorem dL_law_140 : decode cL_law 140 = .ok (.invokevirtual 59, 3) := by decide +kernel
theorem dL_law_143 : decode cL_law 143 = .ok (.ifCond .ne 80, 3) := by decide +kernel
theorem dL_law_146 : decode cL_law 146 = .ok (.aload_n 1, 1) := by decide +kernel
theorem dL_law_147 : decode cL_law 147 = .ok (.iload 5, 2) := by decide +kernel
theorem dL_law_149 : decode cL_law 149 = .ok (.bipush 7, 2) := by decide +kernel
theorem dL_law_151 : decode cL_law 151 = .ok (.invokevirtual 59, 3) := by decide +kernel
theorem dL_law_154 : decode cL_law 154 = .ok (.iload 7, 2) := by decide +kernel
theorem dL_law_156 : decode cL_law 156 = .ok (.if_icmp .ne 67, 3) := by decide +kernel
theorem dL_law_159 : decode cL_law 159 = .ok (.aload_n 1, 1) := by decide +kernel
theorem dL_law_160 : decode cL_law 160 = .ok (.iload 6, 2) := by decide +kernel
theorem dL_law_162 : decode cL_law 162 = .ok (.iload 5, 2) := by decide +kernel
theorem dL_law_164 : decode cL_law 164 = .ok (.invokevirtual 99, 3) := by decide +kernel
theorem dL_law_167 : decode cL_law 167 = .ok (.iload 7, 2) := by decide +kernel
theorem dL_law_169 : decode cL_law 169 = .ok (.iconst 2, 1) := by decide +kernel
theorem dL_law_170 : decode cL_law 170 = .ok (.if_icmp .ne 7, 3) := by decide +kernel
theorem dL_law_173 : decode cL_law 173 = .ok (.iconst 2, 1) := by decide +kernel
theorem dL_law_174 : decode cL_law 174 = .ok (.goto 6, 3) := by decide +kernel
theorem dL_law_177 : decode cL_law 177 = .ok (.iload 7, 2) := by decide +kernel
theorem dL_law_179 : decode cL_law 179 = .ok (.ineg, 1) := by decide +kernel
theorem dL_law_180 : decode cL_law 180 = .ok (.if_icmp .ne 43, 3) := by decide +kernel
theorem dL_law_183 : decode cL_law 183 = .ok (.aload_n 1, 1) := by decide +kernel
theorem dL_law_184 : decode cL_law 184 = .ok (.iload 5, 2) := by decide +kernel
theorem dL_law_186 : decode cL_law 186 = .ok (.iload 6, 2) := by decide +kernel
theorem dL_law_188 : decode cL_law 188 = .ok (.iload 4, 2) := by decide +kernel
theorem dL_law_190 : decode cL_law 190 = .ok (.bipush 8, 2) := by decide +kernel
theorem dL_law_192 : decode cL_law 192 = .ok (.ishr, 1) := by decide +kernel
theorem dL_law_193 : decode cL_law 193 = .ok (.iconst 2, 1) := by decide +kernel
theorem dL_law_194 : decode cL_law 194 = .ok (.invokestatic 15, 3) := by decide +kernel
theorem dL_law_197 : decode cL_law 197 = .ok (.invokestatic 102, 3) := by decide +kernel
theorem dL_law_200 : decode cL_law 200 = .ok (.ifCond .eq 23, 3) := by decide +kernel
theorem dL_law_203 : decode cL_law 203 = .ok (.aload_n 1, 1) := by decide +kernel
theorem dL_law_204 : decode cL_law 204 = .ok (.iload 5, 2) := by decide +kernel
theorem dL_law_206 : decode cL_law 206 = .ok (.bipush 7, 2) := by decide +kernel
theorem dL_law_208 : decode cL_law 208 = .ok (.iload 4, 2) := by decide +kernel
theorem dL_law_210 : decode cL_law 210 = .ok (.bipush 9, 2) := by decide +kernel
theorem dL_law_212 : decode cL_law 212 = .ok (.ishr, 1) := by decide +kernel
theorem dL_law_213 : decode cL_law 213 = .ok (.iconst 2, 1) := by decide +kernel
theorem dL_law_214 : decode cL_law 214 = .ok (.invokestatic 15, 3) := by decide +kernel
theorem dL_law_217 : decode cL_law 217 = .ok (.invokestatic 102, 3) := by decide +kernel
theorem dL_law_220 : decode cL_law 220 = .ok (.ifCond .ne 5, 3) := by decide +kernel
theorem dL_law_223 : decode cL_law 223 = .ok (.iconst 0, 1) := by decide +kernel
theorem dL_law_224 : decode cL_law 224 = .ok (.ireturn, 1) := by decide +kernel
theorem dL_law_225 : decode cL_law 225 = .ok (.aload_n 1, 1) := by decide +kernel
theorem dL_law_226 : decode cL_law 226 = .ok (.bipush 6, 2) := by decide +kernel
theorem dL_law_228 : decode cL_law 228 = .ok (.bipush 7, 2) := by decide +kernel
theorem dL_law_230 : decode cL_law 230 = .ok (.invokevirtual 39, 3) := by decide +kernel
theorem dL_law_233 : decode cL_law 233 = .ok (.iload 8, 2) := by decide +kernel
theorem dL_law_235 : decode cL_law 235 = .ok (.if_icmp .ne 35, 3) := by decide +kernel
theorem dL_law_238 : decode cL_law 238 = .ok (.aload_n 1, 1) := by decide +kernel
theorem dL_law_239 : decode cL_law 239 = .ok (.bipush 6, 2) := by decide +kernel
theorem dL_law_241 : decode cL_law 241 = .ok (.iload 6, 2) := by decide +kernel
theorem dL_law_243 : decode cL_law 243 = .ok (.invokevirtual 99, 3) := by decide +kernel
theorem dL_law_246 : decode cL_law 246 = .ok (.ifCond .ne 24, 3) := by decide +kernel
theorem dL_law_249 : decode cL_law 249 = .ok (.aload_n 1, 1) := by decide +kernel
theorem dL_law_250 : decode cL_law 250 = .ok (.iload 5, 2) := by decide +kernel
theorem dL_law_252 : decode cL_law 252 = .ok (.iload 6, 2) := by decide +kernel
theorem dL_law_254 : decode cL_law 254 = .ok (.invokestatic 106, 3) := by decide +kernel
theorem dL_law_257 : decode cL_law 257 = .ok (.ifCond .eq 13, 3) := by decide +kernel
theorem dL_law_260 : decode cL_law 260 = .ok (.aload_n 1, 1) := by decide +kernel
theorem dL_law_261 : decode cL_law 261 = .ok (.iload 5, 2) := by decide +kernel
theorem dL_law_263 : decode cL_law 263 = .ok (.aload_n 2, 1) := by decide +kernel
theorem dL_law_264 : decode cL_law 264 = .ok (.invokestatic 110, 3) := by decide +kernel
theorem dL_law_267 : decode cL_law 267 = .ok (.ifCond .ne 5, 3) := by decide +kernel
theorem dL_law_270 : decode cL_law 270 = .ok (.iconst 0, 1) := by decide +kernel
theorem dL_law_271 : decode cL_law 271 = .ok (.ireturn, 1) := by decide +kernel
theorem dL_law_272 : decode cL_law 272 = .ok (.iinc 3 1, 3) := by decide +kernel
theorem dL_law_275 : decode cL_law 275 = .ok (.goto (-217), 3) := by decide +kernel
theorem dL_law_278 : decode cL_law 278 = .ok (.iconst 1, 1) := by decide +kernel
theorem dL_law_279 : decode cL_law 279 = .ok (.ireturn, 1) := by decide +kernel
theorem g_memB {w : Cond} (h : g_T.contains w = true) : w ∈ g_T := List.contains_iff_mem.mp h
theorem cm_L_mod : g_cM yL_mod cL_mod 3 (some FieldType.int) 2 := ⟨⟨by decide +kernel, by decide +kernel, by decide +kernel⟩, g_memB (by decide +kernel), ii_L, by decide⟩
theorem ca_L_15 : g_cS RL 15 yL_mod cL_mod 3 (some FieldType.int) 2 := ⟨cm_L_mod, Or.inl (g_memB (by decide +kernel)), g_memB (by decide +kernel)⟩
theorem cm_L_cell : g_cM yL_cell cL_cell 2 (some FieldType.int) 2 := ⟨⟨by decide +kernel, by decide +kernel, by decide +kernel⟩, g_memB (by decide +kernel), ii_L, by decide⟩
theorem ca_L_90 : g_cS RL 90 yL_cell cL_cell 2 (some FieldType.int) 2 := ⟨cm_L_cell, Or.inl (g_memB (by decide +kernel)), g_memB (by decide +kernel)⟩
theorem cm_L_acts : g_cM yL_acts cL_acts 5 (some FieldType.int) 2 := ⟨⟨by decide +kernel, by decide +kernel, by decide +kernel⟩, g_memB (by decide +kernel), ii_L, by decide⟩
theorem ca_L_94 : g_cS RL 94 yL_acts cL_acts 5 (some FieldType.int) 2 := ⟨cm_L_acts, Or.inl (g_memB (by decide +kernel)), g_memB (by decide +kernel)⟩
theorem cm_L_feeds : g_cM yL_feeds cL_feeds 9 (some FieldType.boolean) 3 := ⟨⟨by decide +kernel, by decide +kernel, by decide +kernel⟩, g_memB (by decide +kernel), ii_L, by decide⟩
theorem ca_L_51 : g_cS RL 51 yL_feeds cL_feeds 9 (some FieldType.boolean) 3 := ⟨cm_L_feeds, Or.inl (g_memB (by decide +kernel)), g_memB (by decide +kernel)⟩
theorem cm_L_isFirst : g_cM yL_isFirst cL_isFirst 2 (some FieldType.boolean) 2 := ⟨⟨by decide +kernel, by decide +kernel, by decide +kernel⟩, g_memB (by decide +kernel), ii_L, by decide⟩
theorem ca_L_62 : g_cS RL 62 yL_isFirst cL_isFirst 2 (some FieldType.boolean) 2 := ⟨cm_L_isFirst, Or.inl (g_memB (by decide +kernel)), g_memB (by decide +kernel)⟩
theorem cm_L_comesBack : g_cM yL_comesBack cL_comesBack 9 (some FieldType.boolean) 3 := ⟨⟨by decide +kernel, by decide +kernel, by decide +kernel⟩, g_memB (by decide +kernel), ii_L, by decide⟩
theorem ca_L_110 : g_cS RL 110 yL_comesBack cL_comesBack 9 (some FieldType.boolean) 3 := ⟨cm_L_comesBack, Or.inl (g_memB (by decide +kernel)), g_memB (by decide +kernel)⟩
theorem cm_L_fights : g_cM yL_fights cL_fights 8 (some FieldType.boolean) 4 := ⟨⟨by decide +kernel, by decide +kernel, by decide +kernel⟩, g_memB (by decide +kernel), ii_L, by decide⟩
theorem ca_L_102 : g_cS RL 102 yL_fights cL_fights 8 (some FieldType.boolean) 4 := ⟨cm_L_fights, Or.inl (g_memB (by decide +kernel)), g_memB (by decide +kernel)⟩
theorem cm_L_weighs : g_cM yL_weighs cL_weighs 6 (some FieldType.boolean) 3 := ⟨⟨by decide +kernel, by decide +kernel, by decide +kernel⟩, g_memB (by decide +kernel), ii_L, by decide⟩
theorem ca_L_106 : g_cS RL 106 yL_weighs cL_weighs 6 (some FieldType.boolean) 3 := ⟨cm_L_weighs, Or.inl (g_memB (by decide +kernel)), g_memB (by decide +kernel)⟩
