theorem dX11_added_0 : decode cX11_added 0 = .ok (.aload_n 0, 1) := by decide +kernel
theorem dX11_added_1 : decode cX11_added 1 = .ok (.getfield 59, 3) := by decide +kernel
theorem dX11_added_4 : decode cX11_added 4 = .ok (.istore_n 2, 1) := by decide +kernel
theorem dX11_added_5 : decode cX11_added 5 = .ok (.aload_n 0, 1) := by decide +kernel
theorem dX11_added_6 : decode cX11_added 6 = .ok (.dup, 1) := by decide +kernel
theorem dX11_added_7 : decode cX11_added 7 = .ok (.getfield 59, 3) := by decide +kernel
theorem dX11_added_10 : decode cX11_added 10 = .ok (.iconst 1, 1) := by decide +kernel
theorem dX11_added_11 : decode cX11_added 11 = .ok (.iadd, 1) := by decide +kernel
theorem dX11_added_12 : decode cX11_added 12 = .ok (.putfield 59, 3) := by decide +kernel
theorem dX11_added_15 : decode cX11_added 15 = .ok (.aload_n 0, 1) := by decide +kernel
theorem dX11_added_16 : decode cX11_added 16 = .ok (.getfield 29, 3) := by decide +kernel
theorem dX11_added_19 : decode cX11_added 19 = .ok (.iload_n 2, 1) := by decide +kernel
theorem dX11_added_20 : decode cX11_added 20 = .ok (.aload_n 0, 1) := by decide +kernel
theorem dX11_added_21 : decode cX11_added 21 = .ok (.getfield 62, 3) := by decide +kernel
theorem dX11_added_24 : decode cX11_added 24 = .ok (.iastore, 1) := by decide +kernel
theorem dX11_added_25 : decode cX11_added 25 = .ok (.iconst 0, 1) := by decide +kernel
theorem dX11_added_26 : decode cX11_added 26 = .ok (.istore_n 3, 1) := by decide +kernel
theorem dX11_added_27 : decode cX11_added 27 = .ok (.iload_n 3, 1) := by decide +kernel
theorem dX11_added_28 : decode cX11_added 28 = .ok (.aload_n 0, 1) := by decide +kernel
theorem dX11_added_29 : decode cX11_added 29 = .ok (.getfield 9, 3) := by decide +kernel
theorem dX11_added_32 : decode cX11_added 32 = .ok (.if_icmp .ge 34, 3) := by decide +kernel
theorem dX11_added_35 : decode cX11_added 35 = .ok (.aload_n 0, 1) := by decide +kernel
theorem dX11_added_36 : decode cX11_added 36 = .ok (.getfield 35, 3) := by decide +kernel
theorem dX11_added_39 : decode cX11_added 39 = .ok (.aload_n 0, 1) := by decide +kernel
theorem dX11_added_40 : decode cX11_added 40 = .ok (.getfield 62, 3) := by decide +kernel
theorem dX11_added_43 : decode cX11_added 43 = .ok (.aload_n 0, 1) := by decide +kernel
theorem dX11_added_44 : decode cX11_added 44 = .ok (.getfield 13, 3) := by decide +kernel
theorem dX11_added_47 : decode cX11_added 47 = .ok (.iload_n 3, 1) := by decide +kernel
theorem dX11_added_48 : decode cX11_added 48 = .ok (.iaload, 1) := by decide +kernel
theorem dX11_added_49 : decode cX11_added 49 = .ok (.iastore, 1) := by decide +kernel
theorem dX11_added_50 : decode cX11_added 50 = .ok (.aload_n 0, 1) := by decide +kernel
theorem dX11_added_51 : decode cX11_added 51 = .ok (.dup, 1) := by decide +kernel
theorem dX11_added_52 : decode cX11_added 52 = .ok (.getfield 62, 3) := by decide +kernel
theorem dX11_added_55 : decode cX11_added 55 = .ok (.iconst 1, 1) := by decide +kernel
theorem dX11_added_56 : decode cX11_added 56 = .ok (.iadd, 1) := by decide +kernel
theorem dX11_added_57 : decode cX11_added 57 = .ok (.putfield 62, 3) := by decide +kernel
theorem dX11_added_60 : decode cX11_added 60 = .ok (.iinc 3 1, 3) := by decide +kernel
theorem dX11_added_63 : decode cX11_added 63 = .ok (.goto (-36), 3) := by decide +kernel
theorem dX11_added_66 : decode cX11_added 66 = .ok (.aload_n 0, 1) := by decide +kernel
theorem dX11_added_67 : decode cX11_added 67 = .ok (.getfield 26, 3) := by decide +kernel
theorem dX11_added_70 : decode cX11_added 70 = .ok (.iload_n 2, 1) := by decide +kernel
theorem dX11_added_71 : decode cX11_added 71 = .ok (.aload_n 0, 1) := by decide +kernel
theorem dX11_added_72 : decode cX11_added 72 = .ok (.getfield 62, 3) := by decide +kernel
theorem dX11_added_75 : decode cX11_added 75 = .ok (.iastore, 1) := by decide +kernel
theorem dX11_added_76 : decode cX11_added 76 = .ok (.iconst 0, 1) := by decide +kernel
theorem dX11_added_77 : decode cX11_added 77 = .ok (.istore_n 3, 1) := by decide +kernel
theorem dX11_added_78 : decode cX11_added 78 = .ok (.iload_n 3, 1) := by decide +kernel
theorem dX11_added_79 : decode cX11_added 79 = .ok (.aload_n 0, 1) := by decide +kernel
theorem dX11_added_80 : decode cX11_added 80 = .ok (.getfield 20, 3) := by decide +kernel
theorem dX11_added_83 : decode cX11_added 83 = .ok (.if_icmp .ge 34, 3) := by decide +kernel
theorem dX11_added_86 : decode cX11_added 86 = .ok (.aload_n 0, 1) := by decide +kernel
theorem dX11_added_87 : decode cX11_added 87 = .ok (.getfield 35, 3) := by decide +kernel
theorem dX11_added_90 : decode cX11_added 90 = .ok (.aload_n 0, 1) := by decide +kernel
theorem dX11_added_91 : decode cX11_added 91 = .ok (.getfield 62, 3) := by decide +kernel
theorem dX11_added_94 : decode cX11_added 94 = .ok (.aload_n 0, 1) := by decide +kernel
theorem dX11_added_95 : decode cX11_added 95 = .ok (.getfield 23, 3) := by decide +kernel
theorem dX11_added_98 : decode cX11_added 98 = .ok (.iload_n 3, 1) := by decide +kernel
theorem dX11_added_99 : decode cX11_added 99 = .ok (.iaload, 1) := by decide +kernel
theorem dX11_added_100 : decode cX11_added 100 = .ok (.iastore, 1) := by decide +kernel
theorem dX11_added_101 : decode cX11_added 101 = .ok (.aload_n 0, 1) := by decide +kernel
theorem dX11_added_102 : decode cX11_added 102 = .ok (.dup, 1) := by decide +kernel
theorem dX11_added_103 : decode cX11_added 103 = .ok (.getfield 62, 3) := by decide +kernel
theorem dX11_added_106 : decode cX11_added 106 = .ok (.iconst 1, 1) := by decide +kernel
theorem dX11_added_107 : decode cX11_added 107 = .ok (.iadd, 1) := by decide +kernel
theorem dX11_added_108 : decode cX11_added 108 = .ok (.putfield 62, 3) := by decide +kernel
theorem dX11_added_111 : decode cX11_added 111 = .ok (.iinc 3 1, 3) := by decide +kernel
theorem dX11_added_114 : decode cX11_added 114 = .ok (.goto (-36), 3) := by decide +kernel
theorem dX11_added_117 : decode cX11_added 117 = .ok (.aload_n 0, 1) := by decide +kernel
theorem dX11_added_118 : decode cX11_added 118 = .ok (.getfield 32, 3) := by decide +kernel
theorem dX11_added_121 : decode cX11_added 121 = .ok (.iload_n 2, 1) := by decide +kernel
theorem dX11_added_122 : decode cX11_added 122 = .ok (.aload_n 0, 1) := by decide +kernel
theorem dX11_added_123 : decode cX11_added 123 = .ok (.getfield 62, 3) := by decide +kernel
theorem dX11_added_126 : decode cX11_added 126 = .ok (.iastore, 1) := by decide +kernel
theorem dX11_added_127 : decode cX11_added 127 = .ok (.aload_n 0, 1) := by decide +kernel
theorem dX11_added_128 : decode cX11_added 128 = .ok (.getfield 53, 3) := by decide +kernel
theorem dX11_added_131 : decode cX11_added 131 = .ok (.iload_n 2, 1) := by decide +kernel
theorem dX11_added_132 : decode cX11_added 132 = .ok (.aload_n 0, 1) := by decide +kernel
theorem dX11_added_133 : decode cX11_added 133 = .ok (.getfield 46, 3) := by decide +kernel
theorem dX11_added_136 : decode cX11_added 136 = .ok (.iload_n 1, 1) := by decide +kernel
theorem dX11_added_137 : decode cX11_added 137 = .ok (.iaload, 1) := by decide +kernel
theorem dX11_added_138 : decode cX11_added 138 = .ok (.iastore, 1) := by decide +kernel
theorem dX11_added_139 : decode cX11_added 139 = .ok (.aload_n 0, 1) := by decide +kernel
theorem dX11_added_140 : decode cX11_added 140 = .ok (.getfield 46, 3) := by decide +kernel
theorem dX11_added_143 : decode cX11_added 143 = .ok (.iload_n 1, 1) := by decide +kernel
theorem dX11_added_144 : decode cX11_added 144 = .ok (.iload_n 2, 1) := by decide +kernel
theorem dX11_added_145 : decode cX11_added 145 = .ok (.iconst 1, 1) := by decide +kernel
theorem dX11_added_146 : decode cX11_added 146 = .ok (.iadd, 1) := by decide +kernel
theorem dX11_added_147 : decode cX11_added 147 = .ok (.iastore, 1) := by decide +kernel
theorem dX11_added_148 : decode cX11_added 148 = .ok (.aload_n 0, 1) := by decide +kernel
theorem dX11_added_149 : decode cX11_added 149 = .ok (.getfield 65, 3) := by decide +kernel
theorem dX11_added_152 : decode cX11_added 152 = .ok (.iload_n 2, 1) := by decide +kernel
theorem dX11_added_153 : decode cX11_added 153 = .ok (.iconst 0, 1) := by decide +kernel
theorem dX11_added_154 : decode cX11_added 154 = .ok (.iastore, 1) := by decide +kernel
theorem dX11_added_155 : decode cX11_added 155 = .ok (.aload_n 0, 1) := by decide +kernel
theorem dX11_added_156 : decode cX11_added 156 = .ok (.getfield 68, 3) := by decide +kernel
theorem dX11_added_159 : decode cX11_added 159 = .ok (.iload_n 2, 1) := by decide +kernel
theorem dX11_added_160 : decode cX11_added 160 = .ok (.iconst 0, 1) := by decide +kernel
theorem dX11_added_161 : decode cX11_added 161 = .ok (.iastore, 1) := by decide +kernel
theorem dX11_added_162 : decode cX11_added 162 = .ok (.aload_n 0, 1) := by decide +kernel
theorem dX11_added_163 : decode cX11_added 163 = .ok (.getfield 71, 3) := by decide +kernel
theorem dX11_added_166 : decode cX11_added 166 = .ok (.iload_n 2, 1) := by decide +kernel
theorem dX11_added_167 : decode cX11_added 167 = .ok (.aload_n 0, 1) := by decide +kernel
theorem dX11_added_168 : decode cX11_added 168 = .ok (.getfield 32, 3) := by decide +kernel
theorem dX11_added_171 : decode cX11_added 171 = .ok (.iload_n 2, 1) := by decide +kernel
theorem dX11_added_172 : decode cX11_added 172 = .ok (.iaload, 1) := by decide +kernel
theorem dX11_added_173 : decode cX11_added 173 = .ok (.aload_n 0, 1) := by decide +kernel
theorem dX11_added_174 : decode cX11_added 174 = .ok (.getfield 29, 3) := by decide +kernel
theorem dX11_added_177 : decode cX11_added 177 = .ok (.iload_n 2, 1) := by decide +kernel
theorem dX11_added_178 : decode cX11_added 178 = .ok (.iaload, 1) := by decide +kernel
theorem dX11_added_179 : decode cX11_added 179 = .ok (.if_icmp .ne 7, 3) := by decide +kernel
theorem dX11_added_182 : decode cX11_added 182 = .ok (.iconst 1, 1) := by decide +kernel
theorem dX11_added_183 : decode cX11_added 183 = .ok (.goto 4, 3) := by decide +kernel
theorem dX11_added_186 : decode cX11_added 186 = .ok (.iconst 0, 1) := by decide +kernel
theorem dX11_added_187 : decode cX11_added 187 = .ok (.bastore, 1) := by decide +kernel
theorem dX11_added_188 : decode cX11_added 188 = .ok (.aload_n 0, 1) := by decide +kernel
theorem dX11_added_189 : decode cX11_added 189 = .ok (.iload_n 2, 1) := by decide +kernel
theorem dX11_added_190 : decode cX11_added 190 = .ok (.invokevirtual 75, 3) := by decide +kernel
theorem dX11_added_193 : decode cX11_added 193 = .ok (.aload_n 0, 1) := by decide +kernel
theorem dX11_added_194 : decode cX11_added 194 = .ok (.getfield 79, 3) := by decide +kernel
theorem dX11_added_197 : decode cX11_added 197 = .ok (.iload_n 2, 1) := by decide +kernel
theorem dX11_added_198 : decode cX11_added 198 = .ok (.aload_n 0, 1) := by decide +kernel
theorem dX11_added_199 : decode cX11_added 199 = .ok (.iload_n 2, 1) := by decide +kernel
theorem dX11_added_200 : decode cX11_added 200 = .ok (.invokevirtual 82, 3) := by decide +kernel
theorem dX11_added_203 : decode cX11_added 203 = .ok (.iastore, 1) := by decide +kernel
theorem dX11_added_204 : decode cX11_added 204 = .ok (.aload_n 0, 1) := by decide +kernel
theorem dX11_added_205 : decode cX11_added 205 = .ok (.getfield 85, 3) := by decide +kernel
theorem dX11_added_208 : decode cX11_added 208 = .ok (.iload_n 2, 1) := by decide +kernel
theorem dX11_added_209 : decode cX11_added 209 = .ok (.aload_n 0, 1) := by decide +kernel
theorem dX11_added_210 : decode cX11_added 210 = .ok (.iload_n 2, 1) := by decide +kernel
theorem dX11_added_211 : decode cX11_added 211 = .ok (.invokevirtual 88, 3) := by decide +kernel
theorem dX11_added_214 : decode cX11_added 214 = .ok (.iastore, 1) := by decide +kernel
theorem dX11_added_215 : decode cX11_added 215 = .ok (.aload_n 0, 1) := by decide +kernel
theorem dX11_added_216 : decode cX11_added 216 = .ok (.getfield 91, 3) := by decide +kernel
theorem dX11_added_219 : decode cX11_added 219 = .ok (.iload_n 2, 1) := by decide +kernel
theorem dX11_added_220 : decode cX11_added 220 = .ok (.aload_n 0, 1) := by decide +kernel
theorem dX11_added_221 : decode cX11_added 221 = .ok (.iload_n 2, 1) := by decide +kernel
theorem dX11_added_222 : decode cX11_added 222 = .ok (.invokevirtual 94, 3) := by decide +kernel
theorem dX11_added_225 : decode cX11_added 225 = .ok (.bastore, 1) := by decide +kernel
theorem dX11_added_226 : decode cX11_added 226 = .ok (.aload_n 0, 1) := by decide +kernel
theorem dX11_added_227 : decode cX11_added 227 = .ok (.getfield 97, 3) := by decide +kernel
theorem dX11_added_230 : decode cX11_added 230 = .ok (.iload_n 2, 1) := by decide +kernel
theorem dX11_added_231 : decode cX11_added 231 = .ok (.aload_n 0, 1) := by decide +kernel
theorem dX11_added_232 : decode cX11_added 232 = .ok (.iload_n 2, 1) := by decide +kernel
theorem dX11_added_233 : decode cX11_added 233 = .ok (.invokevirtual 100, 3) := by decide +kernel
theorem dX11_added_236 : decode cX11_added 236 = .ok (.iastore, 1) := by decide +kernel
theorem dX11_added_237 : decode cX11_added 237 = .ok (.iload_n 2, 1) := by decide +kernel
theorem dX11_added_238 : decode cX11_added 238 = .ok (.ireturn, 1) := by decide +kernel
theorem dX11_ahead_0 : decode cX11_ahead 0 = .ok (.aload_n 0, 1) := by decide +kernel
theorem dX11_ahead_1 : decode cX11_ahead 1 = .ok (.iload_n 1, 1) := by decide +kernel
theorem dX11_ahead_2 : decode cX11_ahead 2 = .ok (.invokevirtual 371, 3) := by decide +kernel
theorem dX11_ahead_5 : decode cX11_ahead 5 = .ok (.istore_n 2, 1) := by decide +kernel
theorem dX11_ahead_6 : decode cX11_ahead 6 = .ok (.iload_n 2, 1) := by decide +kernel
theorem dX11_ahead_7 : decode cX11_ahead 7 = .ok (.ifCond .eq 9, 3) := by decide +kernel
theorem dX11_ahead_10 : decode cX11_ahead 10 = .ok (.aload_n 0, 1) := by decide +kernel
theorem dX11_ahead_11 : decode cX11_ahead 11 = .ok (.iload_n 2, 1) := by decide +kernel
theorem dX11_ahead_12 : decode cX11_ahead 12 = .ok (.invokevirtual 300, 3) := by decide +kernel
theorem dX11_ahead_15 : decode cX11_ahead 15 = .ok (.ireturn, 1) := by decide +kernel
theorem dX11_ahead_16 : decode cX11_ahead 16 = .ok (.aload_n 0, 1) := by decide +kernel
theorem dX11_ahead_17 : decode cX11_ahead 17 = .ok (.invokevirtual 333, 3) := by decide +kernel
theorem dX11_ahead_20 : decode cX11_ahead 20 = .ok (.aload_n 0, 1) := by decide +kernel
theorem dX11_ahead_21 : decode cX11_ahead 21 = .ok (.iload_n 1, 1) := by decide +kernel
theorem dX11_ahead_22 : decode cX11_ahead 22 = .ok (.invokevirtual 374, 3) := by decide +kernel
theorem dX11_ahead_25 : decode cX11_ahead 25 = .ok (.istore_n 3, 1) := by decide +kernel
theorem dX11_ahead_26 : decode cX11_ahead 26 = .ok (.iload_n 3, 1) := by decide +kernel
theorem dX11_ahead_27 : decode cX11_ahead 27 = .ok (.sipush (-1000), 3) := by decide +kernel
theorem dX11_ahead_30 : decode cX11_ahead 30 = .ok (.if_icmp .ne 7, 3) := by decide +kernel
theorem dX11_ahead_33 : decode cX11_ahead 33 = .ok (.iconst 0, 1) := by decide +kernel
theorem dX11_ahead_34 : decode cX11_ahead 34 = .ok (.goto 23, 3) := by decide +kernel
theorem dX11_ahead_37 : decode cX11_ahead 37 = .ok (.iload_n 3, 1) := by decide +kernel
theorem dX11_ahead_38 : decode cX11_ahead 38 = .ok (.iconst 2, 1) := by decide +kernel
theorem dX11_ahead_39 : decode cX11_ahead 39 = .ok (.if_icmp .lt 7, 3) := by decide +kernel
theorem dX11_ahead_42 : decode cX11_ahead 42 = .ok (.iconst 1, 1) := by decide +kernel
theorem dX11_ahead_43 : decode cX11_ahead 43 = .ok (.goto 14, 3) := by decide +kernel
theorem dX11_ahead_46 : decode cX11_ahead 46 = .ok (.iload_n 3, 1) := by decide +kernel
theorem dX11_ahead_47 : decode cX11_ahead 47 = .ok (.bipush (-2), 2) := by decide +kernel
theorem dX11_ahead_49 : decode cX11_ahead 49 = .ok (.if_icmp .gt 7, 3) := by decide +kernel
theorem dX11_ahead_52 : decode cX11_ahead 52 = .ok (.iconst (-1), 1) := by decide +kernel
theorem dX11_ahead_53 : decode cX11_ahead 53 = .ok (.goto 4, 3) := by decide +kernel
theorem dX11_ahead_56 : decode cX11_ahead 56 = .ok (.iconst 0, 1) := by decide +kernel
theorem dX11_ahead_57 : decode cX11_ahead 57 = .ok (.ireturn, 1) := by decide +kernel
theorem dX11_allWidths_0 : decode cX11_allWidths 0 = .ok (.iconst 0, 1) := by decide +kernel
theorem dX11_allWidths_1 : decode cX11_allWidths 1 = .ok (.istore_n 1, 1) := by decide +kernel
theorem dX11_allWidths_2 : decode cX11_allWidths 2 = .ok (.iconst 0, 1) := by decide +kernel
theorem dX11_allWidths_3 : decode cX11_allWidths 3 = .ok (.istore_n 2, 1) := by decide +kernel
theorem dX11_allWidths_4 : decode cX11_allWidths 4 = .ok (.iload_n 2, 1) := by decide +kernel
theorem dX11_allWidths_5 : decode cX11_allWidths 5 = .ok (.bipush 8, 2) := by decide +kernel
theorem dX11_allWidths_7 : decode cX11_allWidths 7 = .ok (.if_icmp .ge 22, 3) := by decide +kernel
theorem dX11_allWidths_10 : decode cX11_allWidths 10 = .ok (.iload_n 1, 1) := by decide +kernel
theorem dX11_allWidths_11 : decode cX11_allWidths 11 = .ok (.aload_n 0, 1) := by decide +kernel
theorem dX11_allWidths_12 : decode cX11_allWidths 12 = .ok (.aload_n 0, 1) := by decide +kernel
theorem dX11_allWidths_13 : decode cX11_allWidths 13 = .ok (.getfield 264, 3) := by decide +kernel
theorem dX11_allWidths_16 : decode cX11_allWidths 16 = .ok (.iload_n 2, 1) := by decide +kernel
theorem dX11_allWidths_17 : decode cX11_allWidths 17 = .ok (.iaload, 1) := by decide +kernel
theorem dX11_allWidths_18 : decode cX11_allWidths 18 = .ok (.invokevirtual 218, 3) := by decide +kernel
theorem dX11_allWidths_21 : decode cX11_allWidths 21 = .ok (.iadd, 1) := by decide +kernel
theorem dX11_allWidths_22 : decode cX11_allWidths 22 = .ok (.istore_n 1, 1) := by decide +kernel
theorem dX11_allWidths_23 : decode cX11_allWidths 23 = .ok (.iinc 2 1, 3) := by decide +kernel
theorem dX11_allWidths_26 : decode cX11_allWidths 26 = .ok (.goto (-22), 3) := by decide +kernel
theorem dX11_allWidths_29 : decode cX11_allWidths 29 = .ok (.iload_n 1, 1) := by decide +kernel
theorem dX11_allWidths_30 : decode cX11_allWidths 30 = .ok (.ireturn, 1) := by decide +kernel
theorem dX11_areApart_0 : decode cX11_areApart 0 = .ok (.iconst 1, 1) := by decide +kernel
theorem dX11_areApart_1 : decode cX11_areApart 1 = .ok (.istore_n 3, 1) := by decide +kernel
theorem dX11_areApart_2 : decode cX11_areApart 2 = .ok (.iconst 0, 1) := by decide +kernel
theorem dX11_areApart_3 : decode cX11_areApart 3 = .ok (.istore 4, 2) := by decide +kernel
theorem dX11_areApart_5 : decode cX11_areApart 5 = .ok (.iload 4, 2) := by decide +kernel
theorem dX11_areApart_7 : decode cX11_areApart 7 = .ok (.iload_n 2, 1) := by decide +kernel
theorem dX11_areApart_8 : decode cX11_areApart 8 = .ok (.if_icmp .ge 84, 3) := by decide +kernel
theorem dX11_areApart_11 : decode cX11_areApart 11 = .ok (.iload_n 3, 1) := by decide +kernel
theorem dX11_areApart_12 : decode cX11_areApart 12 = .ok (.ifCond .eq 80, 3) := by decide +kernel
theorem dX11_areApart_15 : decode cX11_areApart 15 = .ok (.iconst 0, 1) := by decide +kernel
theorem dX11_areApart_16 : decode cX11_areApart 16 = .ok (.istore 5, 2) := by decide +kernel
theorem dX11_areApart_18 : decode cX11_areApart 18 = .ok (.iload 5, 2) := by decide +kernel
theorem dX11_areApart_20 : decode cX11_areApart 20 = .ok (.iload_n 2, 1) := by decide +kernel
theorem dX11_areApart_21 : decode cX11_areApart 21 = .ok (.if_icmp .ge 65, 3) := by decide +kernel
theorem dX11_areApart_24 : decode cX11_areApart 24 = .ok (.iload_n 3, 1) := by decide +kernel
theorem dX11_areApart_25 : decode cX11_areApart 25 = .ok (.ifCond .eq 61, 3) := by decide +kernel
theorem dX11_areApart_28 : decode cX11_areApart 28 = .ok (.iload 4, 2) := by decide +kernel
theorem dX11_areApart_30 : decode cX11_areApart 30 = .ok (.iload 5, 2) := by decide +kernel
theorem dX11_areApart_32 : decode cX11_areApart 32 = .ok (.if_icmp .eq 42, 3) := by decide +kernel
theorem dX11_areApart_35 : decode cX11_areApart 35 = .ok (.iload_n 1, 1) := by decide +kernel
theorem dX11_areApart_36 : decode cX11_areApart 36 = .ok (.iload 4, 2) := by decide +kernel
theorem dX11_areApart_38 : decode cX11_areApart 38 = .ok (.ishr, 1) := by decide +kernel
theorem dX11_areApart_39 : decode cX11_areApart 39 = .ok (.iconst 1, 1) := by decide +kernel
theorem dX11_areApart_40 : decode cX11_areApart 40 = .ok (.iand, 1) := by decide +kernel
theorem dX11_areApart_41 : decode cX11_areApart 41 = .ok (.ifCond .eq 33, 3) := by decide +kernel
theorem dX11_areApart_44 : decode cX11_areApart 44 = .ok (.iload_n 1, 1) := by decide +kernel
theorem dX11_areApart_45 : decode cX11_areApart 45 = .ok (.iload 5, 2) := by decide +kernel
theorem dX11_areApart_47 : decode cX11_areApart 47 = .ok (.ishr, 1) := by decide +kernel
theorem dX11_areApart_48 : decode cX11_areApart 48 = .ok (.iconst 1, 1) := by decide +kernel
theorem dX11_areApart_49 : decode cX11_areApart 49 = .ok (.iand, 1) := by decide +kernel
theorem dX11_areApart_50 : decode cX11_areApart 50 = .ok (.ifCond .eq 24, 3) := by decide +kernel
theorem dX11_areApart_53 : decode cX11_areApart 53 = .ok (.aload_n 0, 1) := by decide +kernel
theorem dX11_areApart_54 : decode cX11_areApart 54 = .ok (.aload_n 0, 1) := by decide +kernel
theorem dX11_areApart_55 : decode cX11_areApart 55 = .ok (.getfield 279, 3) := by decide +kernel
theorem dX11_areApart_58 : decode cX11_areApart 58 = .ok (.iload 4, 2) := by decide +kernel
theorem dX11_areApart_60 : decode cX11_areApart 60 = .ok (.iaload, 1) := by decide +kernel
theorem dX11_areApart_61 : decode cX11_areApart 61 = .ok (.aload_n 0, 1) := by decide +kernel
theorem dX11_areApart_62 : decode cX11_areApart 62 = .ok (.getfield 279, 3) := by decide +kernel
theorem dX11_areApart_65 : decode cX11_areApart 65 = .ok (.iload 5, 2) := by decide +kernel
theorem dX11_areApart_67 : decode cX11_areApart 67 = .ok (.iaload, 1) := by decide +kernel
theorem dX11_areApart_68 : decode cX11_areApart 68 = .ok (.invokevirtual 114, 3) := by decide +kernel
theorem dX11_areApart_71 : decode cX11_areApart 71 = .ok (.ifCond .ne 7, 3) := by decide +kernel
theorem dX11_areApart_74 : decode cX11_areApart 74 = .ok (.iconst 1, 1) := by decide +kernel
theorem dX11_areApart_75 : decode cX11_areApart 75 = .ok (.goto 4, 3) := by decide +kernel
theorem dX11_areApart_78 : decode cX11_areApart 78 = .ok (.iconst 0, 1) := by decide +kernel
theorem dX11_areApart_79 : decode cX11_areApart 79 = .ok (.istore_n 3, 1) := by decide +kernel
theorem dX11_areApart_80 : decode cX11_areApart 80 = .ok (.iinc 5 1, 3) := by decide +kernel
theorem dX11_areApart_83 : decode cX11_areApart 83 = .ok (.goto (-65), 3) := by decide +kernel
theorem dX11_areApart_86 : decode cX11_areApart 86 = .ok (.iinc 4 1, 3) := by decide +kernel
theorem dX11_areApart_89 : decode cX11_areApart 89 = .ok (.goto (-84), 3) := by decide +kernel
theorem dX11_areApart_92 : decode cX11_areApart 92 = .ok (.iload_n 3, 1) := by decide +kernel
theorem dX11_areApart_93 : decode cX11_areApart 93 = .ok (.ireturn, 1) := by decide +kernel
theorem dX11_at_0 : decode cX11_at 0 = .ok (.aload_n 0, 1) := by decide +kernel
theorem dX11_at_1 : decode cX11_at 1 = .ok (.iload_n 1, 1) := by decide +kernel
theorem dX11_at_2 : decode cX11_at 2 = .ok (.iload_n 2, 1) := by decide +kernel
theorem dX11_at_3 : decode cX11_at 3 = .ok (.invokevirtual 472, 3) := by decide +kernel
theorem dX11_at_6 : decode cX11_at 6 = .ok (.istore_n 3, 1) := by decide +kernel
theorem dX11_at_7 : decode cX11_at 7 = .ok (.iload_n 3, 1) := by decide +kernel
theorem dX11_at_8 : decode cX11_at 8 = .ok (.ifCond .eq 11, 3) := by decide +kernel
theorem dX11_at_11 : decode cX11_at 11 = .ok (.aload_n 0, 1) := by decide +kernel
theorem dX11_at_12 : decode cX11_at 12 = .ok (.iload_n 3, 1) := by decide +kernel
theorem dX11_at_13 : decode cX11_at 13 = .ok (.invokevirtual 300, 3) := by decide +kernel
theorem dX11_at_16 : decode cX11_at 16 = .ok (.goto 14, 3) := by decide +kernel
theorem dX11_at_19 : decode cX11_at 19 = .ok (.aload_n 0, 1) := by decide +kernel
theorem dX11_at_20 : decode cX11_at 20 = .ok (.getfield 294, 3) := by decide +kernel
theorem dX11_at_23 : decode cX11_at 23 = .ok (.bipush 24, 2) := by decide +kernel
theorem dX11_at_25 : decode cX11_at 25 = .ok (.iload_n 1, 1) := by decide +kernel
theorem dX11_at_26 : decode cX11_at 26 = .ok (.imul, 1) := by decide +kernel
theorem dX11_at_27 : decode cX11_at 27 = .ok (.iload_n 2, 1) := by decide +kernel
theorem dX11_at_28 : decode cX11_at 28 = .ok (.iadd, 1) := by decide +kernel
theorem dX11_at_29 : decode cX11_at 29 = .ok (.iaload, 1) := by decide +kernel
theorem dX11_at_30 : decode cX11_at 30 = .ok (.ireturn, 1) := by decide +kernel
theorem dX11_atMost_0 : decode cX11_atMost 0 = .ok (.iload_n 1, 1) := by decide +kernel
theorem dX11_atMost_1 : decode cX11_atMost 1 = .ok (.iload_n 2, 1) := by decide +kernel
theorem dX11_atMost_2 : decode cX11_atMost 2 = .ok (.if_icmp .ne 5, 3) := by decide +kernel
theorem dX11_atMost_5 : decode cX11_atMost 5 = .ok (.iconst 1, 1) := by decide +kernel
theorem dX11_atMost_6 : decode cX11_atMost 6 = .ok (.ireturn, 1) := by decide +kernel
theorem dX11_atMost_7 : decode cX11_atMost 7 = .ok (.iload_n 1, 1) := by decide +kernel
theorem dX11_atMost_8 : decode cX11_atMost 8 = .ok (.sipush 16000, 3) := by decide +kernel
theorem dX11_atMost_11 : decode cX11_atMost 11 = .ok (.imul, 1) := by decide +kernel
theorem dX11_atMost_12 : decode cX11_atMost 12 = .ok (.iload_n 2, 1) := by decide +kernel
theorem dX11_atMost_13 : decode cX11_atMost 13 = .ok (.iadd, 1) := by decide +kernel
theorem dX11_atMost_14 : decode cX11_atMost 14 = .ok (.iconst 1, 1) := by decide +kernel
theorem dX11_atMost_15 : decode cX11_atMost 15 = .ok (.iadd, 1) := by decide +kernel
theorem dX11_atMost_16 : decode cX11_atMost 16 = .ok (.istore_n 3, 1) := by decide +kernel
theorem dX11_atMost_17 : decode cX11_atMost 17 = .ok (.iload_n 3, 1) := by decide +kernel
theorem dX11_atMost_18 : decode cX11_atMost 18 = .ok (.invokestatic 16, 3) := by decide +kernel
theorem dX11_atMost_21 : decode cX11_atMost 21 = .ok (.ldc 118, 2) := by decide +kernel
theorem dX11_atMost_23 : decode cX11_atMost 23 = .ok (.iand, 1) := by decide +kernel
theorem dX11_atMost_24 : decode cX11_atMost 24 = .ok (.istore 4, 2) := by decide +kernel
theorem dX11_atMost_26 : decode cX11_atMost 26 = .ok (.aload_n 0, 1) := by decide +kernel
theorem dX11_atMost_27 : decode cX11_atMost 27 = .ok (.getfield 119, 3) := by decide +kernel
theorem dX11_atMost_30 : decode cX11_atMost 30 = .ok (.iload 4, 2) := by decide +kernel
theorem dX11_atMost_32 : decode cX11_atMost 32 = .ok (.iaload, 1) := by decide +kernel
theorem dX11_atMost_33 : decode cX11_atMost 33 = .ok (.iload_n 3, 1) := by decide +kernel
theorem dX11_atMost_34 : decode cX11_atMost 34 = .ok (.if_icmp .ne 11, 3) := by decide +kernel
theorem dX11_atMost_37 : decode cX11_atMost 37 = .ok (.aload_n 0, 1) := by decide +kernel
theorem dX11_atMost_38 : decode cX11_atMost 38 = .ok (.getfield 122, 3) := by decide +kernel
theorem dX11_atMost_41 : decode cX11_atMost 41 = .ok (.iload 4, 2) := by decide +kernel
theorem dX11_atMost_43 : decode cX11_atMost 43 = .ok (.baload, 1) := by decide +kernel
theorem dX11_atMost_44 : decode cX11_atMost 44 = .ok (.ireturn, 1) := by decide +kernel
theorem dX11_atMost_45 : decode cX11_atMost 45 = .ok (.aload_n 0, 1) := by decide +kernel
theorem dX11_atMost_46 : decode cX11_atMost 46 = .ok (.iload_n 1, 1) := by decide +kernel
theorem dX11_atMost_47 : decode cX11_atMost 47 = .ok (.iload_n 2, 1) := by decide +kernel
theorem dX11_atMost_48 : decode cX11_atMost 48 = .ok (.invokevirtual 125, 3) := by decide +kernel
theorem dX11_atMost_51 : decode cX11_atMost 51 = .ok (.istore 5, 2) := by decide +kernel
theorem dX11_atMost_53 : decode cX11_atMost 53 = .ok (.aload_n 0, 1) := by decide +kernel
theorem dX11_atMost_54 : decode cX11_atMost 54 = .ok (.getfield 119, 3) := by decide +kernel
theorem dX11_atMost_57 : decode cX11_atMost 57 = .ok (.iload 4, 2) := by decide +kernel
theorem dX11_atMost_59 : decode cX11_atMost 59 = .ok (.iload_n 3, 1) := by decide +kernel
theorem dX11_atMost_60 : decode cX11_atMost 60 = .ok (.iastore, 1) := by decide +kernel
theorem dX11_atMost_61 : decode cX11_atMost 61 = .ok (.aload_n 0, 1) := by decide +kernel
theorem dX11_atMost_62 : decode cX11_atMost 62 = .ok (.getfield 122, 3) := by decide +kernel
theorem dX11_atMost_65 : decode cX11_atMost 65 = .ok (.iload 4, 2) := by decide +kernel
theorem dX11_atMost_67 : decode cX11_atMost 67 = .ok (.iload 5, 2) := by decide +kernel
theorem dX11_atMost_69 : decode cX11_atMost 69 = .ok (.bastore, 1) := by decide +kernel
theorem dX11_atMost_70 : decode cX11_atMost 70 = .ok (.iload 5, 2) := by decide +kernel
theorem dX11_atMost_72 : decode cX11_atMost 72 = .ok (.ireturn, 1) := by decide +kernel
theorem dX11_atomic_0 : decode cX11_atomic 0 = .ok (.aload_n 0, 1) := by decide +kernel
theorem dX11_atomic_1 : decode cX11_atomic 1 = .ok (.iload_n 1, 1) := by decide +kernel
theorem dX11_atomic_2 : decode cX11_atomic 2 = .ok (.invokevirtual 371, 3) := by decide +kernel
theorem dX11_atomic_5 : decode cX11_atomic 5 = .ok (.istore_n 2, 1) := by decide +kernel
theorem dX11_atomic_6 : decode cX11_atomic 6 = .ok (.iload_n 2, 1) := by decide +kernel
theorem dX11_atomic_7 : decode cX11_atomic 7 = .ok (.ifCond .eq 9, 3) := by decide +kernel
theorem dX11_atomic_10 : decode cX11_atomic 10 = .ok (.aload_n 0, 1) := by decide +kernel
theorem dX11_atomic_11 : decode cX11_atomic 11 = .ok (.iload_n 2, 1) := by decide +kernel
theorem dX11_atomic_12 : decode cX11_atomic 12 = .ok (.invokevirtual 300, 3) := by decide +kernel
theorem dX11_atomic_15 : decode cX11_atomic 15 = .ok (.ireturn, 1) := by decide +kernel
theorem dX11_atomic_16 : decode cX11_atomic 16 = .ok (.aload_n 0, 1) := by decide +kernel
theorem dX11_atomic_17 : decode cX11_atomic 17 = .ok (.invokevirtual 333, 3) := by decide +kernel
theorem dX11_atomic_20 : decode cX11_atomic 20 = .ok (.aload_n 0, 1) := by decide +kernel
theorem dX11_atomic_21 : decode cX11_atomic 21 = .ok (.iload_n 1, 1) := by decide +kernel
theorem dX11_atomic_22 : decode cX11_atomic 22 = .ok (.invokevirtual 374, 3) := by decide +kernel
theorem dX11_atomic_25 : decode cX11_atomic 25 = .ok (.istore_n 3, 1) := by decide +kernel
theorem dX11_atomic_26 : decode cX11_atomic 26 = .ok (.iload_n 3, 1) := by decide +kernel
theorem dX11_atomic_27 : decode cX11_atomic 27 = .ok (.sipush (-1000), 3) := by decide +kernel
theorem dX11_atomic_30 : decode cX11_atomic 30 = .ok (.if_icmp .ne 11, 3) := by decide +kernel
theorem dX11_atomic_33 : decode cX11_atomic 33 = .ok (.aload_n 0, 1) := by decide +kernel
theorem dX11_atomic_34 : decode cX11_atomic 34 = .ok (.iconst 2, 1) := by decide +kernel
theorem dX11_atomic_35 : decode cX11_atomic 35 = .ok (.invokevirtual 300, 3) := by decide +kernel
theorem dX11_atomic_38 : decode cX11_atomic 38 = .ok (.goto 4, 3) := by decide +kernel
theorem dX11_atomic_41 : decode cX11_atomic 41 = .ok (.iload_n 3, 1) := by decide +kernel
theorem dX11_atomic_42 : decode cX11_atomic 42 = .ok (.ireturn, 1) := by decide +kernel
theorem dX11_bears_0 : decode cX11_bears 0 = .ok (.aload_n 0, 1) := by decide +kernel
theorem dX11_bears_1 : decode cX11_bears 1 = .ok (.getfield 395, 3) := by decide +kernel
theorem dX11_bears_4 : decode cX11_bears 4 = .ok (.ifCond .eq 4, 3) := by decide +kernel
theorem dX11_bears_7 : decode cX11_bears 7 = .ok (.return_, 1) := by decide +kernel
theorem dX11_bears_8 : decode cX11_bears 8 = .ok (.aload_n 0, 1) := by decide +kernel
theorem dX11_bears_9 : decode cX11_bears 9 = .ok (.invokevirtual 333, 3) := by decide +kernel
theorem dX11_bears_12 : decode cX11_bears 12 = .ok (.aload_n 0, 1) := by decide +kernel
theorem dX11_bears_13 : decode cX11_bears 13 = .ok (.iconst 1, 1) := by decide +kernel
theorem dX11_bears_14 : decode cX11_bears 14 = .ok (.putfield 395, 3) := by decide +kernel
theorem dX11_bears_17 : decode cX11_bears 17 = .ok (.aload_n 0, 1) := by decide +kernel
theorem dX11_bears_18 : decode cX11_bears 18 = .ok (.getfield 279, 3) := by decide +kernel
theorem dX11_bears_21 : decode cX11_bears 21 = .ok (.iconst 0, 1) := by decide +kernel
theorem dX11_bears_22 : decode cX11_bears 22 = .ok (.iconst 0, 1) := by decide +kernel
theorem dX11_bears_23 : decode cX11_bears 23 = .ok (.iastore, 1) := by decide +kernel
theorem dX11_bears_24 : decode cX11_bears 24 = .ok (.aload_n 0, 1) := by decide +kernel
theorem dX11_bears_25 : decode cX11_bears 25 = .ok (.iconst 1, 1) := by decide +kernel
theorem dX11_bears_26 : decode cX11_bears 26 = .ok (.putfield 309, 3) := by decide +kernel
theorem dX11_bears_29 : decode cX11_bears 29 = .ok (.iconst 0, 1) := by decide +kernel
theorem dX11_bears_30 : decode cX11_bears 30 = .ok (.istore_n 1, 1) := by decide +kernel
theorem dX11_bears_31 : decode cX11_bears 31 = .ok (.iload_n 1, 1) := by decide +kernel
theorem dX11_bears_32 : decode cX11_bears 32 = .ok (.iconst 3, 1) := by decide +kernel
theorem dX11_bears_33 : decode cX11_bears 33 = .ok (.if_icmp .ge 17, 3) := by decide +kernel
theorem dX11_bears_36 : decode cX11_bears 36 = .ok (.aload_n 0, 1) := by decide +kernel
theorem dX11_bears_37 : decode cX11_bears 37 = .ok (.aload_n 0, 1) := by decide +kernel
theorem dX11_bears_38 : decode cX11_bears 38 = .ok (.getfield 309, 3) := by decide +kernel
theorem dX11_bears_41 : decode cX11_bears 41 = .ok (.invokevirtual 399, 3) := by decide +kernel
theorem dX11_bears_44 : decode cX11_bears 44 = .ok (.iinc 1 1, 3) := by decide +kernel
theorem dX11_bears_47 : decode cX11_bears 47 = .ok (.goto (-16), 3) := by decide +kernel
theorem dX11_bears_50 : decode cX11_bears 50 = .ok (.iconst 0, 1) := by decide +kernel
theorem dX11_bears_51 : decode cX11_bears 51 = .ok (.istore_n 1, 1) := by decide +kernel
theorem dX11_bears_52 : decode cX11_bears 52 = .ok (.iload_n 1, 1) := by decide +kernel
theorem dX11_bears_53 : decode cX11_bears 53 = .ok (.aload_n 0, 1) := by decide +kernel
theorem dX11_bears_54 : decode cX11_bears 54 = .ok (.getfield 309, 3) := by decide +kernel
theorem dX11_bears_57 : decode cX11_bears 57 = .ok (.if_icmp .ge 19, 3) := by decide +kernel
theorem dX11_bears_60 : decode cX11_bears 60 = .ok (.aload_n 0, 1) := by decide +kernel
theorem dX11_bears_61 : decode cX11_bears 61 = .ok (.aload_n 0, 1) := by decide +kernel
theorem dX11_bears_62 : decode cX11_bears 62 = .ok (.getfield 279, 3) := by decide +kernel
theorem dX11_bears_65 : decode cX11_bears 65 = .ok (.iload_n 1, 1) := by decide +kernel
theorem dX11_bears_66 : decode cX11_bears 66 = .ok (.iaload, 1) := by decide +kernel
theorem dX11_bears_67 : decode cX11_bears 67 = .ok (.invokevirtual 249, 3) := by decide +kernel
theorem dX11_bears_70 : decode cX11_bears 70 = .ok (.iinc 1 1, 3) := by decide +kernel
theorem dX11_bears_73 : decode cX11_bears 73 = .ok (.goto (-21), 3) := by decide +kernel
theorem dX11_bears_76 : decode cX11_bears 76 = .ok (.aload_n 0, 1) := by decide +kernel
theorem dX11_bears_77 : decode cX11_bears 77 = .ok (.aload_n 0, 1) := by decide +kernel
theorem dX11_bears_78 : decode cX11_bears 78 = .ok (.getfield 279, 3) := by decide +kernel
theorem dX11_bears_81 : decode cX11_bears 81 = .ok (.iconst 0, 1) := by decide +kernel
theorem dX11_bears_82 : decode cX11_bears 82 = .ok (.aload_n 0, 1) := by decide +kernel
theorem dX11_bears_83 : decode cX11_bears 83 = .ok (.getfield 309, 3) := by decide +kernel
theorem dX11_bears_86 : decode cX11_bears 86 = .ok (.invokevirtual 252, 3) := by decide +kernel
theorem dX11_bears_89 : decode cX11_bears 89 = .ok (.return_, 1) := by decide +kernel
theorem dX11_born_0 : decode cX11_born 0 = .ok (.iload_n 1, 1) := by decide +kernel
theorem dX11_born_1 : decode cX11_born 1 = .ok (.iconst 0, 1) := by decide +kernel
theorem dX11_born_2 : decode cX11_born 2 = .ok (.iconst 3, 1) := by decide +kernel
theorem dX11_born_3 : decode cX11_born 3 = .ok (.invokestatic 106, 3) := by decide +kernel
theorem dX11_born_6 : decode cX11_born 6 = .ok (.ifCond .eq 19, 3) := by decide +kernel
theorem dX11_born_9 : decode cX11_born 9 = .ok (.iload_n 2, 1) := by decide +kernel
theorem dX11_born_10 : decode cX11_born 10 = .ok (.iconst (-1), 1) := by decide +kernel
theorem dX11_born_11 : decode cX11_born 11 = .ok (.if_icmp .lt 14, 3) := by decide +kernel
theorem dX11_born_14 : decode cX11_born 14 = .ok (.iload_n 2, 1) := by decide +kernel
theorem dX11_born_15 : decode cX11_born 15 = .ok (.ifCond .lt 16, 3) := by decide +kernel
theorem dX11_born_18 : decode cX11_born 18 = .ok (.iload_n 3, 1) := by decide +kernel
theorem dX11_born_19 : decode cX11_born 19 = .ok (.invokestatic 324, 3) := by decide +kernel
theorem dX11_born_22 : decode cX11_born 22 = .ok (.ifCond .ne 9, 3) := by decide +kernel
theorem dX11_born_25 : decode cX11_born 25 = .ok (.aload_n 0, 1) := by decide +kernel
theorem dX11_born_26 : decode cX11_born 26 = .ok (.iconst 1, 1) := by decide +kernel
theorem dX11_born_27 : decode cX11_born 27 = .ok (.invokevirtual 300, 3) := by decide +kernel
theorem dX11_born_30 : decode cX11_born 30 = .ok (.ireturn, 1) := by decide +kernel
theorem dX11_born_31 : decode cX11_born 31 = .ok (.aload_n 0, 1) := by decide +kernel
theorem dX11_born_32 : decode cX11_born 32 = .ok (.invokevirtual 402, 3) := by decide +kernel
theorem dX11_born_35 : decode cX11_born 35 = .ok (.iload_n 2, 1) := by decide +kernel
theorem dX11_born_36 : decode cX11_born 36 = .ok (.ifCond .ge 9, 3) := by decide +kernel
theorem dX11_born_39 : decode cX11_born 39 = .ok (.aload_n 0, 1) := by decide +kernel
theorem dX11_born_40 : decode cX11_born 40 = .ok (.iload_n 1, 1) := by decide +kernel
theorem dX11_born_41 : decode cX11_born 41 = .ok (.invokevirtual 405, 3) := by decide +kernel
theorem dX11_born_44 : decode cX11_born 44 = .ok (.ireturn, 1) := by decide +kernel
theorem dX11_born_45 : decode cX11_born 45 = .ok (.iload_n 2, 1) := by decide +kernel
theorem dX11_born_46 : decode cX11_born 46 = .ok (.aload_n 0, 1) := by decide +kernel
theorem dX11_born_47 : decode cX11_born 47 = .ok (.iload_n 1, 1) := by decide +kernel
theorem dX11_born_48 : decode cX11_born 48 = .ok (.invokevirtual 405, 3) := by decide +kernel
theorem dX11_born_51 : decode cX11_born 51 = .ok (.if_icmp .ge 17, 3) := by decide +kernel
theorem dX11_born_54 : decode cX11_born 54 = .ok (.aload_n 0, 1) := by decide +kernel
theorem dX11_born_55 : decode cX11_born 55 = .ok (.iload_n 3, 1) := by decide +kernel
theorem dX11_born_56 : decode cX11_born 56 = .ok (.aload_n 0, 1) := by decide +kernel
theorem dX11_born_57 : decode cX11_born 57 = .ok (.iload_n 1, 1) := by decide +kernel
theorem dX11_born_58 : decode cX11_born 58 = .ok (.iload_n 2, 1) := by decide +kernel
theorem dX11_born_59 : decode cX11_born 59 = .ok (.invokevirtual 408, 3) := by decide +kernel
theorem dX11_born_62 : decode cX11_born 62 = .ok (.invokevirtual 339, 3) := by decide +kernel
theorem dX11_born_65 : decode cX11_born 65 = .ok (.goto 8, 3) := by decide +kernel
theorem dX11_born_68 : decode cX11_born 68 = .ok (.aload_n 0, 1) := by decide +kernel
theorem dX11_born_69 : decode cX11_born 69 = .ok (.iconst 2, 1) := by decide +kernel
theorem dX11_born_70 : decode cX11_born 70 = .ok (.invokevirtual 300, 3) := by decide +kernel
theorem dX11_born_73 : decode cX11_born 73 = .ok (.ireturn, 1) := by decide +kernel
theorem dX11_bornAt_0 : decode cX11_bornAt 0 = .ok (.iload_n 2, 1) := by decide +kernel
theorem dX11_bornAt_1 : decode cX11_bornAt 1 = .ok (.istore_n 3, 1) := by decide +kernel
theorem dX11_bornAt_2 : decode cX11_bornAt 2 = .ok (.iconst 0, 1) := by decide +kernel
theorem dX11_bornAt_3 : decode cX11_bornAt 3 = .ok (.istore 4, 2) := by decide +kernel
theorem dX11_bornAt_5 : decode cX11_bornAt 5 = .ok (.iload 4, 2) := by decide +kernel
theorem dX11_bornAt_7 : decode cX11_bornAt 7 = .ok (.aload_n 0, 1) := by decide +kernel
theorem dX11_bornAt_8 : decode cX11_bornAt 8 = .ok (.getfield 309, 3) := by decide +kernel
theorem dX11_bornAt_11 : decode cX11_bornAt 11 = .ok (.if_icmp .ge 40, 3) := by decide +kernel
theorem dX11_bornAt_14 : decode cX11_bornAt 14 = .ok (.aload_n 0, 1) := by decide +kernel
theorem dX11_bornAt_15 : decode cX11_bornAt 15 = .ok (.getfield 103, 3) := by decide +kernel
theorem dX11_bornAt_18 : decode cX11_bornAt 18 = .ok (.aload_n 0, 1) := by decide +kernel
theorem dX11_bornAt_19 : decode cX11_bornAt 19 = .ok (.getfield 279, 3) := by decide +kernel
theorem dX11_bornAt_22 : decode cX11_bornAt 22 = .ok (.iload 4, 2) := by decide +kernel
theorem dX11_bornAt_24 : decode cX11_bornAt 24 = .ok (.iaload, 1) := by decide +kernel
theorem dX11_bornAt_25 : decode cX11_bornAt 25 = .ok (.iaload, 1) := by decide +kernel
theorem dX11_bornAt_26 : decode cX11_bornAt 26 = .ok (.iload_n 1, 1) := by decide +kernel
theorem dX11_bornAt_27 : decode cX11_bornAt 27 = .ok (.if_icmp .gt 18, 3) := by decide +kernel
theorem dX11_bornAt_30 : decode cX11_bornAt 30 = .ok (.iload_n 3, 1) := by decide +kernel
theorem dX11_bornAt_31 : decode cX11_bornAt 31 = .ok (.ifCond .ne 11, 3) := by decide +kernel
theorem dX11_bornAt_34 : decode cX11_bornAt 34 = .ok (.aload_n 0, 1) := by decide +kernel
theorem dX11_bornAt_35 : decode cX11_bornAt 35 = .ok (.getfield 279, 3) := by decide +kernel
theorem dX11_bornAt_38 : decode cX11_bornAt 38 = .ok (.iload 4, 2) := by decide +kernel
theorem dX11_bornAt_40 : decode cX11_bornAt 40 = .ok (.iaload, 1) := by decide +kernel
theorem dX11_bornAt_41 : decode cX11_bornAt 41 = .ok (.ireturn, 1) := by decide +kernel
theorem dX11_bornAt_42 : decode cX11_bornAt 42 = .ok (.iinc 3 (-1), 3) := by decide +kernel
theorem dX11_bornAt_45 : decode cX11_bornAt 45 = .ok (.iinc 4 1, 3) := by decide +kernel
theorem dX11_bornAt_48 : decode cX11_bornAt 48 = .ok (.goto (-43), 3) := by decide +kernel
theorem dX11_bornAt_51 : decode cX11_bornAt 51 = .ok (.iconst (-1), 1) := by decide +kernel
theorem dX11_bornAt_52 : decode cX11_bornAt 52 = .ok (.ireturn, 1) := by decide +kernel
theorem dX11_bornBehind_0 : decode cX11_bornBehind 0 = .ok (.aload_n 0, 1) := by decide +kernel
theorem dX11_bornBehind_1 : decode cX11_bornBehind 1 = .ok (.iconst 0, 1) := by decide +kernel
theorem dX11_bornBehind_2 : decode cX11_bornBehind 2 = .ok (.putfield 386, 3) := by decide +kernel
theorem dX11_bornBehind_5 : decode cX11_bornBehind 5 = .ok (.iconst 1, 1) := by decide +kernel
theorem dX11_bornBehind_6 : decode cX11_bornBehind 6 = .ok (.istore_n 2, 1) := by decide +kernel
theorem dX11_bornBehind_7 : decode cX11_bornBehind 7 = .ok (.iload_n 2, 1) := by decide +kernel
theorem dX11_bornBehind_8 : decode cX11_bornBehind 8 = .ok (.iconst 1, 1) := by decide +kernel
theorem dX11_bornBehind_9 : decode cX11_bornBehind 9 = .ok (.iload_n 1, 1) := by decide +kernel
theorem dX11_bornBehind_10 : decode cX11_bornBehind 10 = .ok (.ishl, 1) := by decide +kernel
theorem dX11_bornBehind_11 : decode cX11_bornBehind 11 = .ok (.if_icmp .ge 38, 3) := by decide +kernel
theorem dX11_bornBehind_14 : decode cX11_bornBehind 14 = .ok (.aload_n 0, 1) := by decide +kernel
theorem dX11_bornBehind_15 : decode cX11_bornBehind 15 = .ok (.iload_n 2, 1) := by decide +kernel
theorem dX11_bornBehind_16 : decode cX11_bornBehind 16 = .ok (.iload_n 1, 1) := by decide +kernel
theorem dX11_bornBehind_17 : decode cX11_bornBehind 17 = .ok (.invokevirtual 389, 3) := by decide +kernel
theorem dX11_bornBehind_20 : decode cX11_bornBehind 20 = .ok (.ifCond .eq 23, 3) := by decide +kernel
theorem dX11_bornBehind_23 : decode cX11_bornBehind 23 = .ok (.aload_n 0, 1) := by decide +kernel
theorem dX11_bornBehind_24 : decode cX11_bornBehind 24 = .ok (.getfield 282, 3) := by decide +kernel
theorem dX11_bornBehind_27 : decode cX11_bornBehind 27 = .ok (.aload_n 0, 1) := by decide +kernel
theorem dX11_bornBehind_28 : decode cX11_bornBehind 28 = .ok (.getfield 386, 3) := by decide +kernel
theorem dX11_bornBehind_31 : decode cX11_bornBehind 31 = .ok (.iload_n 2, 1) := by decide +kernel
theorem dX11_bornBehind_32 : decode cX11_bornBehind 32 = .ok (.iastore, 1) := by decide +kernel
theorem dX11_bornBehind_33 : decode cX11_bornBehind 33 = .ok (.aload_n 0, 1) := by decide +kernel
theorem dX11_bornBehind_34 : decode cX11_bornBehind 34 = .ok (.dup, 1) := by decide +kernel
theorem dX11_bornBehind_35 : decode cX11_bornBehind 35 = .ok (.getfield 386, 3) := by decide +kernel
theorem dX11_bornBehind_38 : decode cX11_bornBehind 38 = .ok (.iconst 1, 1) := by decide +kernel
theorem dX11_bornBehind_39 : decode cX11_bornBehind 39 = .ok (.iadd, 1) := by decide +kernel
theorem dX11_bornBehind_40 : decode cX11_bornBehind 40 = .ok (.putfield 386, 3) := by decide +kernel
theorem dX11_bornBehind_43 : decode cX11_bornBehind 43 = .ok (.iinc 2 1, 3) := by decide +kernel
theorem dX11_bornBehind_46 : decode cX11_bornBehind 46 = .ok (.goto (-39), 3) := by decide +kernel
theorem dX11_bornBehind_49 : decode cX11_bornBehind 49 = .ok (.iconst 0, 1) := by decide +kernel
theorem dX11_bornBehind_50 : decode cX11_bornBehind 50 = .ok (.istore_n 2, 1) := by decide +kernel
theorem dX11_bornBehind_51 : decode cX11_bornBehind 51 = .ok (.iload_n 2, 1) := by decide +kernel
theorem dX11_bornBehind_52 : decode cX11_bornBehind 52 = .ok (.aload_n 0, 1) := by decide +kernel
theorem dX11_bornBehind_53 : decode cX11_bornBehind 53 = .ok (.getfield 386, 3) := by decide +kernel
theorem dX11_bornBehind_56 : decode cX11_bornBehind 56 = .ok (.aload_n 0, 1) := by decide +kernel
theorem dX11_bornBehind_57 : decode cX11_bornBehind 57 = .ok (.getfield 386, 3) := by decide +kernel
theorem dX11_bornBehind_60 : decode cX11_bornBehind 60 = .ok (.imul, 1) := by decide +kernel
theorem dX11_bornBehind_61 : decode cX11_bornBehind 61 = .ok (.if_icmp .ge 99, 3) := by decide +kernel
theorem dX11_bornBehind_64 : decode cX11_bornBehind 64 = .ok (.aload_n 0, 1) := by decide +kernel
theorem dX11_bornBehind_65 : decode cX11_bornBehind 65 = .ok (.getfield 175, 3) := by decide +kernel
theorem dX11_bornBehind_68 : decode cX11_bornBehind 68 = .ok (.istore_n 3, 1) := by decide +kernel
theorem dX11_bornBehind_69 : decode cX11_bornBehind 69 = .ok (.aload_n 0, 1) := by decide +kernel
theorem dX11_bornBehind_70 : decode cX11_bornBehind 70 = .ok (.aload_n 0, 1) := by decide +kernel
theorem dX11_bornBehind_71 : decode cX11_bornBehind 71 = .ok (.getfield 282, 3) := by decide +kernel
theorem dX11_bornBehind_74 : decode cX11_bornBehind 74 = .ok (.iload_n 2, 1) := by decide +kernel
theorem dX11_bornBehind_75 : decode cX11_bornBehind 75 = .ok (.aload_n 0, 1) := by decide +kernel
theorem dX11_bornBehind_76 : decode cX11_bornBehind 76 = .ok (.getfield 386, 3) := by decide +kernel
theorem dX11_bornBehind_79 : decode cX11_bornBehind 79 = .ok (.idiv, 1) := by decide +kernel
theorem dX11_bornBehind_80 : decode cX11_bornBehind 80 = .ok (.iaload, 1) := by decide +kernel
theorem dX11_bornBehind_81 : decode cX11_bornBehind 81 = .ok (.iload_n 1, 1) := by decide +kernel
theorem dX11_bornBehind_82 : decode cX11_bornBehind 82 = .ok (.invokevirtual 392, 3) := by decide +kernel
theorem dX11_bornBehind_85 : decode cX11_bornBehind 85 = .ok (.aload_n 0, 1) := by decide +kernel
theorem dX11_bornBehind_86 : decode cX11_bornBehind 86 = .ok (.getfield 175, 3) := by decide +kernel
theorem dX11_bornBehind_89 : decode cX11_bornBehind 89 = .ok (.istore 4, 2) := by decide +kernel
theorem dX11_bornBehind_91 : decode cX11_bornBehind 91 = .ok (.aload_n 0, 1) := by decide +kernel
theorem dX11_bornBehind_92 : decode cX11_bornBehind 92 = .ok (.aload_n 0, 1) := by decide +kernel
theorem dX11_bornBehind_93 : decode cX11_bornBehind 93 = .ok (.getfield 282, 3) := by decide +kernel
theorem dX11_bornBehind_96 : decode cX11_bornBehind 96 = .ok (.iload_n 2, 1) := by decide +kernel
theorem dX11_bornBehind_97 : decode cX11_bornBehind 97 = .ok (.aload_n 0, 1) := by decide +kernel
theorem dX11_bornBehind_98 : decode cX11_bornBehind 98 = .ok (.getfield 386, 3) := by decide +kernel
theorem dX11_bornBehind_101 : decode cX11_bornBehind 101 = .ok (.irem, 1) := by decide +kernel
theorem dX11_bornBehind_102 : decode cX11_bornBehind 102 = .ok (.iaload, 1) := by decide +kernel
theorem dX11_bornBehind_103 : decode cX11_bornBehind 103 = .ok (.iload_n 1, 1) := by decide +kernel
theorem dX11_bornBehind_104 : decode cX11_bornBehind 104 = .ok (.invokevirtual 392, 3) := by decide +kernel
theorem dX11_bornBehind_107 : decode cX11_bornBehind 107 = .ok (.aload_n 0, 1) := by decide +kernel
theorem dX11_bornBehind_108 : decode cX11_bornBehind 108 = .ok (.iload_n 3, 1) := by decide +kernel
theorem dX11_bornBehind_109 : decode cX11_bornBehind 109 = .ok (.iload 4, 2) := by decide +kernel
theorem dX11_bornBehind_111 : decode cX11_bornBehind 111 = .ok (.invokevirtual 197, 3) := by decide +kernel
theorem dX11_bornBehind_114 : decode cX11_bornBehind 114 = .ok (.istore 5, 2) := by decide +kernel
theorem dX11_bornBehind_116 : decode cX11_bornBehind 116 = .ok (.aload_n 0, 1) := by decide +kernel
theorem dX11_bornBehind_117 : decode cX11_bornBehind 117 = .ok (.getfield 279, 3) := by decide +kernel
theorem dX11_bornBehind_120 : decode cX11_bornBehind 120 = .ok (.iconst 0, 1) := by decide +kernel
theorem dX11_bornBehind_121 : decode cX11_bornBehind 121 = .ok (.aload_n 0, 1) := by decide +kernel
theorem dX11_bornBehind_122 : decode cX11_bornBehind 122 = .ok (.getfield 309, 3) := by decide +kernel
theorem dX11_bornBehind_125 : decode cX11_bornBehind 125 = .ok (.iload 5, 2) := by decide +kernel
theorem dX11_bornBehind_127 : decode cX11_bornBehind 127 = .ok (.invokestatic 38, 3) := by decide +kernel
theorem dX11_bornBehind_130 : decode cX11_bornBehind 130 = .ok (.ifCond .ne 24, 3) := by decide +kernel
theorem dX11_bornBehind_133 : decode cX11_bornBehind 133 = .ok (.aload_n 0, 1) := by decide +kernel
theorem dX11_bornBehind_134 : decode cX11_bornBehind 134 = .ok (.getfield 279, 3) := by decide +kernel
theorem dX11_bornBehind_137 : decode cX11_bornBehind 137 = .ok (.aload_n 0, 1) := by decide +kernel
theorem dX11_bornBehind_138 : decode cX11_bornBehind 138 = .ok (.getfield 309, 3) := by decide +kernel
theorem dX11_bornBehind_141 : decode cX11_bornBehind 141 = .ok (.iload 5, 2) := by decide +kernel
theorem dX11_bornBehind_143 : decode cX11_bornBehind 143 = .ok (.iastore, 1) := by decide +kernel
theorem dX11_bornBehind_144 : decode cX11_bornBehind 144 = .ok (.aload_n 0, 1) := by decide +kernel
theorem dX11_bornBehind_145 : decode cX11_bornBehind 145 = .ok (.dup, 1) := by decide +kernel
theorem dX11_bornBehind_146 : decode cX11_bornBehind 146 = .ok (.getfield 309, 3) := by decide +kernel
theorem dX11_bornBehind_149 : decode cX11_bornBehind 149 = .ok (.iconst 1, 1) := by decide +kernel
theorem dX11_bornBehind_150 : decode cX11_bornBehind 150 = .ok (.iadd, 1) := by decide +kernel
theorem dX11_bornBehind_151 : decode cX11_bornBehind 151 = .ok (.putfield 309, 3) := by decide +kernel
theorem dX11_bornBehind_154 : decode cX11_bornBehind 154 = .ok (.iinc 2 1, 3) := by decide +kernel
theorem dX11_bornBehind_157 : decode cX11_bornBehind 157 = .ok (.goto (-106), 3) := by decide +kernel
theorem dX11_bornBehind_160 : decode cX11_bornBehind 160 = .ok (.return_, 1) := by decide +kernel
theorem dX11_bornBy_0 : decode cX11_bornBy 0 = .ok (.iconst 0, 1) := by decide +kernel
theorem dX11_bornBy_1 : decode cX11_bornBy 1 = .ok (.istore_n 2, 1) := by decide +kernel
theorem dX11_bornBy_2 : decode cX11_bornBy 2 = .ok (.iconst 0, 1) := by decide +kernel
theorem dX11_bornBy_3 : decode cX11_bornBy 3 = .ok (.istore_n 3, 1) := by decide +kernel
theorem dX11_bornBy_4 : decode cX11_bornBy 4 = .ok (.iload_n 3, 1) := by decide +kernel
theorem dX11_bornBy_5 : decode cX11_bornBy 5 = .ok (.aload_n 0, 1) := by decide +kernel
theorem dX11_bornBy_6 : decode cX11_bornBy 6 = .ok (.getfield 309, 3) := by decide +kernel
theorem dX11_bornBy_9 : decode cX11_bornBy 9 = .ok (.if_icmp .ge 32, 3) := by decide +kernel
theorem dX11_bornBy_12 : decode cX11_bornBy 12 = .ok (.iload_n 2, 1) := by decide +kernel
theorem dX11_bornBy_13 : decode cX11_bornBy 13 = .ok (.aload_n 0, 1) := by decide +kernel
theorem dX11_bornBy_14 : decode cX11_bornBy 14 = .ok (.getfield 103, 3) := by decide +kernel
theorem dX11_bornBy_17 : decode cX11_bornBy 17 = .ok (.aload_n 0, 1) := by decide +kernel
theorem dX11_bornBy_18 : decode cX11_bornBy 18 = .ok (.getfield 279, 3) := by decide +kernel
theorem dX11_bornBy_21 : decode cX11_bornBy 21 = .ok (.iload_n 3, 1) := by decide +kernel
theorem dX11_bornBy_22 : decode cX11_bornBy 22 = .ok (.iaload, 1) := by decide +kernel
theorem dX11_bornBy_23 : decode cX11_bornBy 23 = .ok (.iaload, 1) := by decide +kernel
theorem dX11_bornBy_24 : decode cX11_bornBy 24 = .ok (.iload_n 1, 1) := by decide +kernel
theorem dX11_bornBy_25 : decode cX11_bornBy 25 = .ok (.if_icmp .gt 7, 3) := by decide +kernel
theorem dX11_bornBy_28 : decode cX11_bornBy 28 = .ok (.iconst 1, 1) := by decide +kernel
theorem dX11_bornBy_29 : decode cX11_bornBy 29 = .ok (.goto 4, 3) := by decide +kernel
theorem dX11_bornBy_32 : decode cX11_bornBy 32 = .ok (.iconst 0, 1) := by decide +kernel
theorem dX11_bornBy_33 : decode cX11_bornBy 33 = .ok (.iadd, 1) := by decide +kernel
theorem dX11_bornBy_34 : decode cX11_bornBy 34 = .ok (.istore_n 2, 1) := by decide +kernel
theorem dX11_bornBy_35 : decode cX11_bornBy 35 = .ok (.iinc 3 1, 3) := by decide +kernel
theorem dX11_bornBy_38 : decode cX11_bornBy 38 = .ok (.goto (-34), 3) := by decide +kernel
theorem dX11_bornBy_41 : decode cX11_bornBy 41 = .ok (.iload_n 2, 1) := by decide +kernel
theorem dX11_bornBy_42 : decode cX11_bornBy 42 = .ok (.ireturn, 1) := by decide +kernel
theorem dX11_bracedUnit_0 : decode cX11_bracedUnit 0 = .ok (.aload_n 0, 1) := by decide +kernel
theorem dX11_bracedUnit_1 : decode cX11_bracedUnit 1 = .ok (.invokevirtual 438, 3) := by decide +kernel
theorem dX11_bracedUnit_4 : decode cX11_bracedUnit 4 = .ok (.ifCond .ne 5, 3) := by decide +kernel
theorem dX11_bracedUnit_7 : decode cX11_bracedUnit 7 = .ok (.iconst 0, 1) := by decide +kernel
theorem dX11_bracedUnit_8 : decode cX11_bracedUnit 8 = .ok (.ireturn, 1) := by decide +kernel
theorem dX11_bracedUnit_9 : decode cX11_bracedUnit 9 = .ok (.aload_n 0, 1) := by decide +kernel
theorem dX11_bracedUnit_10 : decode cX11_bracedUnit 10 = .ok (.getfield 175, 3) := by decide +kernel
theorem dX11_bracedUnit_13 : decode cX11_bracedUnit 13 = .ok (.istore_n 1, 1) := by decide +kernel
theorem dX11_bracedUnit_14 : decode cX11_bracedUnit 14 = .ok (.aload_n 0, 1) := by decide +kernel
theorem dX11_bracedUnit_15 : decode cX11_bracedUnit 15 = .ok (.bipush 124, 2) := by decide +kernel
theorem dX11_bracedUnit_17 : decode cX11_bracedUnit 17 = .ok (.invokevirtual 453, 3) := by decide +kernel
theorem dX11_bracedUnit_20 : decode cX11_bracedUnit 20 = .ok (.aload_n 0, 1) := by decide +kernel
theorem dX11_bracedUnit_21 : decode cX11_bracedUnit 21 = .ok (.bipush 124, 2) := by decide +kernel
theorem dX11_bracedUnit_23 : decode cX11_bracedUnit 23 = .ok (.invokevirtual 456, 3) := by decide +kernel
theorem dX11_bracedUnit_26 : decode cX11_bracedUnit 26 = .ok (.aload_n 0, 1) := by decide +kernel
theorem dX11_bracedUnit_27 : decode cX11_bracedUnit 27 = .ok (.getfield 175, 3) := by decide +kernel
theorem dX11_bracedUnit_30 : decode cX11_bracedUnit 30 = .ok (.istore_n 2, 1) := by decide +kernel
theorem dX11_bracedUnit_31 : decode cX11_bracedUnit 31 = .ok (.aload_n 0, 1) := by decide +kernel
theorem dX11_bracedUnit_32 : decode cX11_bracedUnit 32 = .ok (.bipush 125, 2) := by decide +kernel
theorem dX11_bracedUnit_34 : decode cX11_bracedUnit 34 = .ok (.invokevirtual 453, 3) := by decide +kernel
theorem dX11_bracedUnit_37 : decode cX11_bracedUnit 37 = .ok (.aload_n 0, 1) := by decide +kernel
theorem dX11_bracedUnit_38 : decode cX11_bracedUnit 38 = .ok (.bipush 125, 2) := by decide +kernel
theorem dX11_bracedUnit_40 : decode cX11_bracedUnit 40 = .ok (.invokevirtual 456, 3) := by decide +kernel
theorem dX11_bracedUnit_43 : decode cX11_bracedUnit 43 = .ok (.aload_n 0, 1) := by decide +kernel
theorem dX11_bracedUnit_44 : decode cX11_bracedUnit 44 = .ok (.dup, 1) := by decide +kernel
theorem dX11_bracedUnit_45 : decode cX11_bracedUnit 45 = .ok (.getfield 435, 3) := by decide +kernel
theorem dX11_bracedUnit_48 : decode cX11_bracedUnit 48 = .ok (.iconst 1, 1) := by decide +kernel
theorem dX11_bracedUnit_49 : decode cX11_bracedUnit 49 = .ok (.isub, 1) := by decide +kernel
theorem dX11_bracedUnit_50 : decode cX11_bracedUnit 50 = .ok (.putfield 435, 3) := by decide +kernel
theorem dX11_bracedUnit_53 : decode cX11_bracedUnit 53 = .ok (.aload_n 0, 1) := by decide +kernel
theorem dX11_bracedUnit_54 : decode cX11_bracedUnit 54 = .ok (.getfield 444, 3) := by decide +kernel
theorem dX11_bracedUnit_57 : decode cX11_bracedUnit 57 = .ok (.ifCond .eq 10, 3) := by decide +kernel
theorem dX11_bracedUnit_60 : decode cX11_bracedUnit 60 = .ok (.aload_n 0, 1) := by decide +kernel
theorem dX11_bracedUnit_61 : decode cX11_bracedUnit 61 = .ok (.getfield 422, 3) := by decide +kernel
theorem dX11_bracedUnit_64 : decode cX11_bracedUnit 64 = .ok (.ifCond .lt 10, 3) := by decide +kernel
theorem dX11_bracedUnit_67 : decode cX11_bracedUnit 67 = .ok (.aload_n 0, 1) := by decide +kernel
theorem dX11_bracedUnit_68 : decode cX11_bracedUnit 68 = .ok (.iload_n 1, 1) := by decide +kernel
theorem dX11_bracedUnit_69 : decode cX11_bracedUnit 69 = .ok (.putfield 175, 3) := by decide +kernel
theorem dX11_bracedUnit_72 : decode cX11_bracedUnit 72 = .ok (.iconst 0, 1) := by decide +kernel
theorem dX11_bracedUnit_73 : decode cX11_bracedUnit 73 = .ok (.ireturn, 1) := by decide +kernel
theorem dX11_bracedUnit_74 : decode cX11_bracedUnit 74 = .ok (.aload_n 0, 1) := by decide +kernel
theorem dX11_bracedUnit_75 : decode cX11_bracedUnit 75 = .ok (.aload_n 0, 1) := by decide +kernel
theorem dX11_bracedUnit_76 : decode cX11_bracedUnit 76 = .ok (.iload_n 1, 1) := by decide +kernel
theorem dX11_bracedUnit_77 : decode cX11_bracedUnit 77 = .ok (.iload_n 2, 1) := by decide +kernel
theorem dX11_bracedUnit_78 : decode cX11_bracedUnit 78 = .ok (.invokevirtual 197, 3) := by decide +kernel
theorem dX11_bracedUnit_81 : decode cX11_bracedUnit 81 = .ok (.invokevirtual 447, 3) := by decide +kernel
theorem dX11_bracedUnit_84 : decode cX11_bracedUnit 84 = .ok (.ireturn, 1) := by decide +kernel
theorem dX11_bypassesLeft_0 : decode cX11_bypassesLeft 0 = .ok (.iconst 0, 1) := by decide +kernel
theorem dX11_bypassesLeft_1 : decode cX11_bypassesLeft 1 = .ok (.istore_n 1, 1) := by decide +kernel
theorem dX11_bypassesLeft_2 : decode cX11_bypassesLeft 2 = .ok (.iload_n 1, 1) := by decide +kernel
theorem dX11_bypassesLeft_3 : decode cX11_bypassesLeft 3 = .ok (.aload_n 0, 1) := by decide +kernel
theorem dX11_bypassesLeft_4 : decode cX11_bypassesLeft 4 = .ok (.getfield 9, 3) := by decide +kernel
theorem dX11_bypassesLeft_7 : decode cX11_bypassesLeft 7 = .ok (.if_icmp .ge 85, 3) := by decide +kernel
theorem dX11_bypassesLeft_10 : decode cX11_bypassesLeft 10 = .ok (.aload_n 0, 1) := by decide +kernel
theorem dX11_bypassesLeft_11 : decode cX11_bypassesLeft 11 = .ok (.aload_n 0, 1) := by decide +kernel
theorem dX11_bypassesLeft_12 : decode cX11_bypassesLeft 12 = .ok (.getfield 13, 3) := by decide +kernel
theorem dX11_bypassesLeft_15 : decode cX11_bypassesLeft 15 = .ok (.iload_n 1, 1) := by decide +kernel
theorem dX11_bypassesLeft_16 : decode cX11_bypassesLeft 16 = .ok (.iaload, 1) := by decide +kernel
theorem dX11_bypassesLeft_17 : decode cX11_bypassesLeft 17 = .ok (.invokevirtual 143, 3) := by decide +kernel
theorem dX11_bypassesLeft_20 : decode cX11_bypassesLeft 20 = .ok (.istore_n 2, 1) := by decide +kernel
theorem dX11_bypassesLeft_21 : decode cX11_bypassesLeft 21 = .ok (.iload_n 2, 1) := by decide +kernel
theorem dX11_bypassesLeft_22 : decode cX11_bypassesLeft 22 = .ok (.ifCond .ge 9, 3) := by decide +kernel
theorem dX11_bypassesLeft_25 : decode cX11_bypassesLeft 25 = .ok (.iinc 1 1, 3) := by decide +kernel
theorem dX11_bypassesLeft_28 : decode cX11_bypassesLeft 28 = .ok (.goto 61, 3) := by decide +kernel
theorem dX11_bypassesLeft_31 : decode cX11_bypassesLeft 31 = .ok (.aload_n 0, 1) := by decide +kernel
theorem dX11_bypassesLeft_32 : decode cX11_bypassesLeft 32 = .ok (.dup, 1) := by decide +kernel
theorem dX11_bypassesLeft_33 : decode cX11_bypassesLeft 33 = .ok (.getfield 9, 3) := by decide +kernel
theorem dX11_bypassesLeft_36 : decode cX11_bypassesLeft 36 = .ok (.iconst 1, 1) := by decide +kernel
theorem dX11_bypassesLeft_37 : decode cX11_bypassesLeft 37 = .ok (.isub, 1) := by decide +kernel
theorem dX11_bypassesLeft_38 : decode cX11_bypassesLeft 38 = .ok (.putfield 9, 3) := by decide +kernel
theorem dX11_bypassesLeft_41 : decode cX11_bypassesLeft 41 = .ok (.aload_n 0, 1) := by decide +kernel
theorem dX11_bypassesLeft_42 : decode cX11_bypassesLeft 42 = .ok (.getfield 13, 3) := by decide +kernel
theorem dX11_bypassesLeft_45 : decode cX11_bypassesLeft 45 = .ok (.iload_n 1, 1) := by decide +kernel
theorem dX11_bypassesLeft_46 : decode cX11_bypassesLeft 46 = .ok (.aload_n 0, 1) := by decide +kernel
theorem dX11_bypassesLeft_47 : decode cX11_bypassesLeft 47 = .ok (.getfield 13, 3) := by decide +kernel
theorem dX11_bypassesLeft_50 : decode cX11_bypassesLeft 50 = .ok (.aload_n 0, 1) := by decide +kernel
theorem dX11_bypassesLeft_51 : decode cX11_bypassesLeft 51 = .ok (.getfield 9, 3) := by decide +kernel
theorem dX11_bypassesLeft_54 : decode cX11_bypassesLeft 54 = .ok (.iaload, 1) := by decide +kernel
theorem dX11_bypassesLeft_55 : decode cX11_bypassesLeft 55 = .ok (.iastore, 1) := by decide +kernel
theorem dX11_bypassesLeft_56 : decode cX11_bypassesLeft 56 = .ok (.aload_n 0, 1) := by decide +kernel
theorem dX11_bypassesLeft_57 : decode cX11_bypassesLeft 57 = .ok (.getfield 29, 3) := by decide +kernel
theorem dX11_bypassesLeft_60 : decode cX11_bypassesLeft 60 = .ok (.iload_n 2, 1) := by decide +kernel
theorem dX11_bypassesLeft_61 : decode cX11_bypassesLeft 61 = .ok (.iaload, 1) := by decide +kernel
theorem dX11_bypassesLeft_62 : decode cX11_bypassesLeft 62 = .ok (.istore_n 3, 1) := by decide +kernel
theorem dX11_bypassesLeft_63 : decode cX11_bypassesLeft 63 = .ok (.iload_n 3, 1) := by decide +kernel
theorem dX11_bypassesLeft_64 : decode cX11_bypassesLeft 64 = .ok (.aload_n 0, 1) := by decide +kernel
theorem dX11_bypassesLeft_65 : decode cX11_bypassesLeft 65 = .ok (.getfield 26, 3) := by decide +kernel
theorem dX11_bypassesLeft_68 : decode cX11_bypassesLeft 68 = .ok (.iload_n 2, 1) := by decide +kernel
theorem dX11_bypassesLeft_69 : decode cX11_bypassesLeft 69 = .ok (.iaload, 1) := by decide +kernel
theorem dX11_bypassesLeft_70 : decode cX11_bypassesLeft 70 = .ok (.if_icmp .ge 19, 3) := by decide +kernel
theorem dX11_bypassesLeft_73 : decode cX11_bypassesLeft 73 = .ok (.aload_n 0, 1) := by decide +kernel
theorem dX11_bypassesLeft_74 : decode cX11_bypassesLeft 74 = .ok (.aload_n 0, 1) := by decide +kernel
theorem dX11_bypassesLeft_75 : decode cX11_bypassesLeft 75 = .ok (.getfield 35, 3) := by decide +kernel
theorem dX11_bypassesLeft_78 : decode cX11_bypassesLeft 78 = .ok (.iload_n 3, 1) := by decide +kernel
theorem dX11_bypassesLeft_79 : decode cX11_bypassesLeft 79 = .ok (.iaload, 1) := by decide +kernel
theorem dX11_bypassesLeft_80 : decode cX11_bypassesLeft 80 = .ok (.invokevirtual 146, 3) := by decide +kernel
theorem dX11_bypassesLeft_83 : decode cX11_bypassesLeft 83 = .ok (.iinc 3 1, 3) := by decide +kernel
theorem dX11_bypassesLeft_86 : decode cX11_bypassesLeft 86 = .ok (.goto (-23), 3) := by decide +kernel
theorem dX11_bypassesLeft_89 : decode cX11_bypassesLeft 89 = .ok (.goto (-87), 3) := by decide +kernel
theorem dX11_bypassesLeft_92 : decode cX11_bypassesLeft 92 = .ok (.return_, 1) := by decide +kernel
theorem dX11_bypassesRight_0 : decode cX11_bypassesRight 0 = .ok (.iconst 0, 1) := by decide +kernel
theorem dX11_bypassesRight_1 : decode cX11_bypassesRight 1 = .ok (.istore_n 1, 1) := by decide +kernel
theorem dX11_bypassesRight_2 : decode cX11_bypassesRight 2 = .ok (.iload_n 1, 1) := by decide +kernel
theorem dX11_bypassesRight_3 : decode cX11_bypassesRight 3 = .ok (.aload_n 0, 1) := by decide +kernel
theorem dX11_bypassesRight_4 : decode cX11_bypassesRight 4 = .ok (.getfield 20, 3) := by decide +kernel
theorem dX11_bypassesRight_7 : decode cX11_bypassesRight 7 = .ok (.if_icmp .ge 85, 3) := by decide +kernel
theorem dX11_bypassesRight_10 : decode cX11_bypassesRight 10 = .ok (.aload_n 0, 1) := by decide +kernel
theorem dX11_bypassesRight_11 : decode cX11_bypassesRight 11 = .ok (.aload_n 0, 1) := by decide +kernel
theorem dX11_bypassesRight_12 : decode cX11_bypassesRight 12 = .ok (.getfield 23, 3) := by decide +kernel
theorem dX11_bypassesRight_15 : decode cX11_bypassesRight 15 = .ok (.iload_n 1, 1) := by decide +kernel
theorem dX11_bypassesRight_16 : decode cX11_bypassesRight 16 = .ok (.iaload, 1) := by decide +kernel
theorem dX11_bypassesRight_17 : decode cX11_bypassesRight 17 = .ok (.invokevirtual 149, 3) := by decide +kernel
theorem dX11_bypassesRight_20 : decode cX11_bypassesRight 20 = .ok (.istore_n 2, 1) := by decide +kernel
theorem dX11_bypassesRight_21 : decode cX11_bypassesRight 21 = .ok (.iload_n 2, 1) := by decide +kernel
theorem dX11_bypassesRight_22 : decode cX11_bypassesRight 22 = .ok (.ifCond .ge 9, 3) := by decide +kernel
theorem dX11_bypassesRight_25 : decode cX11_bypassesRight 25 = .ok (.iinc 1 1, 3) := by decide +kernel
theorem dX11_bypassesRight_28 : decode cX11_bypassesRight 28 = .ok (.goto 61, 3) := by decide +kernel
theorem dX11_bypassesRight_31 : decode cX11_bypassesRight 31 = .ok (.aload_n 0, 1) := by decide +kernel
theorem dX11_bypassesRight_32 : decode cX11_bypassesRight 32 = .ok (.dup, 1) := by decide +kernel
theorem dX11_bypassesRight_33 : decode cX11_bypassesRight 33 = .ok (.getfield 20, 3) := by decide +kernel
theorem dX11_bypassesRight_36 : decode cX11_bypassesRight 36 = .ok (.iconst 1, 1) := by decide +kernel
theorem dX11_bypassesRight_37 : decode cX11_bypassesRight 37 = .ok (.isub, 1) := by decide +kernel
theorem dX11_bypassesRight_38 : decode cX11_bypassesRight 38 = .ok (.putfield 20, 3) := by decide +kernel
theorem dX11_bypassesRight_41 : decode cX11_bypassesRight 41 = .ok (.aload_n 0, 1) := by decide +kernel
theorem dX11_bypassesRight_42 : decode cX11_bypassesRight 42 = .ok (.getfield 23, 3) := by decide +kernel
theorem dX11_bypassesRight_45 : decode cX11_bypassesRight 45 = .ok (.iload_n 1, 1) := by decide +kernel
theorem dX11_bypassesRight_46 : decode cX11_bypassesRight 46 = .ok (.aload_n 0, 1) := by decide +kernel
theorem dX11_bypassesRight_47 : decode cX11_bypassesRight 47 = .ok (.getfield 23, 3) := by decide +kernel
theorem dX11_bypassesRight_50 : decode cX11_bypassesRight 50 = .ok (.aload_n 0, 1) := by decide +kernel
theorem dX11_bypassesRight_51 : decode cX11_bypassesRight 51 = .ok (.getfield 20, 3) := by decide +kernel
theorem dX11_bypassesRight_54 : decode cX11_bypassesRight 54 = .ok (.iaload, 1) := by decide +kernel
theorem dX11_bypassesRight_55 : decode cX11_bypassesRight 55 = .ok (.iastore, 1) := by decide +kernel
theorem dX11_bypassesRight_56 : decode cX11_bypassesRight 56 = .ok (.aload_n 0, 1) := by decide +kernel
theorem dX11_bypassesRight_57 : decode cX11_bypassesRight 57 = .ok (.getfield 26, 3) := by decide +kernel
theorem dX11_bypassesRight_60 : decode cX11_bypassesRight 60 = .ok (.iload_n 2, 1) := by decide +kernel
theorem dX11_bypassesRight_61 : decode cX11_bypassesRight 61 = .ok (.iaload, 1) := by decide +kernel
theorem dX11_bypassesRight_62 : decode cX11_bypassesRight 62 = .ok (.istore_n 3, 1) := by decide +kernel
theorem dX11_bypassesRight_63 : decode cX11_bypassesRight 63 = .ok (.iload_n 3, 1) := by decide +kernel
theorem dX11_bypassesRight_64 : decode cX11_bypassesRight 64 = .ok (.aload_n 0, 1) := by decide +kernel
theorem dX11_bypassesRight_65 : decode cX11_bypassesRight 65 = .ok (.getfield 32, 3) := by decide +kernel
theorem dX11_bypassesRight_68 : decode cX11_bypassesRight 68 = .ok (.iload_n 2, 1) := by decide +kernel
theorem dX11_bypassesRight_69 : decode cX11_bypassesRight 69 = .ok (.iaload, 1) := by decide +kernel
theorem dX11_bypassesRight_70 : decode cX11_bypassesRight 70 = .ok (.if_icmp .ge 19, 3) := by decide +kernel
theorem dX11_bypassesRight_73 : decode cX11_bypassesRight 73 = .ok (.aload_n 0, 1) := by decide +kernel
theorem dX11_bypassesRight_74 : decode cX11_bypassesRight 74 = .ok (.aload_n 0, 1) := by decide +kernel
theorem dX11_bypassesRight_75 : decode cX11_bypassesRight 75 = .ok (.getfield 35, 3) := by decide +kernel
theorem dX11_bypassesRight_78 : decode cX11_bypassesRight 78 = .ok (.iload_n 3, 1) := by decide +kernel
theorem dX11_bypassesRight_79 : decode cX11_bypassesRight 79 = .ok (.iaload, 1) := by decide +kernel
theorem dX11_bypassesRight_80 : decode cX11_bypassesRight 80 = .ok (.invokevirtual 152, 3) := by decide +kernel
theorem dX11_bypassesRight_83 : decode cX11_bypassesRight 83 = .ok (.iinc 3 1, 3) := by decide +kernel
theorem dX11_bypassesRight_86 : decode cX11_bypassesRight 86 = .ok (.goto (-23), 3) := by decide +kernel
theorem dX11_bypassesRight_89 : decode cX11_bypassesRight 89 = .ok (.goto (-87), 3) := by decide +kernel
theorem dX11_bypassesRight_92 : decode cX11_bypassesRight 92 = .ok (.return_, 1) := by decide +kernel
theorem dX11_bytesAt_0 : decode cX11_bytesAt 0 = .ok (.aload_n 0, 1) := by decide +kernel
theorem dX11_bytesAt_1 : decode cX11_bytesAt 1 = .ok (.getfield 79, 3) := by decide +kernel
theorem dX11_bytesAt_4 : decode cX11_bytesAt 4 = .ok (.iload_n 1, 1) := by decide +kernel
theorem dX11_bytesAt_5 : decode cX11_bytesAt 5 = .ok (.iaload, 1) := by decide +kernel
theorem dX11_bytesAt_6 : decode cX11_bytesAt 6 = .ok (.sipush (-1000), 3) := by decide +kernel
theorem dX11_bytesAt_9 : decode cX11_bytesAt 9 = .ok (.if_icmp .eq 37, 3) := by decide +kernel
theorem dX11_bytesAt_12 : decode cX11_bytesAt 12 = .ok (.aload_n 0, 1) := by decide +kernel
theorem dX11_bytesAt_13 : decode cX11_bytesAt 13 = .ok (.getfield 79, 3) := by decide +kernel
theorem dX11_bytesAt_16 : decode cX11_bytesAt 16 = .ok (.iload_n 1, 1) := by decide +kernel
theorem dX11_bytesAt_17 : decode cX11_bytesAt 17 = .ok (.iaload, 1) := by decide +kernel
theorem dX11_bytesAt_18 : decode cX11_bytesAt 18 = .ok (.ifCond .ge 18, 3) := by decide +kernel
theorem dX11_bytesAt_21 : decode cX11_bytesAt 21 = .ok (.iconst 1, 1) := by decide +kernel
theorem dX11_bytesAt_22 : decode cX11_bytesAt 22 = .ok (.aload_n 0, 1) := by decide +kernel
theorem dX11_bytesAt_23 : decode cX11_bytesAt 23 = .ok (.getfield 79, 3) := by decide +kernel
theorem dX11_bytesAt_26 : decode cX11_bytesAt 26 = .ok (.iload_n 1, 1) := by decide +kernel
theorem dX11_bytesAt_27 : decode cX11_bytesAt 27 = .ok (.iaload, 1) := by decide +kernel
theorem dX11_bytesAt_28 : decode cX11_bytesAt 28 = .ok (.ineg, 1) := by decide +kernel
theorem dX11_bytesAt_29 : decode cX11_bytesAt 29 = .ok (.invokestatic 110, 3) := by decide +kernel
theorem dX11_bytesAt_32 : decode cX11_bytesAt 32 = .ok (.iadd, 1) := by decide +kernel
theorem dX11_bytesAt_33 : decode cX11_bytesAt 33 = .ok (.goto 12, 3) := by decide +kernel
theorem dX11_bytesAt_36 : decode cX11_bytesAt 36 = .ok (.aload_n 0, 1) := by decide +kernel
theorem dX11_bytesAt_37 : decode cX11_bytesAt 37 = .ok (.getfield 79, 3) := by decide +kernel
theorem dX11_bytesAt_40 : decode cX11_bytesAt 40 = .ok (.iload_n 1, 1) := by decide +kernel
theorem dX11_bytesAt_41 : decode cX11_bytesAt 41 = .ok (.iaload, 1) := by decide +kernel
theorem dX11_bytesAt_42 : decode cX11_bytesAt 42 = .ok (.invokestatic 110, 3) := by decide +kernel
theorem dX11_bytesAt_45 : decode cX11_bytesAt 45 = .ok (.ireturn, 1) := by decide +kernel
theorem dX11_bytesAt_46 : decode cX11_bytesAt 46 = .ok (.aload_n 0, 1) := by decide +kernel
theorem dX11_bytesAt_47 : decode cX11_bytesAt 47 = .ok (.getfield 85, 3) := by decide +kernel
theorem dX11_bytesAt_50 : decode cX11_bytesAt 50 = .ok (.iload_n 1, 1) := by decide +kernel
theorem dX11_bytesAt_51 : decode cX11_bytesAt 51 = .ok (.iaload, 1) := by decide +kernel
theorem dX11_bytesAt_52 : decode cX11_bytesAt 52 = .ok (.ifCond .le 29, 3) := by decide +kernel
theorem dX11_bytesAt_55 : decode cX11_bytesAt 55 = .ok (.aload_n 0, 1) := by decide +kernel
theorem dX11_bytesAt_56 : decode cX11_bytesAt 56 = .ok (.getfield 85, 3) := by decide +kernel
theorem dX11_bytesAt_59 : decode cX11_bytesAt 59 = .ok (.iload_n 1, 1) := by decide +kernel
theorem dX11_bytesAt_60 : decode cX11_bytesAt 60 = .ok (.iaload, 1) := by decide +kernel
theorem dX11_bytesAt_61 : decode cX11_bytesAt 61 = .ok (.iconst 1, 1) := by decide +kernel
theorem dX11_bytesAt_62 : decode cX11_bytesAt 62 = .ok (.if_icmp .ne 7, 3) := by decide +kernel
theorem dX11_bytesAt_65 : decode cX11_bytesAt 65 = .ok (.iconst 1, 1) := by decide +kernel
theorem dX11_bytesAt_66 : decode cX11_bytesAt 66 = .ok (.goto 14, 3) := by decide +kernel
theorem dX11_bytesAt_69 : decode cX11_bytesAt 69 = .ok (.iconst 1, 1) := by decide +kernel
theorem dX11_bytesAt_70 : decode cX11_bytesAt 70 = .ok (.aload_n 0, 1) := by decide +kernel
theorem dX11_bytesAt_71 : decode cX11_bytesAt 71 = .ok (.getfield 85, 3) := by decide +kernel
theorem dX11_bytesAt_74 : decode cX11_bytesAt 74 = .ok (.iload_n 1, 1) := by decide +kernel
theorem dX11_bytesAt_75 : decode cX11_bytesAt 75 = .ok (.iaload, 1) := by decide +kernel
theorem dX11_bytesAt_76 : decode cX11_bytesAt 76 = .ok (.invokestatic 110, 3) := by decide +kernel
theorem dX11_bytesAt_79 : decode cX11_bytesAt 79 = .ok (.iadd, 1) := by decide +kernel
theorem dX11_bytesAt_80 : decode cX11_bytesAt 80 = .ok (.ireturn, 1) := by decide +kernel
theorem dX11_bytesAt_81 : decode cX11_bytesAt 81 = .ok (.iconst 3, 1) := by decide +kernel
theorem dX11_bytesAt_82 : decode cX11_bytesAt 82 = .ok (.istore_n 2, 1) := by decide +kernel
theorem dX11_bytesAt_83 : decode cX11_bytesAt 83 = .ok (.aload_n 0, 1) := by decide +kernel
theorem dX11_bytesAt_84 : decode cX11_bytesAt 84 = .ok (.getfield 29, 3) := by decide +kernel
theorem dX11_bytesAt_87 : decode cX11_bytesAt 87 = .ok (.iload_n 1, 1) := by decide +kernel
theorem dX11_bytesAt_88 : decode cX11_bytesAt 88 = .ok (.iaload, 1) := by decide +kernel
theorem dX11_bytesAt_89 : decode cX11_bytesAt 89 = .ok (.istore_n 3, 1) := by decide +kernel
theorem dX11_bytesAt_90 : decode cX11_bytesAt 90 = .ok (.iload_n 3, 1) := by decide +kernel
theorem dX11_bytesAt_91 : decode cX11_bytesAt 91 = .ok (.aload_n 0, 1) := by decide +kernel
theorem dX11_bytesAt_92 : decode cX11_bytesAt 92 = .ok (.getfield 32, 3) := by decide +kernel
theorem dX11_bytesAt_95 : decode cX11_bytesAt 95 = .ok (.iload_n 1, 1) := by decide +kernel
theorem dX11_bytesAt_96 : decode cX11_bytesAt 96 = .ok (.iaload, 1) := by decide +kernel
theorem dX11_bytesAt_97 : decode cX11_bytesAt 97 = .ok (.if_icmp .ge 49, 3) := by decide +kernel
theorem dX11_bytesAt_100 : decode cX11_bytesAt 100 = .ok (.iload_n 2, 1) := by decide +kernel
theorem dX11_bytesAt_101 : decode cX11_bytesAt 101 = .ok (.aload_n 0, 1) := by decide +kernel
theorem dX11_bytesAt_102 : decode cX11_bytesAt 102 = .ok (.getfield 97, 3) := by decide +kernel
theorem dX11_bytesAt_105 : decode cX11_bytesAt 105 = .ok (.aload_n 0, 1) := by decide +kernel
theorem dX11_bytesAt_106 : decode cX11_bytesAt 106 = .ok (.getfield 35, 3) := by decide +kernel
theorem dX11_bytesAt_109 : decode cX11_bytesAt 109 = .ok (.iload_n 3, 1) := by decide +kernel
theorem dX11_bytesAt_110 : decode cX11_bytesAt 110 = .ok (.iaload, 1) := by decide +kernel
theorem dX11_bytesAt_111 : decode cX11_bytesAt 111 = .ok (.iaload, 1) := by decide +kernel
theorem dX11_bytesAt_112 : decode cX11_bytesAt 112 = .ok (.iload_n 3, 1) := by decide +kernel
theorem dX11_bytesAt_113 : decode cX11_bytesAt 113 = .ok (.aload_n 0, 1) := by decide +kernel
theorem dX11_bytesAt_114 : decode cX11_bytesAt 114 = .ok (.getfield 29, 3) := by decide +kernel
theorem dX11_bytesAt_117 : decode cX11_bytesAt 117 = .ok (.iload_n 1, 1) := by decide +kernel
theorem dX11_bytesAt_118 : decode cX11_bytesAt 118 = .ok (.iaload, 1) := by decide +kernel
theorem dX11_bytesAt_119 : decode cX11_bytesAt 119 = .ok (.if_icmp .le 17, 3) := by decide +kernel
theorem dX11_bytesAt_122 : decode cX11_bytesAt 122 = .ok (.iload_n 3, 1) := by decide +kernel
theorem dX11_bytesAt_123 : decode cX11_bytesAt 123 = .ok (.aload_n 0, 1) := by decide +kernel
theorem dX11_bytesAt_124 : decode cX11_bytesAt 124 = .ok (.getfield 26, 3) := by decide +kernel
theorem dX11_bytesAt_127 : decode cX11_bytesAt 127 = .ok (.iload_n 1, 1) := by decide +kernel
theorem dX11_bytesAt_128 : decode cX11_bytesAt 128 = .ok (.iaload, 1) := by decide +kernel
theorem dX11_bytesAt_129 : decode cX11_bytesAt 129 = .ok (.if_icmp .eq 7, 3) := by decide +kernel
theorem dX11_bytesAt_132 : decode cX11_bytesAt 132 = .ok (.iconst 1, 1) := by decide +kernel
theorem dX11_bytesAt_133 : decode cX11_bytesAt 133 = .ok (.goto 4, 3) := by decide +kernel
theorem dX11_bytesAt_136 : decode cX11_bytesAt 136 = .ok (.iconst 0, 1) := by decide +kernel
theorem dX11_bytesAt_137 : decode cX11_bytesAt 137 = .ok (.iadd, 1) := by decide +kernel
theorem dX11_bytesAt_138 : decode cX11_bytesAt 138 = .ok (.iadd, 1) := by decide +kernel
theorem dX11_bytesAt_139 : decode cX11_bytesAt 139 = .ok (.istore_n 2, 1) := by decide +kernel
theorem dX11_bytesAt_140 : decode cX11_bytesAt 140 = .ok (.iinc 3 1, 3) := by decide +kernel
theorem dX11_bytesAt_143 : decode cX11_bytesAt 143 = .ok (.goto (-53), 3) := by decide +kernel
theorem dX11_bytesAt_146 : decode cX11_bytesAt 146 = .ok (.iload_n 2, 1) := by decide +kernel
theorem dX11_bytesAt_147 : decode cX11_bytesAt 147 = .ok (.ldc 113, 2) := by decide +kernel
theorem dX11_bytesAt_149 : decode cX11_bytesAt 149 = .ok (.if_icmp .le 8, 3) := by decide +kernel
theorem dX11_bytesAt_152 : decode cX11_bytesAt 152 = .ok (.ldc 113, 2) := by decide +kernel
theorem dX11_bytesAt_154 : decode cX11_bytesAt 154 = .ok (.goto 4, 3) := by decide +kernel
theorem dX11_bytesAt_157 : decode cX11_bytesAt 157 = .ok (.iload_n 2, 1) := by decide +kernel
theorem dX11_bytesAt_158 : decode cX11_bytesAt 158 = .ok (.ireturn, 1) := by decide +kernel
theorem dX11_canonical_0 : decode cX11_canonical 0 = .ok (.aload_n 0, 1) := by decide +kernel
theorem dX11_canonical_1 : decode cX11_canonical 1 = .ok (.dup, 1) := by decide +kernel
theorem dX11_canonical_2 : decode cX11_canonical 2 = .ok (.getfield 131, 3) := by decide +kernel
theorem dX11_canonical_5 : decode cX11_canonical 5 = .ok (.iconst 1, 1) := by decide +kernel
theorem dX11_canonical_6 : decode cX11_canonical 6 = .ok (.iadd, 1) := by decide +kernel
theorem dX11_canonical_7 : decode cX11_canonical 7 = .ok (.putfield 131, 3) := by decide +kernel
theorem dX11_canonical_10 : decode cX11_canonical 10 = .ok (.aload_n 0, 1) := by decide +kernel
theorem dX11_canonical_11 : decode cX11_canonical 11 = .ok (.invokevirtual 159, 3) := by decide +kernel
theorem dX11_canonical_14 : decode cX11_canonical 14 = .ok (.aload_n 0, 1) := by decide +kernel
theorem dX11_canonical_15 : decode cX11_canonical 15 = .ok (.invokevirtual 163, 3) := by decide +kernel
theorem dX11_canonical_18 : decode cX11_canonical 18 = .ok (.aload_n 0, 1) := by decide +kernel
theorem dX11_canonical_19 : decode cX11_canonical 19 = .ok (.invokevirtual 166, 3) := by decide +kernel
theorem dX11_canonical_22 : decode cX11_canonical 22 = .ok (.aload_n 0, 1) := by decide +kernel
theorem dX11_canonical_23 : decode cX11_canonical 23 = .ok (.invokevirtual 169, 3) := by decide +kernel
theorem dX11_canonical_26 : decode cX11_canonical 26 = .ok (.ireturn, 1) := by decide +kernel
theorem dX11_canonicalOf_0 : decode cX11_canonicalOf 0 = .ok (.aload_n 0, 1) := by decide +kernel
theorem dX11_canonicalOf_1 : decode cX11_canonicalOf 1 = .ok (.iconst 0, 1) := by decide +kernel
theorem dX11_canonicalOf_2 : decode cX11_canonicalOf 2 = .ok (.putfield 9, 3) := by decide +kernel
theorem dX11_canonicalOf_5 : decode cX11_canonicalOf 5 = .ok (.aload_n 0, 1) := by decide +kernel
theorem dX11_canonicalOf_6 : decode cX11_canonicalOf 6 = .ok (.iconst 0, 1) := by decide +kernel
theorem dX11_canonicalOf_7 : decode cX11_canonicalOf 7 = .ok (.putfield 20, 3) := by decide +kernel
theorem dX11_canonicalOf_10 : decode cX11_canonicalOf 10 = .ok (.iload_n 1, 1) := by decide +kernel
theorem dX11_canonicalOf_11 : decode cX11_canonicalOf 11 = .ok (.istore_n 3, 1) := by decide +kernel
theorem dX11_canonicalOf_12 : decode cX11_canonicalOf 12 = .ok (.iload_n 3, 1) := by decide +kernel
theorem dX11_canonicalOf_13 : decode cX11_canonicalOf 13 = .ok (.iload_n 2, 1) := by decide +kernel
theorem dX11_canonicalOf_14 : decode cX11_canonicalOf 14 = .ok (.if_icmp .ge 19, 3) := by decide +kernel
theorem dX11_canonicalOf_17 : decode cX11_canonicalOf 17 = .ok (.aload_n 0, 1) := by decide +kernel
theorem dX11_canonicalOf_18 : decode cX11_canonicalOf 18 = .ok (.aload_n 0, 1) := by decide +kernel
theorem dX11_canonicalOf_19 : decode cX11_canonicalOf 19 = .ok (.getfield 172, 3) := by decide +kernel
theorem dX11_canonicalOf_22 : decode cX11_canonicalOf 22 = .ok (.iload_n 3, 1) := by decide +kernel
theorem dX11_canonicalOf_23 : decode cX11_canonicalOf 23 = .ok (.iaload, 1) := by decide +kernel
theorem dX11_canonicalOf_24 : decode cX11_canonicalOf 24 = .ok (.invokevirtual 146, 3) := by decide +kernel
theorem dX11_canonicalOf_27 : decode cX11_canonicalOf 27 = .ok (.iinc 3 1, 3) := by decide +kernel
theorem dX11_canonicalOf_30 : decode cX11_canonicalOf 30 = .ok (.goto (-18), 3) := by decide +kernel
theorem dX11_canonicalOf_33 : decode cX11_canonicalOf 33 = .ok (.iload_n 2, 1) := by decide +kernel
theorem dX11_canonicalOf_34 : decode cX11_canonicalOf 34 = .ok (.istore_n 3, 1) := by decide +kernel
theorem dX11_canonicalOf_35 : decode cX11_canonicalOf 35 = .ok (.iload_n 3, 1) := by decide +kernel
theorem dX11_canonicalOf_36 : decode cX11_canonicalOf 36 = .ok (.aload_n 0, 1) := by decide +kernel
theorem dX11_canonicalOf_37 : decode cX11_canonicalOf 37 = .ok (.getfield 175, 3) := by decide +kernel
theorem dX11_canonicalOf_40 : decode cX11_canonicalOf 40 = .ok (.if_icmp .ge 19, 3) := by decide +kernel
theorem dX11_canonicalOf_43 : decode cX11_canonicalOf 43 = .ok (.aload_n 0, 1) := by decide +kernel
theorem dX11_canonicalOf_44 : decode cX11_canonicalOf 44 = .ok (.aload_n 0, 1) := by decide +kernel
theorem dX11_canonicalOf_45 : decode cX11_canonicalOf 45 = .ok (.getfield 172, 3) := by decide +kernel
theorem dX11_canonicalOf_48 : decode cX11_canonicalOf 48 = .ok (.iload_n 3, 1) := by decide +kernel
theorem dX11_canonicalOf_49 : decode cX11_canonicalOf 49 = .ok (.iaload, 1) := by decide +kernel
theorem dX11_canonicalOf_50 : decode cX11_canonicalOf 50 = .ok (.invokevirtual 152, 3) := by decide +kernel
theorem dX11_canonicalOf_53 : decode cX11_canonicalOf 53 = .ok (.iinc 3 1, 3) := by decide +kernel
theorem dX11_canonicalOf_56 : decode cX11_canonicalOf 56 = .ok (.goto (-21), 3) := by decide +kernel
theorem dX11_canonicalOf_59 : decode cX11_canonicalOf 59 = .ok (.aload_n 0, 1) := by decide +kernel
theorem dX11_canonicalOf_60 : decode cX11_canonicalOf 60 = .ok (.iload_n 1, 1) := by decide +kernel
theorem dX11_canonicalOf_61 : decode cX11_canonicalOf 61 = .ok (.putfield 175, 3) := by decide +kernel
theorem dX11_canonicalOf_64 : decode cX11_canonicalOf 64 = .ok (.aload_n 0, 1) := by decide +kernel
theorem dX11_canonicalOf_65 : decode cX11_canonicalOf 65 = .ok (.invokevirtual 178, 3) := by decide +kernel
theorem dX11_canonicalOf_68 : decode cX11_canonicalOf 68 = .ok (.ireturn, 1) := by decide +kernel
theorem dX11_checked_0 : decode cX11_checked 0 = .ok (.aload_n 0, 1) := by decide +kernel
theorem dX11_checked_1 : decode cX11_checked 1 = .ok (.getfield 432, 3) := by decide +kernel
theorem dX11_checked_4 : decode cX11_checked 4 = .ok (.ifCond .ne 11, 3) := by decide +kernel
theorem dX11_checked_7 : decode cX11_checked 7 = .ok (.aload_n 0, 1) := by decide +kernel
theorem dX11_checked_8 : decode cX11_checked 8 = .ok (.iload_n 1, 1) := by decide +kernel
theorem dX11_checked_9 : decode cX11_checked 9 = .ok (.invokevirtual 297, 3) := by decide +kernel
theorem dX11_checked_12 : decode cX11_checked 12 = .ok (.ifCond .ne 10, 3) := by decide +kernel
theorem dX11_checked_15 : decode cX11_checked 15 = .ok (.aload_n 0, 1) := by decide +kernel
theorem dX11_checked_16 : decode cX11_checked 16 = .ok (.iconst 1, 1) := by decide +kernel
theorem dX11_checked_17 : decode cX11_checked 17 = .ok (.putfield 432, 3) := by decide +kernel
theorem dX11_checked_20 : decode cX11_checked 20 = .ok (.iconst 0, 1) := by decide +kernel
theorem dX11_checked_21 : decode cX11_checked 21 = .ok (.ireturn, 1) := by decide +kernel
theorem dX11_checked_22 : decode cX11_checked 22 = .ok (.iload_n 1, 1) := by decide +kernel
theorem dX11_checked_23 : decode cX11_checked 23 = .ok (.ireturn, 1) := by decide +kernel
theorem dX11_copy_0 : decode cX11_copy 0 = .ok (.iload_n 1, 1) := by decide +kernel
theorem dX11_copy_1 : decode cX11_copy 1 = .ok (.invokestatic 383, 3) := by decide +kernel
theorem dX11_copy_4 : decode cX11_copy 4 = .ok (.ifCond .eq 10, 3) := by decide +kernel
theorem dX11_copy_7 : decode cX11_copy 7 = .ok (.iload_n 3, 1) := by decide +kernel
theorem dX11_copy_8 : decode cX11_copy 8 = .ok (.invokestatic 383, 3) := by decide +kernel
theorem dX11_copy_11 : decode cX11_copy 11 = .ok (.ifCond .ne 9, 3) := by decide +kernel
theorem dX11_copy_14 : decode cX11_copy 14 = .ok (.aload_n 0, 1) := by decide +kernel
theorem dX11_copy_15 : decode cX11_copy 15 = .ok (.iconst 1, 1) := by decide +kernel
theorem dX11_copy_16 : decode cX11_copy 16 = .ok (.invokevirtual 300, 3) := by decide +kernel
theorem dX11_copy_19 : decode cX11_copy 19 = .ok (.ireturn, 1) := by decide +kernel
theorem dX11_copy_20 : decode cX11_copy 20 = .ok (.aload_n 0, 1) := by decide +kernel
theorem dX11_copy_21 : decode cX11_copy 21 = .ok (.getfield 288, 3) := by decide +kernel
theorem dX11_copy_24 : decode cX11_copy 24 = .ok (.iload_n 1, 1) := by decide +kernel
theorem dX11_copy_25 : decode cX11_copy 25 = .ok (.iaload, 1) := by decide +kernel
theorem dX11_copy_26 : decode cX11_copy 26 = .ok (.ifCond .eq 12, 3) := by decide +kernel
theorem dX11_copy_29 : decode cX11_copy 29 = .ok (.aload_n 0, 1) := by decide +kernel
theorem dX11_copy_30 : decode cX11_copy 30 = .ok (.getfield 288, 3) := by decide +kernel
theorem dX11_copy_33 : decode cX11_copy 33 = .ok (.iload_n 3, 1) := by decide +kernel
theorem dX11_copy_34 : decode cX11_copy 34 = .ok (.iaload, 1) := by decide +kernel
theorem dX11_copy_35 : decode cX11_copy 35 = .ok (.ifCond .ne 10, 3) := by decide +kernel
theorem dX11_copy_38 : decode cX11_copy 38 = .ok (.aload_n 0, 1) := by decide +kernel
theorem dX11_copy_39 : decode cX11_copy 39 = .ok (.bipush 6, 2) := by decide +kernel
theorem dX11_copy_41 : decode cX11_copy 41 = .ok (.invokevirtual 300, 3) := by decide +kernel
theorem dX11_copy_44 : decode cX11_copy 44 = .ok (.ireturn, 1) := by decide +kernel
theorem dX11_copy_45 : decode cX11_copy 45 = .ok (.aload_n 0, 1) := by decide +kernel
theorem dX11_copy_46 : decode cX11_copy 46 = .ok (.getfield 288, 3) := by decide +kernel
theorem dX11_copy_49 : decode cX11_copy 49 = .ok (.iload_n 1, 1) := by decide +kernel
theorem dX11_copy_50 : decode cX11_copy 50 = .ok (.iaload, 1) := by decide +kernel
theorem dX11_copy_51 : decode cX11_copy 51 = .ok (.aload_n 0, 1) := by decide +kernel
theorem dX11_copy_52 : decode cX11_copy 52 = .ok (.getfield 288, 3) := by decide +kernel
theorem dX11_copy_55 : decode cX11_copy 55 = .ok (.iload_n 3, 1) := by decide +kernel
theorem dX11_copy_56 : decode cX11_copy 56 = .ok (.iaload, 1) := by decide +kernel
theorem dX11_copy_57 : decode cX11_copy 57 = .ok (.if_icmp .eq 9, 3) := by decide +kernel
theorem dX11_copy_60 : decode cX11_copy 60 = .ok (.aload_n 0, 1) := by decide +kernel
theorem dX11_copy_61 : decode cX11_copy 61 = .ok (.iconst 5, 1) := by decide +kernel
theorem dX11_copy_62 : decode cX11_copy 62 = .ok (.invokevirtual 300, 3) := by decide +kernel
theorem dX11_copy_65 : decode cX11_copy 65 = .ok (.ireturn, 1) := by decide +kernel
theorem dX11_copy_66 : decode cX11_copy 66 = .ok (.iload 5, 2) := by decide +kernel
theorem dX11_copy_68 : decode cX11_copy 68 = .ok (.ifCond .lt 39, 3) := by decide +kernel
theorem dX11_copy_71 : decode cX11_copy 71 = .ok (.iload_n 2, 1) := by decide +kernel
theorem dX11_copy_72 : decode cX11_copy 72 = .ok (.ifCond .lt 35, 3) := by decide +kernel
theorem dX11_copy_75 : decode cX11_copy 75 = .ok (.iload 4, 2) := by decide +kernel
theorem dX11_copy_77 : decode cX11_copy 77 = .ok (.ifCond .lt 30, 3) := by decide +kernel
theorem dX11_copy_80 : decode cX11_copy 80 = .ok (.iload 5, 2) := by decide +kernel
theorem dX11_copy_82 : decode cX11_copy 82 = .ok (.aload_n 0, 1) := by decide +kernel
theorem dX11_copy_83 : decode cX11_copy 83 = .ok (.getfield 291, 3) := by decide +kernel
theorem dX11_copy_86 : decode cX11_copy 86 = .ok (.iload_n 1, 1) := by decide +kernel
theorem dX11_copy_87 : decode cX11_copy 87 = .ok (.iaload, 1) := by decide +kernel
theorem dX11_copy_88 : decode cX11_copy 88 = .ok (.iload_n 2, 1) := by decide +kernel
theorem dX11_copy_89 : decode cX11_copy 89 = .ok (.isub, 1) := by decide +kernel
theorem dX11_copy_90 : decode cX11_copy 90 = .ok (.if_icmp .gt 17, 3) := by decide +kernel
theorem dX11_copy_93 : decode cX11_copy 93 = .ok (.iload 5, 2) := by decide +kernel
theorem dX11_copy_95 : decode cX11_copy 95 = .ok (.aload_n 0, 1) := by decide +kernel
theorem dX11_copy_96 : decode cX11_copy 96 = .ok (.getfield 291, 3) := by decide +kernel
theorem dX11_copy_99 : decode cX11_copy 99 = .ok (.iload_n 3, 1) := by decide +kernel
theorem dX11_copy_100 : decode cX11_copy 100 = .ok (.iaload, 1) := by decide +kernel
theorem dX11_copy_101 : decode cX11_copy 101 = .ok (.iload 4, 2) := by decide +kernel
theorem dX11_copy_103 : decode cX11_copy 103 = .ok (.isub, 1) := by decide +kernel
theorem dX11_copy_104 : decode cX11_copy 104 = .ok (.if_icmp .le 9, 3) := by decide +kernel
theorem dX11_copy_107 : decode cX11_copy 107 = .ok (.aload_n 0, 1) := by decide +kernel
theorem dX11_copy_108 : decode cX11_copy 108 = .ok (.iconst 1, 1) := by decide +kernel
theorem dX11_copy_109 : decode cX11_copy 109 = .ok (.invokevirtual 300, 3) := by decide +kernel
theorem dX11_copy_112 : decode cX11_copy 112 = .ok (.ireturn, 1) := by decide +kernel
theorem dX11_copy_113 : decode cX11_copy 113 = .ok (.iconst 0, 1) := by decide +kernel
theorem dX11_copy_114 : decode cX11_copy 114 = .ok (.istore 6, 2) := by decide +kernel
theorem dX11_copy_116 : decode cX11_copy 116 = .ok (.iload 6, 2) := by decide +kernel
theorem dX11_copy_118 : decode cX11_copy 118 = .ok (.iload 5, 2) := by decide +kernel
theorem dX11_copy_120 : decode cX11_copy 120 = .ok (.if_icmp .ge 58, 3) := by decide +kernel
theorem dX11_copy_123 : decode cX11_copy 123 = .ok (.iload_n 2, 1) := by decide +kernel
theorem dX11_copy_124 : decode cX11_copy 124 = .ok (.iload 4, 2) := by decide +kernel
theorem dX11_copy_126 : decode cX11_copy 126 = .ok (.if_icmp .ge 13, 3) := by decide +kernel
theorem dX11_copy_129 : decode cX11_copy 129 = .ok (.iload 5, 2) := by decide +kernel
theorem dX11_copy_131 : decode cX11_copy 131 = .ok (.iconst 1, 1) := by decide +kernel
theorem dX11_copy_132 : decode cX11_copy 132 = .ok (.isub, 1) := by decide +kernel
theorem dX11_copy_133 : decode cX11_copy 133 = .ok (.iload 6, 2) := by decide +kernel
theorem dX11_copy_135 : decode cX11_copy 135 = .ok (.isub, 1) := by decide +kernel
theorem dX11_copy_136 : decode cX11_copy 136 = .ok (.goto 5, 3) := by decide +kernel
theorem dX11_copy_139 : decode cX11_copy 139 = .ok (.iload 6, 2) := by decide +kernel
theorem dX11_copy_141 : decode cX11_copy 141 = .ok (.istore 7, 2) := by decide +kernel
theorem dX11_copy_143 : decode cX11_copy 143 = .ok (.aload_n 0, 1) := by decide +kernel
theorem dX11_copy_144 : decode cX11_copy 144 = .ok (.getfield 294, 3) := by decide +kernel
theorem dX11_copy_147 : decode cX11_copy 147 = .ok (.bipush 24, 2) := by decide +kernel
theorem dX11_copy_149 : decode cX11_copy 149 = .ok (.iload_n 3, 1) := by decide +kernel
theorem dX11_copy_150 : decode cX11_copy 150 = .ok (.imul, 1) := by decide +kernel
theorem dX11_copy_151 : decode cX11_copy 151 = .ok (.iload 4, 2) := by decide +kernel
theorem dX11_copy_153 : decode cX11_copy 153 = .ok (.iadd, 1) := by decide +kernel
theorem dX11_copy_154 : decode cX11_copy 154 = .ok (.iload 7, 2) := by decide +kernel
theorem dX11_copy_156 : decode cX11_copy 156 = .ok (.iadd, 1) := by decide +kernel
theorem dX11_copy_157 : decode cX11_copy 157 = .ok (.aload_n 0, 1) := by decide +kernel
theorem dX11_copy_158 : decode cX11_copy 158 = .ok (.getfield 294, 3) := by decide +kernel
theorem dX11_copy_161 : decode cX11_copy 161 = .ok (.bipush 24, 2) := by decide +kernel
theorem dX11_copy_163 : decode cX11_copy 163 = .ok (.iload_n 1, 1) := by decide +kernel
theorem dX11_copy_164 : decode cX11_copy 164 = .ok (.imul, 1) := by decide +kernel
theorem dX11_copy_165 : decode cX11_copy 165 = .ok (.iload_n 2, 1) := by decide +kernel
theorem dX11_copy_166 : decode cX11_copy 166 = .ok (.iadd, 1) := by decide +kernel
theorem dX11_copy_167 : decode cX11_copy 167 = .ok (.iload 7, 2) := by decide +kernel
theorem dX11_copy_169 : decode cX11_copy 169 = .ok (.iadd, 1) := by decide +kernel
theorem dX11_copy_170 : decode cX11_copy 170 = .ok (.iaload, 1) := by decide +kernel
theorem dX11_copy_171 : decode cX11_copy 171 = .ok (.iastore, 1) := by decide +kernel
theorem dX11_copy_172 : decode cX11_copy 172 = .ok (.iinc 6 1, 3) := by decide +kernel
theorem dX11_copy_175 : decode cX11_copy 175 = .ok (.goto (-59), 3) := by decide +kernel
theorem dX11_copy_178 : decode cX11_copy 178 = .ok (.iload 5, 2) := by decide +kernel
theorem dX11_copy_180 : decode cX11_copy 180 = .ok (.ireturn, 1) := by decide +kernel
theorem dX11_count_0 : decode cX11_count 0 = .ok (.iload_n 1, 1) := by decide +kernel
theorem dX11_count_1 : decode cX11_count 1 = .ok (.tableswitch 69 0 5 #[39, 44, 49, 54, 59, 64], 39) := by decide +kernel
theorem dX11_count_40 : decode cX11_count 40 = .ok (.aload_n 0, 1) := by decide +kernel
theorem dX11_count_41 : decode cX11_count 41 = .ok (.invokevirtual 481, 3) := by decide +kernel
theorem dX11_count_44 : decode cX11_count 44 = .ok (.ireturn, 1) := by decide +kernel
theorem dX11_count_45 : decode cX11_count 45 = .ok (.aload_n 0, 1) := by decide +kernel
theorem dX11_count_46 : decode cX11_count 46 = .ok (.invokevirtual 478, 3) := by decide +kernel
theorem dX11_count_49 : decode cX11_count 49 = .ok (.ireturn, 1) := by decide +kernel
theorem dX11_count_50 : decode cX11_count 50 = .ok (.aload_n 0, 1) := by decide +kernel
theorem dX11_count_51 : decode cX11_count 51 = .ok (.getfield 411, 3) := by decide +kernel
theorem dX11_count_54 : decode cX11_count 54 = .ok (.ireturn, 1) := by decide +kernel
theorem dX11_count_55 : decode cX11_count 55 = .ok (.aload_n 0, 1) := by decide +kernel
theorem dX11_count_56 : decode cX11_count 56 = .ok (.getfield 303, 3) := by decide +kernel
theorem dX11_count_59 : decode cX11_count 59 = .ok (.ireturn, 1) := by decide +kernel
theorem dX11_count_60 : decode cX11_count 60 = .ok (.aload_n 0, 1) := by decide +kernel
theorem dX11_count_61 : decode cX11_count 61 = .ok (.invokevirtual 484, 3) := by decide +kernel
theorem dX11_count_64 : decode cX11_count 64 = .ok (.ireturn, 1) := by decide +kernel
theorem dX11_count_65 : decode cX11_count 65 = .ok (.aload_n 0, 1) := by decide +kernel
theorem dX11_count_66 : decode cX11_count 66 = .ok (.invokevirtual 487, 3) := by decide +kernel
theorem dX11_count_69 : decode cX11_count 69 = .ok (.ireturn, 1) := by decide +kernel
theorem dX11_count_70 : decode cX11_count 70 = .ok (.aload_n 0, 1) := by decide +kernel
theorem dX11_count_71 : decode cX11_count 71 = .ok (.iconst 1, 1) := by decide +kernel
theorem dX11_count_72 : decode cX11_count 72 = .ok (.invokevirtual 300, 3) := by decide +kernel
theorem dX11_count_75 : decode cX11_count 75 = .ok (.ireturn, 1) := by decide +kernel
theorem dX11_digits_0 : decode cX11_digits 0 = .ok (.iload_n 0, 1) := by decide +kernel
theorem dX11_digits_1 : decode cX11_digits 1 = .ok (.bipush 99, 2) := by decide +kernel
theorem dX11_digits_3 : decode cX11_digits 3 = .ok (.if_icmp .le 7, 3) := by decide +kernel
theorem dX11_digits_6 : decode cX11_digits 6 = .ok (.iconst 3, 1) := by decide +kernel
theorem dX11_digits_7 : decode cX11_digits 7 = .ok (.goto 14, 3) := by decide +kernel
theorem dX11_digits_10 : decode cX11_digits 10 = .ok (.iload_n 0, 1) := by decide +kernel
theorem dX11_digits_11 : decode cX11_digits 11 = .ok (.bipush 9, 2) := by decide +kernel
theorem dX11_digits_13 : decode cX11_digits 13 = .ok (.if_icmp .le 7, 3) := by decide +kernel
theorem dX11_digits_16 : decode cX11_digits 16 = .ok (.iconst 2, 1) := by decide +kernel
theorem dX11_digits_17 : decode cX11_digits 17 = .ok (.goto 4, 3) := by decide +kernel
theorem dX11_digits_20 : decode cX11_digits 20 = .ok (.iconst 1, 1) := by decide +kernel
theorem dX11_digits_21 : decode cX11_digits 21 = .ok (.ireturn, 1) := by decide +kernel
theorem dX11_far_0 : decode cX11_far 0 = .ok (.iload_n 1, 1) := by decide +kernel
theorem dX11_far_1 : decode cX11_far 1 = .ok (.invokestatic 324, 3) := by decide +kernel
theorem dX11_far_4 : decode cX11_far 4 = .ok (.ifCond .ne 9, 3) := by decide +kernel
theorem dX11_far_7 : decode cX11_far 7 = .ok (.aload_n 0, 1) := by decide +kernel
theorem dX11_far_8 : decode cX11_far 8 = .ok (.iconst 1, 1) := by decide +kernel
theorem dX11_far_9 : decode cX11_far 9 = .ok (.invokevirtual 300, 3) := by decide +kernel
theorem dX11_far_12 : decode cX11_far 12 = .ok (.ireturn, 1) := by decide +kernel
theorem dX11_far_13 : decode cX11_far 13 = .ok (.aload_n 0, 1) := by decide +kernel
theorem dX11_far_14 : decode cX11_far 14 = .ok (.invokevirtual 333, 3) := by decide +kernel
theorem dX11_far_17 : decode cX11_far 17 = .ok (.aload_n 0, 1) := by decide +kernel
theorem dX11_far_18 : decode cX11_far 18 = .ok (.aload_n 0, 1) := by decide +kernel
theorem dX11_far_19 : decode cX11_far 19 = .ok (.getfield 264, 3) := by decide +kernel
theorem dX11_far_22 : decode cX11_far 22 = .ok (.iload_n 1, 1) := by decide +kernel
theorem dX11_far_23 : decode cX11_far 23 = .ok (.iaload, 1) := by decide +kernel
theorem dX11_far_24 : decode cX11_far 24 = .ok (.aload_n 0, 1) := by decide +kernel
theorem dX11_far_25 : decode cX11_far 25 = .ok (.bipush 10, 2) := by decide +kernel
theorem dX11_far_27 : decode cX11_far 27 = .ok (.invokevirtual 206, 3) := by decide +kernel
theorem dX11_far_30 : decode cX11_far 30 = .ok (.invokevirtual 330, 3) := by decide +kernel
theorem dX11_far_33 : decode cX11_far 33 = .ok (.ireturn, 1) := by decide +kernel
theorem dX11_faults_0 : decode cX11_faults 0 = .ok (.aload_n 0, 1) := by decide +kernel
theorem dX11_faults_1 : decode cX11_faults 1 = .ok (.aload_n 0, 1) := by decide +kernel
theorem dX11_faults_2 : decode cX11_faults 2 = .ok (.getfield 422, 3) := by decide +kernel
theorem dX11_faults_5 : decode cX11_faults 5 = .ok (.ifCond .ge 7, 3) := by decide +kernel
theorem dX11_faults_8 : decode cX11_faults 8 = .ok (.iload_n 1, 1) := by decide +kernel
theorem dX11_faults_9 : decode cX11_faults 9 = .ok (.goto 7, 3) := by decide +kernel
theorem dX11_faults_12 : decode cX11_faults 12 = .ok (.aload_n 0, 1) := by decide +kernel
theorem dX11_faults_13 : decode cX11_faults 13 = .ok (.getfield 422, 3) := by decide +kernel
theorem dX11_faults_16 : decode cX11_faults 16 = .ok (.putfield 422, 3) := by decide +kernel
theorem dX11_faults_19 : decode cX11_faults 19 = .ok (.return_, 1) := by decide +kernel
theorem dX11_feed_0 : decode cX11_feed 0 = .ok (.iload_n 3, 1) := by decide +kernel
theorem dX11_feed_1 : decode cX11_feed 1 = .ok (.iconst 1, 1) := by decide +kernel
theorem dX11_feed_2 : decode cX11_feed 2 = .ok (.bipush 8, 2) := by decide +kernel
theorem dX11_feed_4 : decode cX11_feed 4 = .ok (.invokestatic 106, 3) := by decide +kernel
theorem dX11_feed_7 : decode cX11_feed 7 = .ok (.ifCond .ne 9, 3) := by decide +kernel
theorem dX11_feed_10 : decode cX11_feed 10 = .ok (.aload_n 0, 1) := by decide +kernel
theorem dX11_feed_11 : decode cX11_feed 11 = .ok (.iconst 1, 1) := by decide +kernel
theorem dX11_feed_12 : decode cX11_feed 12 = .ok (.invokevirtual 300, 3) := by decide +kernel
theorem dX11_feed_15 : decode cX11_feed 15 = .ok (.ireturn, 1) := by decide +kernel
theorem dX11_feed_16 : decode cX11_feed 16 = .ok (.aload_n 0, 1) := by decide +kernel
theorem dX11_feed_17 : decode cX11_feed 17 = .ok (.getfield 411, 3) := by decide +kernel
theorem dX11_feed_20 : decode cX11_feed 20 = .ok (.iload_n 3, 1) := by decide +kernel
theorem dX11_feed_21 : decode cX11_feed 21 = .ok (.iadd, 1) := by decide +kernel
theorem dX11_feed_22 : decode cX11_feed 22 = .ok (.bipush 120, 2) := by decide +kernel
theorem dX11_feed_24 : decode cX11_feed 24 = .ok (.if_icmp .le 9, 3) := by decide +kernel
theorem dX11_feed_27 : decode cX11_feed 27 = .ok (.aload_n 0, 1) := by decide +kernel
theorem dX11_feed_28 : decode cX11_feed 28 = .ok (.iconst 4, 1) := by decide +kernel
theorem dX11_feed_29 : decode cX11_feed 29 = .ok (.invokevirtual 300, 3) := by decide +kernel
theorem dX11_feed_32 : decode cX11_feed 32 = .ok (.ireturn, 1) := by decide +kernel
theorem dX11_feed_33 : decode cX11_feed 33 = .ok (.iconst 0, 1) := by decide +kernel
theorem dX11_feed_34 : decode cX11_feed 34 = .ok (.istore 4, 2) := by decide +kernel
theorem dX11_feed_36 : decode cX11_feed 36 = .ok (.iload 4, 2) := by decide +kernel
theorem dX11_feed_38 : decode cX11_feed 38 = .ok (.iload_n 3, 1) := by decide +kernel
theorem dX11_feed_39 : decode cX11_feed 39 = .ok (.if_icmp .ge 40, 3) := by decide +kernel
theorem dX11_feed_42 : decode cX11_feed 42 = .ok (.aload_n 0, 1) := by decide +kernel
theorem dX11_feed_43 : decode cX11_feed 43 = .ok (.getfield 285, 3) := by decide +kernel
theorem dX11_feed_46 : decode cX11_feed 46 = .ok (.aload_n 0, 1) := by decide +kernel
theorem dX11_feed_47 : decode cX11_feed 47 = .ok (.getfield 411, 3) := by decide +kernel
theorem dX11_feed_50 : decode cX11_feed 50 = .ok (.lload_n 1, 1) := by decide +kernel
theorem dX11_feed_51 : decode cX11_feed 51 = .ok (.bipush 8, 2) := by decide +kernel
theorem dX11_feed_53 : decode cX11_feed 53 = .ok (.iload 4, 2) := by decide +kernel
theorem dX11_feed_55 : decode cX11_feed 55 = .ok (.imul, 1) := by decide +kernel
theorem dX11_feed_56 : decode cX11_feed 56 = .ok (.lshr, 1) := by decide +kernel
theorem dX11_feed_57 : decode cX11_feed 57 = .ok (.ldc2_w 414, 3) := by decide +kernel
theorem dX11_feed_60 : decode cX11_feed 60 = .ok (.land, 1) := by decide +kernel
theorem dX11_feed_61 : decode cX11_feed 61 = .ok (.l2i, 1) := by decide +kernel
theorem dX11_feed_62 : decode cX11_feed 62 = .ok (.iastore, 1) := by decide +kernel
theorem dX11_feed_63 : decode cX11_feed 63 = .ok (.aload_n 0, 1) := by decide +kernel
theorem dX11_feed_64 : decode cX11_feed 64 = .ok (.dup, 1) := by decide +kernel
theorem dX11_feed_65 : decode cX11_feed 65 = .ok (.getfield 411, 3) := by decide +kernel
theorem dX11_feed_68 : decode cX11_feed 68 = .ok (.iconst 1, 1) := by decide +kernel
theorem dX11_feed_69 : decode cX11_feed 69 = .ok (.iadd, 1) := by decide +kernel
theorem dX11_feed_70 : decode cX11_feed 70 = .ok (.putfield 411, 3) := by decide +kernel
theorem dX11_feed_73 : decode cX11_feed 73 = .ok (.iinc 4 1, 3) := by decide +kernel
theorem dX11_feed_76 : decode cX11_feed 76 = .ok (.goto (-40), 3) := by decide +kernel
theorem dX11_feed_79 : decode cX11_feed 79 = .ok (.aload_n 0, 1) := by decide +kernel
theorem dX11_feed_80 : decode cX11_feed 80 = .ok (.getfield 411, 3) := by decide +kernel
theorem dX11_feed_83 : decode cX11_feed 83 = .ok (.ireturn, 1) := by decide +kernel
theorem dX11_fight_0 : decode cX11_fight 0 = .ok (.iload_n 1, 1) := by decide +kernel
theorem dX11_fight_1 : decode cX11_fight 1 = .ok (.invokestatic 324, 3) := by decide +kernel
theorem dX11_fight_4 : decode cX11_fight 4 = .ok (.ifCond .eq 27, 3) := by decide +kernel
theorem dX11_fight_7 : decode cX11_fight 7 = .ok (.iload_n 2, 1) := by decide +kernel
theorem dX11_fight_8 : decode cX11_fight 8 = .ok (.invokestatic 324, 3) := by decide +kernel
theorem dX11_fight_11 : decode cX11_fight 11 = .ok (.ifCond .eq 20, 3) := by decide +kernel
theorem dX11_fight_14 : decode cX11_fight 14 = .ok (.iload_n 3, 1) := by decide +kernel
theorem dX11_fight_15 : decode cX11_fight 15 = .ok (.invokestatic 352, 3) := by decide +kernel
theorem dX11_fight_18 : decode cX11_fight 18 = .ok (.ifCond .eq 13, 3) := by decide +kernel
theorem dX11_fight_21 : decode cX11_fight 21 = .ok (.iload 4, 2) := by decide +kernel
theorem dX11_fight_23 : decode cX11_fight 23 = .ok (.iconst 0, 1) := by decide +kernel
theorem dX11_fight_24 : decode cX11_fight 24 = .ok (.iconst 1, 1) := by decide +kernel
theorem dX11_fight_25 : decode cX11_fight 25 = .ok (.invokestatic 106, 3) := by decide +kernel
theorem dX11_fight_28 : decode cX11_fight 28 = .ok (.ifCond .ne 9, 3) := by decide +kernel
theorem dX11_fight_31 : decode cX11_fight 31 = .ok (.aload_n 0, 1) := by decide +kernel
theorem dX11_fight_32 : decode cX11_fight 32 = .ok (.iconst 1, 1) := by decide +kernel
theorem dX11_fight_33 : decode cX11_fight 33 = .ok (.invokevirtual 300, 3) := by decide +kernel
theorem dX11_fight_36 : decode cX11_fight 36 = .ok (.ireturn, 1) := by decide +kernel
theorem dX11_fight_37 : decode cX11_fight 37 = .ok (.aload_n 0, 1) := by decide +kernel
theorem dX11_fight_38 : decode cX11_fight 38 = .ok (.invokevirtual 333, 3) := by decide +kernel
theorem dX11_fight_41 : decode cX11_fight 41 = .ok (.aload_n 0, 1) := by decide +kernel
theorem dX11_fight_42 : decode cX11_fight 42 = .ok (.getfield 264, 3) := by decide +kernel
theorem dX11_fight_45 : decode cX11_fight 45 = .ok (.iload_n 1, 1) := by decide +kernel
theorem dX11_fight_46 : decode cX11_fight 46 = .ok (.iaload, 1) := by decide +kernel
theorem dX11_fight_47 : decode cX11_fight 47 = .ok (.istore 5, 2) := by decide +kernel
theorem dX11_fight_49 : decode cX11_fight 49 = .ok (.aload_n 0, 1) := by decide +kernel
theorem dX11_fight_50 : decode cX11_fight 50 = .ok (.getfield 264, 3) := by decide +kernel
theorem dX11_fight_53 : decode cX11_fight 53 = .ok (.iload_n 2, 1) := by decide +kernel
theorem dX11_fight_54 : decode cX11_fight 54 = .ok (.iaload, 1) := by decide +kernel
theorem dX11_fight_55 : decode cX11_fight 55 = .ok (.istore 6, 2) := by decide +kernel
theorem dX11_fight_57 : decode cX11_fight 57 = .ok (.iload_n 3, 1) := by decide +kernel
theorem dX11_fight_58 : decode cX11_fight 58 = .ok (.istore 7, 2) := by decide +kernel
theorem dX11_fight_60 : decode cX11_fight 60 = .ok (.iconst 0, 1) := by decide +kernel
theorem dX11_fight_61 : decode cX11_fight 61 = .ok (.istore 8, 2) := by decide +kernel
theorem dX11_fight_63 : decode cX11_fight 63 = .ok (.aload_n 0, 1) := by decide +kernel
theorem dX11_fight_64 : decode cX11_fight 64 = .ok (.iload 5, 2) := by decide +kernel
theorem dX11_fight_66 : decode cX11_fight 66 = .ok (.iload 7, 2) := by decide +kernel
theorem dX11_fight_68 : decode cX11_fight 68 = .ok (.invokevirtual 327, 3) := by decide +kernel
theorem dX11_fight_71 : decode cX11_fight 71 = .ok (.aload_n 0, 1) := by decide +kernel
theorem dX11_fight_72 : decode cX11_fight 72 = .ok (.iload 6, 2) := by decide +kernel
theorem dX11_fight_74 : decode cX11_fight 74 = .ok (.iload 7, 2) := by decide +kernel
theorem dX11_fight_76 : decode cX11_fight 76 = .ok (.invokevirtual 327, 3) := by decide +kernel
theorem dX11_fight_79 : decode cX11_fight 79 = .ok (.iadd, 1) := by decide +kernel
theorem dX11_fight_80 : decode cX11_fight 80 = .ok (.ifCond .le 87, 3) := by decide +kernel
theorem dX11_fight_83 : decode cX11_fight 83 = .ok (.aload_n 0, 1) := by decide +kernel
theorem dX11_fight_84 : decode cX11_fight 84 = .ok (.iload 5, 2) := by decide +kernel
theorem dX11_fight_86 : decode cX11_fight 86 = .ok (.iload 6, 2) := by decide +kernel
theorem dX11_fight_88 : decode cX11_fight 88 = .ok (.iload 7, 2) := by decide +kernel
theorem dX11_fight_90 : decode cX11_fight 90 = .ok (.invokevirtual 380, 3) := by decide +kernel
theorem dX11_fight_93 : decode cX11_fight 93 = .ok (.istore 9, 2) := by decide +kernel
theorem dX11_fight_95 : decode cX11_fight 95 = .ok (.iload 9, 2) := by decide +kernel
theorem dX11_fight_97 : decode cX11_fight 97 = .ok (.ifCond .ge 7, 3) := by decide +kernel
theorem dX11_fight_100 : decode cX11_fight 100 = .ok (.iconst 0, 1) := by decide +kernel
theorem dX11_fight_101 : decode cX11_fight 101 = .ok (.goto 5, 3) := by decide +kernel
theorem dX11_fight_104 : decode cX11_fight 104 = .ok (.iload 9, 2) := by decide +kernel
theorem dX11_fight_106 : decode cX11_fight 106 = .ok (.istore 9, 2) := by decide +kernel
theorem dX11_fight_108 : decode cX11_fight 108 = .ok (.aload_n 0, 1) := by decide +kernel
theorem dX11_fight_109 : decode cX11_fight 109 = .ok (.iload 5, 2) := by decide +kernel
theorem dX11_fight_111 : decode cX11_fight 111 = .ok (.iload 7, 2) := by decide +kernel
theorem dX11_fight_113 : decode cX11_fight 113 = .ok (.invokevirtual 327, 3) := by decide +kernel
theorem dX11_fight_116 : decode cX11_fight 116 = .ok (.istore 10, 2) := by decide +kernel
theorem dX11_fight_118 : decode cX11_fight 118 = .ok (.iload 9, 2) := by decide +kernel
theorem dX11_fight_120 : decode cX11_fight 120 = .ok (.iload 10, 2) := by decide +kernel
theorem dX11_fight_122 : decode cX11_fight 122 = .ok (.if_icmp .ge 18, 3) := by decide +kernel
theorem dX11_fight_125 : decode cX11_fight 125 = .ok (.aload_n 0, 1) := by decide +kernel
theorem dX11_fight_126 : decode cX11_fight 126 = .ok (.iload 5, 2) := by decide +kernel
theorem dX11_fight_128 : decode cX11_fight 128 = .ok (.iload 7, 2) := by decide +kernel
theorem dX11_fight_130 : decode cX11_fight 130 = .ok (.iload 9, 2) := by decide +kernel
theorem dX11_fight_132 : decode cX11_fight 132 = .ok (.invokevirtual 355, 3) := by decide +kernel
theorem dX11_fight_135 : decode cX11_fight 135 = .ok (.istore 5, 2) := by decide +kernel
theorem dX11_fight_137 : decode cX11_fight 137 = .ok (.goto 18, 3) := by decide +kernel
theorem dX11_fight_140 : decode cX11_fight 140 = .ok (.aload_n 0, 1) := by decide +kernel
theorem dX11_fight_141 : decode cX11_fight 141 = .ok (.iload 6, 2) := by decide +kernel
theorem dX11_fight_143 : decode cX11_fight 143 = .ok (.iload 7, 2) := by decide +kernel
theorem dX11_fight_145 : decode cX11_fight 145 = .ok (.iload 9, 2) := by decide +kernel
theorem dX11_fight_147 : decode cX11_fight 147 = .ok (.iload 10, 2) := by decide +kernel
theorem dX11_fight_149 : decode cX11_fight 149 = .ok (.isub, 1) := by decide +kernel
theorem dX11_fight_150 : decode cX11_fight 150 = .ok (.invokevirtual 355, 3) := by decide +kernel
theorem dX11_fight_153 : decode cX11_fight 153 = .ok (.istore 6, 2) := by decide +kernel
theorem dX11_fight_155 : decode cX11_fight 155 = .ok (.iconst 1, 1) := by decide +kernel
theorem dX11_fight_156 : decode cX11_fight 156 = .ok (.iload 7, 2) := by decide +kernel
theorem dX11_fight_158 : decode cX11_fight 158 = .ok (.isub, 1) := by decide +kernel
theorem dX11_fight_159 : decode cX11_fight 159 = .ok (.istore 7, 2) := by decide +kernel
theorem dX11_fight_161 : decode cX11_fight 161 = .ok (.iinc 8 1, 3) := by decide +kernel
theorem dX11_fight_164 : decode cX11_fight 164 = .ok (.goto (-101), 3) := by decide +kernel
theorem dX11_fight_167 : decode cX11_fight 167 = .ok (.iload 4, 2) := by decide +kernel
theorem dX11_fight_169 : decode cX11_fight 169 = .ok (.ifCond .ne 8, 3) := by decide +kernel
theorem dX11_fight_172 : decode cX11_fight 172 = .ok (.iload 7, 2) := by decide +kernel
theorem dX11_fight_174 : decode cX11_fight 174 = .ok (.goto 5, 3) := by decide +kernel
theorem dX11_fight_177 : decode cX11_fight 177 = .ok (.iload 8, 2) := by decide +kernel
theorem dX11_fight_179 : decode cX11_fight 179 = .ok (.ireturn, 1) := by decide +kernel
theorem dX11_fits_0 : decode cX11_fits 0 = .ok (.aload_n 0, 1) := by decide +kernel
theorem dX11_fits_1 : decode cX11_fits 1 = .ok (.getfield 97, 3) := by decide +kernel
theorem dX11_fits_4 : decode cX11_fits 4 = .ok (.iload_n 1, 1) := by decide +kernel
theorem dX11_fits_5 : decode cX11_fits 5 = .ok (.iaload, 1) := by decide +kernel
theorem dX11_fits_6 : decode cX11_fits 6 = .ok (.bipush 100, 2) := by decide +kernel
theorem dX11_fits_8 : decode cX11_fits 8 = .ok (.if_icmp .gt 17, 3) := by decide +kernel
theorem dX11_fits_11 : decode cX11_fits 11 = .ok (.aload_n 0, 1) := by decide +kernel
theorem dX11_fits_12 : decode cX11_fits 12 = .ok (.iload_n 1, 1) := by decide +kernel
theorem dX11_fits_13 : decode cX11_fits 13 = .ok (.invokevirtual 218, 3) := by decide +kernel
theorem dX11_fits_16 : decode cX11_fits 16 = .ok (.bipush 10, 2) := by decide +kernel
theorem dX11_fits_18 : decode cX11_fits 18 = .ok (.if_icmp .gt 7, 3) := by decide +kernel
theorem dX11_fits_21 : decode cX11_fits 21 = .ok (.iconst 1, 1) := by decide +kernel
theorem dX11_fits_22 : decode cX11_fits 22 = .ok (.goto 4, 3) := by decide +kernel
theorem dX11_fits_25 : decode cX11_fits 25 = .ok (.iconst 0, 1) := by decide +kernel
theorem dX11_fits_26 : decode cX11_fits 26 = .ok (.ireturn, 1) := by decide +kernel
theorem dX11_flower_0 : decode cX11_flower 0 = .ok (.iload_n 1, 1) := by decide +kernel
theorem dX11_flower_1 : decode cX11_flower 1 = .ok (.invokestatic 324, 3) := by decide +kernel
theorem dX11_flower_4 : decode cX11_flower 4 = .ok (.ifCond .eq 31, 3) := by decide +kernel
theorem dX11_flower_7 : decode cX11_flower 7 = .ok (.iload_n 2, 1) := by decide +kernel
theorem dX11_flower_8 : decode cX11_flower 8 = .ok (.iconst 1, 1) := by decide +kernel
theorem dX11_flower_9 : decode cX11_flower 9 = .ok (.iconst 4, 1) := by decide +kernel
theorem dX11_flower_10 : decode cX11_flower 10 = .ok (.invokestatic 106, 3) := by decide +kernel
theorem dX11_flower_13 : decode cX11_flower 13 = .ok (.ifCond .eq 22, 3) := by decide +kernel
theorem dX11_flower_16 : decode cX11_flower 16 = .ok (.iload_n 3, 1) := by decide +kernel
theorem dX11_flower_17 : decode cX11_flower 17 = .ok (.iconst 0, 1) := by decide +kernel
theorem dX11_flower_18 : decode cX11_flower 18 = .ok (.iconst 3, 1) := by decide +kernel
theorem dX11_flower_19 : decode cX11_flower 19 = .ok (.invokestatic 106, 3) := by decide +kernel
theorem dX11_flower_22 : decode cX11_flower 22 = .ok (.ifCond .eq 13, 3) := by decide +kernel
theorem dX11_flower_25 : decode cX11_flower 25 = .ok (.iload 4, 2) := by decide +kernel
theorem dX11_flower_27 : decode cX11_flower 27 = .ok (.iconst 0, 1) := by decide +kernel
theorem dX11_flower_28 : decode cX11_flower 28 = .ok (.iconst 3, 1) := by decide +kernel
theorem dX11_flower_29 : decode cX11_flower 29 = .ok (.invokestatic 106, 3) := by decide +kernel
theorem dX11_flower_32 : decode cX11_flower 32 = .ok (.ifCond .ne 9, 3) := by decide +kernel
theorem dX11_flower_35 : decode cX11_flower 35 = .ok (.aload_n 0, 1) := by decide +kernel
theorem dX11_flower_36 : decode cX11_flower 36 = .ok (.iconst 1, 1) := by decide +kernel
theorem dX11_flower_37 : decode cX11_flower 37 = .ok (.invokevirtual 300, 3) := by decide +kernel
theorem dX11_flower_40 : decode cX11_flower 40 = .ok (.ireturn, 1) := by decide +kernel
theorem dX11_flower_41 : decode cX11_flower 41 = .ok (.aload_n 0, 1) := by decide +kernel
theorem dX11_flower_42 : decode cX11_flower 42 = .ok (.invokevirtual 333, 3) := by decide +kernel
theorem dX11_flower_45 : decode cX11_flower 45 = .ok (.aload_n 0, 1) := by decide +kernel
theorem dX11_flower_46 : decode cX11_flower 46 = .ok (.iload_n 1, 1) := by decide +kernel
theorem dX11_flower_47 : decode cX11_flower 47 = .ok (.aload_n 0, 1) := by decide +kernel
theorem dX11_flower_48 : decode cX11_flower 48 = .ok (.iload_n 2, 1) := by decide +kernel
theorem dX11_flower_49 : decode cX11_flower 49 = .ok (.iload_n 3, 1) := by decide +kernel
theorem dX11_flower_50 : decode cX11_flower 50 = .ok (.iload 4, 2) := by decide +kernel
theorem dX11_flower_52 : decode cX11_flower 52 = .ok (.invokevirtual 345, 3) := by decide +kernel
theorem dX11_flower_55 : decode cX11_flower 55 = .ok (.invokevirtual 339, 3) := by decide +kernel
theorem dX11_flower_58 : decode cX11_flower 58 = .ok (.ireturn, 1) := by decide +kernel
theorem dX11_flowerOf_0 : decode cX11_flowerOf 0 = .ok (.aload_n 0, 1) := by decide +kernel
theorem dX11_flowerOf_1 : decode cX11_flowerOf 1 = .ok (.getfield 175, 3) := by decide +kernel
theorem dX11_flowerOf_4 : decode cX11_flowerOf 4 = .ok (.istore 4, 2) := by decide +kernel
theorem dX11_flowerOf_6 : decode cX11_flowerOf 6 = .ok (.iconst 0, 1) := by decide +kernel
theorem dX11_flowerOf_7 : decode cX11_flowerOf 7 = .ok (.istore 5, 2) := by decide +kernel
theorem dX11_flowerOf_9 : decode cX11_flowerOf 9 = .ok (.iload 5, 2) := by decide +kernel
theorem dX11_flowerOf_11 : decode cX11_flowerOf 11 = .ok (.iload_n 1, 1) := by decide +kernel
theorem dX11_flowerOf_12 : decode cX11_flowerOf 12 = .ok (.if_icmp .ge 19, 3) := by decide +kernel
theorem dX11_flowerOf_15 : decode cX11_flowerOf 15 = .ok (.aload_n 0, 1) := by decide +kernel
theorem dX11_flowerOf_16 : decode cX11_flowerOf 16 = .ok (.aload_n 0, 1) := by decide +kernel
theorem dX11_flowerOf_17 : decode cX11_flowerOf 17 = .ok (.iload 5, 2) := by decide +kernel
theorem dX11_flowerOf_19 : decode cX11_flowerOf 19 = .ok (.invokevirtual 206, 3) := by decide +kernel
theorem dX11_flowerOf_22 : decode cX11_flowerOf 22 = .ok (.invokevirtual 194, 3) := by decide +kernel
theorem dX11_flowerOf_25 : decode cX11_flowerOf 25 = .ok (.iinc 5 1, 3) := by decide +kernel
theorem dX11_flowerOf_28 : decode cX11_flowerOf 28 = .ok (.goto (-19), 3) := by decide +kernel
theorem dX11_flowerOf_31 : decode cX11_flowerOf 31 = .ok (.iload_n 2, 1) := by decide +kernel
theorem dX11_flowerOf_32 : decode cX11_flowerOf 32 = .ok (.ifCond .le 16, 3) := by decide +kernel
theorem dX11_flowerOf_35 : decode cX11_flowerOf 35 = .ok (.aload_n 0, 1) := by decide +kernel
theorem dX11_flowerOf_36 : decode cX11_flowerOf 36 = .ok (.aload_n 0, 1) := by decide +kernel
theorem dX11_flowerOf_37 : decode cX11_flowerOf 37 = .ok (.iload_n 1, 1) := by decide +kernel
theorem dX11_flowerOf_38 : decode cX11_flowerOf 38 = .ok (.iload_n 2, 1) := by decide +kernel
theorem dX11_flowerOf_39 : decode cX11_flowerOf 39 = .ok (.iconst 1, 1) := by decide +kernel
theorem dX11_flowerOf_40 : decode cX11_flowerOf 40 = .ok (.isub, 1) := by decide +kernel
theorem dX11_flowerOf_41 : decode cX11_flowerOf 41 = .ok (.iload_n 3, 1) := by decide +kernel
theorem dX11_flowerOf_42 : decode cX11_flowerOf 42 = .ok (.invokevirtual 345, 3) := by decide +kernel
theorem dX11_flowerOf_45 : decode cX11_flowerOf 45 = .ok (.invokevirtual 194, 3) := by decide +kernel
theorem dX11_flowerOf_48 : decode cX11_flowerOf 48 = .ok (.aload_n 0, 1) := by decide +kernel
theorem dX11_flowerOf_49 : decode cX11_flowerOf 49 = .ok (.getfield 175, 3) := by decide +kernel
theorem dX11_flowerOf_52 : decode cX11_flowerOf 52 = .ok (.istore 5, 2) := by decide +kernel
theorem dX11_flowerOf_54 : decode cX11_flowerOf 54 = .ok (.iconst 0, 1) := by decide +kernel
theorem dX11_flowerOf_55 : decode cX11_flowerOf 55 = .ok (.istore 6, 2) := by decide +kernel
theorem dX11_flowerOf_57 : decode cX11_flowerOf 57 = .ok (.iload 6, 2) := by decide +kernel
theorem dX11_flowerOf_59 : decode cX11_flowerOf 59 = .ok (.iload_n 1, 1) := by decide +kernel
theorem dX11_flowerOf_60 : decode cX11_flowerOf 60 = .ok (.if_icmp .ge 19, 3) := by decide +kernel
theorem dX11_flowerOf_63 : decode cX11_flowerOf 63 = .ok (.aload_n 0, 1) := by decide +kernel
theorem dX11_flowerOf_64 : decode cX11_flowerOf 64 = .ok (.aload_n 0, 1) := by decide +kernel
theorem dX11_flowerOf_65 : decode cX11_flowerOf 65 = .ok (.iload 6, 2) := by decide +kernel
theorem dX11_flowerOf_67 : decode cX11_flowerOf 67 = .ok (.invokevirtual 206, 3) := by decide +kernel
theorem dX11_flowerOf_70 : decode cX11_flowerOf 70 = .ok (.invokevirtual 194, 3) := by decide +kernel
theorem dX11_flowerOf_73 : decode cX11_flowerOf 73 = .ok (.iinc 6 1, 3) := by decide +kernel
theorem dX11_flowerOf_76 : decode cX11_flowerOf 76 = .ok (.goto (-19), 3) := by decide +kernel
theorem dX11_flowerOf_79 : decode cX11_flowerOf 79 = .ok (.iload_n 3, 1) := by decide +kernel
theorem dX11_flowerOf_80 : decode cX11_flowerOf 80 = .ok (.ifCond .le 16, 3) := by decide +kernel
theorem dX11_flowerOf_83 : decode cX11_flowerOf 83 = .ok (.aload_n 0, 1) := by decide +kernel
theorem dX11_flowerOf_84 : decode cX11_flowerOf 84 = .ok (.aload_n 0, 1) := by decide +kernel
theorem dX11_flowerOf_85 : decode cX11_flowerOf 85 = .ok (.iload_n 1, 1) := by decide +kernel
theorem dX11_flowerOf_86 : decode cX11_flowerOf 86 = .ok (.iload_n 2, 1) := by decide +kernel
theorem dX11_flowerOf_87 : decode cX11_flowerOf 87 = .ok (.iload_n 3, 1) := by decide +kernel
theorem dX11_flowerOf_88 : decode cX11_flowerOf 88 = .ok (.iconst 1, 1) := by decide +kernel
theorem dX11_flowerOf_89 : decode cX11_flowerOf 89 = .ok (.isub, 1) := by decide +kernel
theorem dX11_flowerOf_90 : decode cX11_flowerOf 90 = .ok (.invokevirtual 345, 3) := by decide +kernel
theorem dX11_flowerOf_93 : decode cX11_flowerOf 93 = .ok (.invokevirtual 194, 3) := by decide +kernel
theorem dX11_flowerOf_96 : decode cX11_flowerOf 96 = .ok (.aload_n 0, 1) := by decide +kernel
theorem dX11_flowerOf_97 : decode cX11_flowerOf 97 = .ok (.iload 4, 2) := by decide +kernel
theorem dX11_flowerOf_99 : decode cX11_flowerOf 99 = .ok (.iload 5, 2) := by decide +kernel
theorem dX11_flowerOf_101 : decode cX11_flowerOf 101 = .ok (.invokevirtual 197, 3) := by decide +kernel
theorem dX11_flowerOf_104 : decode cX11_flowerOf 104 = .ok (.ireturn, 1) := by decide +kernel
theorem dX11_follow_0 : decode cX11_follow 0 = .ok (.aload_n 0, 1) := by decide +kernel
theorem dX11_follow_1 : decode cX11_follow 1 = .ok (.getfield 209, 3) := by decide +kernel
theorem dX11_follow_4 : decode cX11_follow 4 = .ok (.iload_n 1, 1) := by decide +kernel
theorem dX11_follow_5 : decode cX11_follow 5 = .ok (.iaload, 1) := by decide +kernel
theorem dX11_follow_6 : decode cX11_follow 6 = .ok (.aload_n 0, 1) := by decide +kernel
theorem dX11_follow_7 : decode cX11_follow 7 = .ok (.getfield 212, 3) := by decide +kernel
theorem dX11_follow_10 : decode cX11_follow 10 = .ok (.if_icmp .ne 5, 3) := by decide +kernel
theorem dX11_follow_13 : decode cX11_follow 13 = .ok (.iconst 0, 1) := by decide +kernel
theorem dX11_follow_14 : decode cX11_follow 14 = .ok (.ireturn, 1) := by decide +kernel
theorem dX11_follow_15 : decode cX11_follow 15 = .ok (.aload_n 0, 1) := by decide +kernel
theorem dX11_follow_16 : decode cX11_follow 16 = .ok (.getfield 209, 3) := by decide +kernel
theorem dX11_follow_19 : decode cX11_follow 19 = .ok (.iload_n 1, 1) := by decide +kernel
theorem dX11_follow_20 : decode cX11_follow 20 = .ok (.aload_n 0, 1) := by decide +kernel
theorem dX11_follow_21 : decode cX11_follow 21 = .ok (.getfield 212, 3) := by decide +kernel
theorem dX11_follow_24 : decode cX11_follow 24 = .ok (.iastore, 1) := by decide +kernel
theorem dX11_follow_25 : decode cX11_follow 25 = .ok (.iconst 1, 1) := by decide +kernel
theorem dX11_follow_26 : decode cX11_follow 26 = .ok (.istore_n 2, 1) := by decide +kernel
theorem dX11_follow_27 : decode cX11_follow 27 = .ok (.aload_n 0, 1) := by decide +kernel
theorem dX11_follow_28 : decode cX11_follow 28 = .ok (.getfield 29, 3) := by decide +kernel
theorem dX11_follow_31 : decode cX11_follow 31 = .ok (.iload_n 1, 1) := by decide +kernel
theorem dX11_follow_32 : decode cX11_follow 32 = .ok (.iaload, 1) := by decide +kernel
theorem dX11_follow_33 : decode cX11_follow 33 = .ok (.istore_n 3, 1) := by decide +kernel
theorem dX11_follow_34 : decode cX11_follow 34 = .ok (.iload_n 3, 1) := by decide +kernel
theorem dX11_follow_35 : decode cX11_follow 35 = .ok (.aload_n 0, 1) := by decide +kernel
theorem dX11_follow_36 : decode cX11_follow 36 = .ok (.getfield 32, 3) := by decide +kernel
theorem dX11_follow_39 : decode cX11_follow 39 = .ok (.iload_n 1, 1) := by decide +kernel
theorem dX11_follow_40 : decode cX11_follow 40 = .ok (.iaload, 1) := by decide +kernel
theorem dX11_follow_41 : decode cX11_follow 41 = .ok (.if_icmp .ge 22, 3) := by decide +kernel
theorem dX11_follow_44 : decode cX11_follow 44 = .ok (.iload_n 2, 1) := by decide +kernel
theorem dX11_follow_45 : decode cX11_follow 45 = .ok (.aload_n 0, 1) := by decide +kernel
theorem dX11_follow_46 : decode cX11_follow 46 = .ok (.aload_n 0, 1) := by decide +kernel
theorem dX11_follow_47 : decode cX11_follow 47 = .ok (.getfield 35, 3) := by decide +kernel
theorem dX11_follow_50 : decode cX11_follow 50 = .ok (.iload_n 3, 1) := by decide +kernel
theorem dX11_follow_51 : decode cX11_follow 51 = .ok (.iaload, 1) := by decide +kernel
theorem dX11_follow_52 : decode cX11_follow 52 = .ok (.invokevirtual 215, 3) := by decide +kernel
theorem dX11_follow_55 : decode cX11_follow 55 = .ok (.iadd, 1) := by decide +kernel
theorem dX11_follow_56 : decode cX11_follow 56 = .ok (.istore_n 2, 1) := by decide +kernel
theorem dX11_follow_57 : decode cX11_follow 57 = .ok (.iinc 3 1, 3) := by decide +kernel
theorem dX11_follow_60 : decode cX11_follow 60 = .ok (.goto (-26), 3) := by decide +kernel
theorem dX11_follow_63 : decode cX11_follow 63 = .ok (.iload_n 2, 1) := by decide +kernel
theorem dX11_follow_64 : decode cX11_follow 64 = .ok (.ireturn, 1) := by decide +kernel
theorem dX11_forgets_0 : decode cX11_forgets 0 = .ok (.iconst 0, 1) := by decide +kernel
theorem dX11_forgets_1 : decode cX11_forgets 1 = .ok (.istore_n 1, 1) := by decide +kernel
theorem dX11_forgets_2 : decode cX11_forgets 2 = .ok (.iload_n 1, 1) := by decide +kernel
theorem dX11_forgets_3 : decode cX11_forgets 3 = .ok (.ldc_w 262, 3) := by decide +kernel
theorem dX11_forgets_6 : decode cX11_forgets 6 = .ok (.if_icmp .ge 16, 3) := by decide +kernel
theorem dX11_forgets_9 : decode cX11_forgets 9 = .ok (.aload_n 0, 1) := by decide +kernel
theorem dX11_forgets_10 : decode cX11_forgets 10 = .ok (.getfield 119, 3) := by decide +kernel
theorem dX11_forgets_13 : decode cX11_forgets 13 = .ok (.iload_n 1, 1) := by decide +kernel
theorem dX11_forgets_14 : decode cX11_forgets 14 = .ok (.iconst 0, 1) := by decide +kernel
theorem dX11_forgets_15 : decode cX11_forgets 15 = .ok (.iastore, 1) := by decide +kernel
theorem dX11_forgets_16 : decode cX11_forgets 16 = .ok (.iinc 1 1, 3) := by decide +kernel
theorem dX11_forgets_19 : decode cX11_forgets 19 = .ok (.goto (-17), 3) := by decide +kernel
theorem dX11_forgets_22 : decode cX11_forgets 22 = .ok (.iconst 0, 1) := by decide +kernel
theorem dX11_forgets_23 : decode cX11_forgets 23 = .ok (.istore_n 1, 1) := by decide +kernel
theorem dX11_forgets_24 : decode cX11_forgets 24 = .ok (.iload_n 1, 1) := by decide +kernel
theorem dX11_forgets_25 : decode cX11_forgets 25 = .ok (.ldc_w 263, 3) := by decide +kernel
theorem dX11_forgets_28 : decode cX11_forgets 28 = .ok (.if_icmp .ge 16, 3) := by decide +kernel
theorem dX11_forgets_31 : decode cX11_forgets 31 = .ok (.aload_n 0, 1) := by decide +kernel
theorem dX11_forgets_32 : decode cX11_forgets 32 = .ok (.getfield 181, 3) := by decide +kernel
theorem dX11_forgets_35 : decode cX11_forgets 35 = .ok (.iload_n 1, 1) := by decide +kernel
theorem dX11_forgets_36 : decode cX11_forgets 36 = .ok (.iconst 0, 1) := by decide +kernel
theorem dX11_forgets_37 : decode cX11_forgets 37 = .ok (.iastore, 1) := by decide +kernel
theorem dX11_forgets_38 : decode cX11_forgets 38 = .ok (.iinc 1 1, 3) := by decide +kernel
theorem dX11_forgets_41 : decode cX11_forgets 41 = .ok (.goto (-17), 3) := by decide +kernel
theorem dX11_forgets_44 : decode cX11_forgets 44 = .ok (.iconst 0, 1) := by decide +kernel
theorem dX11_forgets_45 : decode cX11_forgets 45 = .ok (.istore_n 1, 1) := by decide +kernel
theorem dX11_forgets_46 : decode cX11_forgets 46 = .ok (.iload_n 1, 1) := by decide +kernel
theorem dX11_forgets_47 : decode cX11_forgets 47 = .ok (.sipush 16384, 3) := by decide +kernel
theorem dX11_forgets_50 : decode cX11_forgets 50 = .ok (.if_icmp .ge 16, 3) := by decide +kernel
theorem dX11_forgets_53 : decode cX11_forgets 53 = .ok (.aload_n 0, 1) := by decide +kernel
theorem dX11_forgets_54 : decode cX11_forgets 54 = .ok (.getfield 46, 3) := by decide +kernel
theorem dX11_forgets_57 : decode cX11_forgets 57 = .ok (.iload_n 1, 1) := by decide +kernel
theorem dX11_forgets_58 : decode cX11_forgets 58 = .ok (.iconst 0, 1) := by decide +kernel
theorem dX11_forgets_59 : decode cX11_forgets 59 = .ok (.iastore, 1) := by decide +kernel
theorem dX11_forgets_60 : decode cX11_forgets 60 = .ok (.iinc 1 1, 3) := by decide +kernel
theorem dX11_forgets_63 : decode cX11_forgets 63 = .ok (.goto (-17), 3) := by decide +kernel
theorem dX11_forgets_66 : decode cX11_forgets 66 = .ok (.return_, 1) := by decide +kernel
theorem dX11_found_0 : decode cX11_found 0 = .ok (.aload_n 0, 1) := by decide +kernel
theorem dX11_found_1 : decode cX11_found 1 = .ok (.invokevirtual 42, 3) := by decide +kernel
theorem dX11_found_4 : decode cX11_found 4 = .ok (.istore_n 1, 1) := by decide +kernel
theorem dX11_found_5 : decode cX11_found 5 = .ok (.aload_n 0, 1) := by decide +kernel
theorem dX11_found_6 : decode cX11_found 6 = .ok (.getfield 46, 3) := by decide +kernel
theorem dX11_found_9 : decode cX11_found 9 = .ok (.iload_n 1, 1) := by decide +kernel
theorem dX11_found_10 : decode cX11_found 10 = .ok (.iaload, 1) := by decide +kernel
theorem dX11_found_11 : decode cX11_found 11 = .ok (.iconst 1, 1) := by decide +kernel
theorem dX11_found_12 : decode cX11_found 12 = .ok (.isub, 1) := by decide +kernel
theorem dX11_found_13 : decode cX11_found 13 = .ok (.istore_n 2, 1) := by decide +kernel
theorem dX11_found_14 : decode cX11_found 14 = .ok (.iload_n 2, 1) := by decide +kernel
theorem dX11_found_15 : decode cX11_found 15 = .ok (.ifCond .lt 25, 3) := by decide +kernel
theorem dX11_found_18 : decode cX11_found 18 = .ok (.aload_n 0, 1) := by decide +kernel
theorem dX11_found_19 : decode cX11_found 19 = .ok (.iload_n 2, 1) := by decide +kernel
theorem dX11_found_20 : decode cX11_found 20 = .ok (.invokevirtual 49, 3) := by decide +kernel
theorem dX11_found_23 : decode cX11_found 23 = .ok (.ifCond .eq 5, 3) := by decide +kernel
theorem dX11_found_26 : decode cX11_found 26 = .ok (.iload_n 2, 1) := by decide +kernel
theorem dX11_found_27 : decode cX11_found 27 = .ok (.ireturn, 1) := by decide +kernel
theorem dX11_found_28 : decode cX11_found 28 = .ok (.aload_n 0, 1) := by decide +kernel
theorem dX11_found_29 : decode cX11_found 29 = .ok (.getfield 53, 3) := by decide +kernel
theorem dX11_found_32 : decode cX11_found 32 = .ok (.iload_n 2, 1) := by decide +kernel
theorem dX11_found_33 : decode cX11_found 33 = .ok (.iaload, 1) := by decide +kernel
theorem dX11_found_34 : decode cX11_found 34 = .ok (.iconst 1, 1) := by decide +kernel
theorem dX11_found_35 : decode cX11_found 35 = .ok (.isub, 1) := by decide +kernel
theorem dX11_found_36 : decode cX11_found 36 = .ok (.istore_n 2, 1) := by decide +kernel
theorem dX11_found_37 : decode cX11_found 37 = .ok (.goto (-23), 3) := by decide +kernel
theorem dX11_found_40 : decode cX11_found 40 = .ok (.aload_n 0, 1) := by decide +kernel
theorem dX11_found_41 : decode cX11_found 41 = .ok (.iload_n 1, 1) := by decide +kernel
theorem dX11_found_42 : decode cX11_found 42 = .ok (.invokevirtual 56, 3) := by decide +kernel
theorem dX11_found_45 : decode cX11_found 45 = .ok (.ireturn, 1) := by decide +kernel
theorem dX11_game_0 : decode cX11_game 0 = .ok (.iload_n 1, 1) := by decide +kernel
theorem dX11_game_1 : decode cX11_game 1 = .ok (.invokestatic 324, 3) := by decide +kernel
theorem dX11_game_4 : decode cX11_game 4 = .ok (.ifCond .ne 9, 3) := by decide +kernel
theorem dX11_game_7 : decode cX11_game 7 = .ok (.aload_n 0, 1) := by decide +kernel
theorem dX11_game_8 : decode cX11_game 8 = .ok (.iconst 1, 1) := by decide +kernel
theorem dX11_game_9 : decode cX11_game 9 = .ok (.invokevirtual 300, 3) := by decide +kernel
theorem dX11_game_12 : decode cX11_game 12 = .ok (.ireturn, 1) := by decide +kernel
theorem dX11_game_13 : decode cX11_game 13 = .ok (.aload_n 0, 1) := by decide +kernel
theorem dX11_game_14 : decode cX11_game 14 = .ok (.invokevirtual 333, 3) := by decide +kernel
theorem dX11_game_17 : decode cX11_game 17 = .ok (.aload_n 0, 1) := by decide +kernel
theorem dX11_game_18 : decode cX11_game 18 = .ok (.iconst 0, 1) := by decide +kernel
theorem dX11_game_19 : decode cX11_game 19 = .ok (.invokevirtual 468, 3) := by decide +kernel
theorem dX11_game_22 : decode cX11_game 22 = .ok (.istore_n 2, 1) := by decide +kernel
theorem dX11_game_23 : decode cX11_game 23 = .ok (.aload_n 0, 1) := by decide +kernel
theorem dX11_game_24 : decode cX11_game 24 = .ok (.getfield 422, 3) := by decide +kernel
theorem dX11_game_27 : decode cX11_game 27 = .ok (.ifCond .ge 9, 3) := by decide +kernel
theorem dX11_game_30 : decode cX11_game 30 = .ok (.aload_n 0, 1) := by decide +kernel
theorem dX11_game_31 : decode cX11_game 31 = .ok (.iconst 1, 1) := by decide +kernel
theorem dX11_game_32 : decode cX11_game 32 = .ok (.invokevirtual 468, 3) := by decide +kernel
theorem dX11_game_35 : decode cX11_game 35 = .ok (.istore_n 2, 1) := by decide +kernel
theorem dX11_game_36 : decode cX11_game 36 = .ok (.aload_n 0, 1) := by decide +kernel
theorem dX11_game_37 : decode cX11_game 37 = .ok (.iconst 0, 1) := by decide +kernel
theorem dX11_game_38 : decode cX11_game 38 = .ok (.putfield 411, 3) := by decide +kernel
theorem dX11_game_41 : decode cX11_game 41 = .ok (.aload_n 0, 1) := by decide +kernel
theorem dX11_game_42 : decode cX11_game 42 = .ok (.getfield 422, 3) := by decide +kernel
theorem dX11_game_45 : decode cX11_game 45 = .ok (.ifCond .lt 11, 3) := by decide +kernel
theorem dX11_game_48 : decode cX11_game 48 = .ok (.bipush (-10), 2) := by decide +kernel
theorem dX11_game_50 : decode cX11_game 50 = .ok (.aload_n 0, 1) := by decide +kernel
theorem dX11_game_51 : decode cX11_game 51 = .ok (.getfield 422, 3) := by decide +kernel
theorem dX11_game_54 : decode cX11_game 54 = .ok (.isub, 1) := by decide +kernel
theorem dX11_game_55 : decode cX11_game 55 = .ok (.ireturn, 1) := by decide +kernel
theorem dX11_game_56 : decode cX11_game 56 = .ok (.aload_n 0, 1) := by decide +kernel
theorem dX11_game_57 : decode cX11_game 57 = .ok (.getfield 432, 3) := by decide +kernel
theorem dX11_game_60 : decode cX11_game 60 = .ok (.ifCond .eq 11, 3) := by decide +kernel
theorem dX11_game_63 : decode cX11_game 63 = .ok (.aload_n 0, 1) := by decide +kernel
theorem dX11_game_64 : decode cX11_game 64 = .ok (.iconst 4, 1) := by decide +kernel
theorem dX11_game_65 : decode cX11_game 65 = .ok (.invokevirtual 300, 3) := by decide +kernel
theorem dX11_game_68 : decode cX11_game 68 = .ok (.goto 9, 3) := by decide +kernel
theorem dX11_game_71 : decode cX11_game 71 = .ok (.aload_n 0, 1) := by decide +kernel
theorem dX11_game_72 : decode cX11_game 72 = .ok (.iload_n 1, 1) := by decide +kernel
theorem dX11_game_73 : decode cX11_game 73 = .ok (.iload_n 2, 1) := by decide +kernel
theorem dX11_game_74 : decode cX11_game 74 = .ok (.invokevirtual 339, 3) := by decide +kernel
theorem dX11_game_77 : decode cX11_game 77 = .ok (.ireturn, 1) := by decide +kernel
theorem dX11_garden_0 : decode cX11_garden 0 = .ok (.iload_n 1, 1) := by decide +kernel
theorem dX11_garden_1 : decode cX11_garden 1 = .ok (.iconst 0, 1) := by decide +kernel
theorem dX11_garden_2 : decode cX11_garden 2 = .ok (.sipush 255, 3) := by decide +kernel
theorem dX11_garden_5 : decode cX11_garden 5 = .ok (.invokestatic 106, 3) := by decide +kernel
theorem dX11_garden_8 : decode cX11_garden 8 = .ok (.ifCond .ne 9, 3) := by decide +kernel
theorem dX11_garden_11 : decode cX11_garden 11 = .ok (.aload_n 0, 1) := by decide +kernel
theorem dX11_garden_12 : decode cX11_garden 12 = .ok (.iconst 1, 1) := by decide +kernel
theorem dX11_garden_13 : decode cX11_garden 13 = .ok (.invokevirtual 300, 3) := by decide +kernel
theorem dX11_garden_16 : decode cX11_garden 16 = .ok (.ireturn, 1) := by decide +kernel
theorem dX11_garden_17 : decode cX11_garden 17 = .ok (.iconst 1, 1) := by decide +kernel
theorem dX11_garden_18 : decode cX11_garden 18 = .ok (.istore_n 2, 1) := by decide +kernel
theorem dX11_garden_19 : decode cX11_garden 19 = .ok (.iconst 0, 1) := by decide +kernel
theorem dX11_garden_20 : decode cX11_garden 20 = .ok (.istore_n 3, 1) := by decide +kernel
theorem dX11_garden_21 : decode cX11_garden 21 = .ok (.iload_n 3, 1) := by decide +kernel
theorem dX11_garden_22 : decode cX11_garden 22 = .ok (.bipush 8, 2) := by decide +kernel
theorem dX11_garden_24 : decode cX11_garden 24 = .ok (.if_icmp .ge 41, 3) := by decide +kernel
theorem dX11_garden_27 : decode cX11_garden 27 = .ok (.iload_n 2, 1) := by decide +kernel
theorem dX11_garden_28 : decode cX11_garden 28 = .ok (.ifCond .eq 29, 3) := by decide +kernel
theorem dX11_garden_31 : decode cX11_garden 31 = .ok (.iload_n 1, 1) := by decide +kernel
theorem dX11_garden_32 : decode cX11_garden 32 = .ok (.iload_n 3, 1) := by decide +kernel
theorem dX11_garden_33 : decode cX11_garden 33 = .ok (.ishr, 1) := by decide +kernel
theorem dX11_garden_34 : decode cX11_garden 34 = .ok (.iconst 1, 1) := by decide +kernel
theorem dX11_garden_35 : decode cX11_garden 35 = .ok (.iand, 1) := by decide +kernel
theorem dX11_garden_36 : decode cX11_garden 36 = .ok (.ifCond .eq 17, 3) := by decide +kernel
theorem dX11_garden_39 : decode cX11_garden 39 = .ok (.aload_n 0, 1) := by decide +kernel
theorem dX11_garden_40 : decode cX11_garden 40 = .ok (.getfield 91, 3) := by decide +kernel
theorem dX11_garden_43 : decode cX11_garden 43 = .ok (.aload_n 0, 1) := by decide +kernel
theorem dX11_garden_44 : decode cX11_garden 44 = .ok (.getfield 264, 3) := by decide +kernel
theorem dX11_garden_47 : decode cX11_garden 47 = .ok (.iload_n 3, 1) := by decide +kernel
theorem dX11_garden_48 : decode cX11_garden 48 = .ok (.iaload, 1) := by decide +kernel
theorem dX11_garden_49 : decode cX11_garden 49 = .ok (.baload, 1) := by decide +kernel
theorem dX11_garden_50 : decode cX11_garden 50 = .ok (.ifCond .eq 7, 3) := by decide +kernel
theorem dX11_garden_53 : decode cX11_garden 53 = .ok (.iconst 1, 1) := by decide +kernel
theorem dX11_garden_54 : decode cX11_garden 54 = .ok (.goto 4, 3) := by decide +kernel
theorem dX11_garden_57 : decode cX11_garden 57 = .ok (.iconst 0, 1) := by decide +kernel
theorem dX11_garden_58 : decode cX11_garden 58 = .ok (.istore_n 2, 1) := by decide +kernel
theorem dX11_garden_59 : decode cX11_garden 59 = .ok (.iinc 3 1, 3) := by decide +kernel
theorem dX11_garden_62 : decode cX11_garden 62 = .ok (.goto (-41), 3) := by decide +kernel
theorem dX11_garden_65 : decode cX11_garden 65 = .ok (.iload_n 2, 1) := by decide +kernel
theorem dX11_garden_66 : decode cX11_garden 66 = .ok (.ifCond .ne 9, 3) := by decide +kernel
theorem dX11_garden_69 : decode cX11_garden 69 = .ok (.aload_n 0, 1) := by decide +kernel
theorem dX11_garden_70 : decode cX11_garden 70 = .ok (.iconst 3, 1) := by decide +kernel
theorem dX11_garden_71 : decode cX11_garden 71 = .ok (.invokevirtual 300, 3) := by decide +kernel
theorem dX11_garden_74 : decode cX11_garden 74 = .ok (.ireturn, 1) := by decide +kernel
theorem dX11_garden_75 : decode cX11_garden 75 = .ok (.aload_n 0, 1) := by decide +kernel
theorem dX11_garden_76 : decode cX11_garden 76 = .ok (.invokevirtual 333, 3) := by decide +kernel
theorem dX11_garden_79 : decode cX11_garden 79 = .ok (.iconst 0, 1) := by decide +kernel
theorem dX11_garden_80 : decode cX11_garden 80 = .ok (.istore_n 3, 1) := by decide +kernel
theorem dX11_garden_81 : decode cX11_garden 81 = .ok (.iconst 1, 1) := by decide +kernel
theorem dX11_garden_82 : decode cX11_garden 82 = .ok (.istore 4, 2) := by decide +kernel
theorem dX11_garden_84 : decode cX11_garden 84 = .ok (.iconst 0, 1) := by decide +kernel
theorem dX11_garden_85 : decode cX11_garden 85 = .ok (.istore 5, 2) := by decide +kernel
theorem dX11_garden_87 : decode cX11_garden 87 = .ok (.iload 5, 2) := by decide +kernel
theorem dX11_garden_89 : decode cX11_garden 89 = .ok (.bipush 8, 2) := by decide +kernel
theorem dX11_garden_91 : decode cX11_garden 91 = .ok (.if_icmp .ge 55, 3) := by decide +kernel
theorem dX11_garden_94 : decode cX11_garden 94 = .ok (.iload_n 1, 1) := by decide +kernel
theorem dX11_garden_95 : decode cX11_garden 95 = .ok (.iload 5, 2) := by decide +kernel
theorem dX11_garden_97 : decode cX11_garden 97 = .ok (.ishr, 1) := by decide +kernel
theorem dX11_garden_98 : decode cX11_garden 98 = .ok (.iconst 1, 1) := by decide +kernel
theorem dX11_garden_99 : decode cX11_garden 99 = .ok (.iand, 1) := by decide +kernel
theorem dX11_garden_100 : decode cX11_garden 100 = .ok (.ifCond .ne 7, 3) := by decide +kernel
theorem dX11_garden_103 : decode cX11_garden 103 = .ok (.iconst 0, 1) := by decide +kernel
theorem dX11_garden_104 : decode cX11_garden 104 = .ok (.goto 9, 3) := by decide +kernel
theorem dX11_garden_107 : decode cX11_garden 107 = .ok (.aload_n 0, 1) := by decide +kernel
theorem dX11_garden_108 : decode cX11_garden 108 = .ok (.iload 5, 2) := by decide +kernel
theorem dX11_garden_110 : decode cX11_garden 110 = .ok (.invokevirtual 374, 3) := by decide +kernel
theorem dX11_garden_113 : decode cX11_garden 113 = .ok (.istore 6, 2) := by decide +kernel
theorem dX11_garden_115 : decode cX11_garden 115 = .ok (.iload 4, 2) := by decide +kernel
theorem dX11_garden_117 : decode cX11_garden 117 = .ok (.ifCond .eq 15, 3) := by decide +kernel
theorem dX11_garden_120 : decode cX11_garden 120 = .ok (.iload 6, 2) := by decide +kernel
theorem dX11_garden_122 : decode cX11_garden 122 = .ok (.sipush (-1000), 3) := by decide +kernel
theorem dX11_garden_125 : decode cX11_garden 125 = .ok (.if_icmp .eq 7, 3) := by decide +kernel
theorem dX11_garden_128 : decode cX11_garden 128 = .ok (.iconst 1, 1) := by decide +kernel
theorem dX11_garden_129 : decode cX11_garden 129 = .ok (.goto 4, 3) := by decide +kernel
theorem dX11_garden_132 : decode cX11_garden 132 = .ok (.iconst 0, 1) := by decide +kernel
theorem dX11_garden_133 : decode cX11_garden 133 = .ok (.istore 4, 2) := by decide +kernel
theorem dX11_garden_135 : decode cX11_garden 135 = .ok (.iload_n 3, 1) := by decide +kernel
theorem dX11_garden_136 : decode cX11_garden 136 = .ok (.iload 6, 2) := by decide +kernel
theorem dX11_garden_138 : decode cX11_garden 138 = .ok (.iadd, 1) := by decide +kernel
theorem dX11_garden_139 : decode cX11_garden 139 = .ok (.istore_n 3, 1) := by decide +kernel
theorem dX11_garden_140 : decode cX11_garden 140 = .ok (.iinc 5 1, 3) := by decide +kernel
theorem dX11_garden_143 : decode cX11_garden 143 = .ok (.goto (-56), 3) := by decide +kernel
theorem dX11_garden_146 : decode cX11_garden 146 = .ok (.iload 4, 2) := by decide +kernel
theorem dX11_garden_148 : decode cX11_garden 148 = .ok (.ifCond .eq 7, 3) := by decide +kernel
theorem dX11_garden_151 : decode cX11_garden 151 = .ok (.iload_n 3, 1) := by decide +kernel
theorem dX11_garden_152 : decode cX11_garden 152 = .ok (.goto 8, 3) := by decide +kernel
theorem dX11_garden_155 : decode cX11_garden 155 = .ok (.aload_n 0, 1) := by decide +kernel
theorem dX11_garden_156 : decode cX11_garden 156 = .ok (.iconst 2, 1) := by decide +kernel
theorem dX11_garden_157 : decode cX11_garden 157 = .ok (.invokevirtual 300, 3) := by decide +kernel
theorem dX11_garden_160 : decode cX11_garden 160 = .ok (.ireturn, 1) := by decide +kernel
theorem dX11_gathers_0 : decode cX11_gathers 0 = .ok (.aload_n 0, 1) := by decide +kernel
theorem dX11_gathers_1 : decode cX11_gathers 1 = .ok (.getfield 59, 3) := by decide +kernel
theorem dX11_gathers_4 : decode cX11_gathers 4 = .ok (.sipush 7000, 3) := by decide +kernel
theorem dX11_gathers_7 : decode cX11_gathers 7 = .ok (.if_icmp .ge 13, 3) := by decide +kernel
theorem dX11_gathers_10 : decode cX11_gathers 10 = .ok (.aload_n 0, 1) := by decide +kernel
theorem dX11_gathers_11 : decode cX11_gathers 11 = .ok (.getfield 62, 3) := by decide +kernel
theorem dX11_gathers_14 : decode cX11_gathers 14 = .ok (.ldc 113, 2) := by decide +kernel
theorem dX11_gathers_16 : decode cX11_gathers 16 = .ok (.if_icmp .ge 4, 3) := by decide +kernel
theorem dX11_gathers_19 : decode cX11_gathers 19 = .ok (.return_, 1) := by decide +kernel
theorem dX11_gathers_20 : decode cX11_gathers 20 = .ok (.aload_n 0, 1) := by decide +kernel
theorem dX11_gathers_21 : decode cX11_gathers 21 = .ok (.invokevirtual 312, 3) := by decide +kernel
theorem dX11_gathers_24 : decode cX11_gathers 24 = .ok (.aload_n 0, 1) := by decide +kernel
theorem dX11_gathers_25 : decode cX11_gathers 25 = .ok (.invokevirtual 315, 3) := by decide +kernel
theorem dX11_gathers_28 : decode cX11_gathers 28 = .ok (.aload_n 0, 1) := by decide +kernel
theorem dX11_gathers_29 : decode cX11_gathers 29 = .ok (.getfield 59, 3) := by decide +kernel
theorem dX11_gathers_32 : decode cX11_gathers 32 = .ok (.istore_n 1, 1) := by decide +kernel
theorem dX11_gathers_33 : decode cX11_gathers 33 = .ok (.aload_n 0, 1) := by decide +kernel
theorem dX11_gathers_34 : decode cX11_gathers 34 = .ok (.iconst 0, 1) := by decide +kernel
theorem dX11_gathers_35 : decode cX11_gathers 35 = .ok (.putfield 59, 3) := by decide +kernel
theorem dX11_gathers_38 : decode cX11_gathers 38 = .ok (.aload_n 0, 1) := by decide +kernel
theorem dX11_gathers_39 : decode cX11_gathers 39 = .ok (.iconst 0, 1) := by decide +kernel
theorem dX11_gathers_40 : decode cX11_gathers 40 = .ok (.putfield 62, 3) := by decide +kernel
theorem dX11_gathers_43 : decode cX11_gathers 43 = .ok (.iconst 0, 1) := by decide +kernel
theorem dX11_gathers_44 : decode cX11_gathers 44 = .ok (.istore_n 2, 1) := by decide +kernel
theorem dX11_gathers_45 : decode cX11_gathers 45 = .ok (.iload_n 2, 1) := by decide +kernel
theorem dX11_gathers_46 : decode cX11_gathers 46 = .ok (.iload_n 1, 1) := by decide +kernel
theorem dX11_gathers_47 : decode cX11_gathers 47 = .ok (.if_icmp .ge 41, 3) := by decide +kernel
theorem dX11_gathers_50 : decode cX11_gathers 50 = .ok (.aload_n 0, 1) := by decide +kernel
theorem dX11_gathers_51 : decode cX11_gathers 51 = .ok (.getfield 209, 3) := by decide +kernel
theorem dX11_gathers_54 : decode cX11_gathers 54 = .ok (.iload_n 2, 1) := by decide +kernel
theorem dX11_gathers_55 : decode cX11_gathers 55 = .ok (.iaload, 1) := by decide +kernel
theorem dX11_gathers_56 : decode cX11_gathers 56 = .ok (.aload_n 0, 1) := by decide +kernel
theorem dX11_gathers_57 : decode cX11_gathers 57 = .ok (.getfield 212, 3) := by decide +kernel
theorem dX11_gathers_60 : decode cX11_gathers 60 = .ok (.if_icmp .ne 22, 3) := by decide +kernel
theorem dX11_gathers_63 : decode cX11_gathers 63 = .ok (.aload_n 0, 1) := by decide +kernel
theorem dX11_gathers_64 : decode cX11_gathers 64 = .ok (.iload_n 2, 1) := by decide +kernel
theorem dX11_gathers_65 : decode cX11_gathers 65 = .ok (.aload_n 0, 1) := by decide +kernel
theorem dX11_gathers_66 : decode cX11_gathers 66 = .ok (.getfield 59, 3) := by decide +kernel
theorem dX11_gathers_69 : decode cX11_gathers 69 = .ok (.invokevirtual 318, 3) := by decide +kernel
theorem dX11_gathers_72 : decode cX11_gathers 72 = .ok (.aload_n 0, 1) := by decide +kernel
theorem dX11_gathers_73 : decode cX11_gathers 73 = .ok (.dup, 1) := by decide +kernel
theorem dX11_gathers_74 : decode cX11_gathers 74 = .ok (.getfield 59, 3) := by decide +kernel
theorem dX11_gathers_77 : decode cX11_gathers 77 = .ok (.iconst 1, 1) := by decide +kernel
theorem dX11_gathers_78 : decode cX11_gathers 78 = .ok (.iadd, 1) := by decide +kernel
theorem dX11_gathers_79 : decode cX11_gathers 79 = .ok (.putfield 59, 3) := by decide +kernel
theorem dX11_gathers_82 : decode cX11_gathers 82 = .ok (.iinc 2 1, 3) := by decide +kernel
theorem dX11_gathers_85 : decode cX11_gathers 85 = .ok (.goto (-40), 3) := by decide +kernel
theorem dX11_gathers_88 : decode cX11_gathers 88 = .ok (.iconst 0, 1) := by decide +kernel
theorem dX11_gathers_89 : decode cX11_gathers 89 = .ok (.istore_n 2, 1) := by decide +kernel
theorem dX11_gathers_90 : decode cX11_gathers 90 = .ok (.iload_n 2, 1) := by decide +kernel
theorem dX11_gathers_91 : decode cX11_gathers 91 = .ok (.aload_n 0, 1) := by decide +kernel
theorem dX11_gathers_92 : decode cX11_gathers 92 = .ok (.getfield 59, 3) := by decide +kernel
theorem dX11_gathers_95 : decode cX11_gathers 95 = .ok (.if_icmp .ge 14, 3) := by decide +kernel
theorem dX11_gathers_98 : decode cX11_gathers 98 = .ok (.aload_n 0, 1) := by decide +kernel
theorem dX11_gathers_99 : decode cX11_gathers 99 = .ok (.iload_n 2, 1) := by decide +kernel
theorem dX11_gathers_100 : decode cX11_gathers 100 = .ok (.invokevirtual 321, 3) := by decide +kernel
theorem dX11_gathers_103 : decode cX11_gathers 103 = .ok (.iinc 2 1, 3) := by decide +kernel
theorem dX11_gathers_106 : decode cX11_gathers 106 = .ok (.goto (-16), 3) := by decide +kernel
theorem dX11_gathers_109 : decode cX11_gathers 109 = .ok (.iconst 0, 1) := by decide +kernel
theorem dX11_gathers_110 : decode cX11_gathers 110 = .ok (.istore_n 2, 1) := by decide +kernel
theorem dX11_gathers_111 : decode cX11_gathers 111 = .ok (.iload_n 2, 1) := by decide +kernel
theorem dX11_gathers_112 : decode cX11_gathers 112 = .ok (.bipush 8, 2) := by decide +kernel
theorem dX11_gathers_114 : decode cX11_gathers 114 = .ok (.if_icmp .ge 43, 3) := by decide +kernel
theorem dX11_gathers_117 : decode cX11_gathers 117 = .ok (.aload_n 0, 1) := by decide +kernel
theorem dX11_gathers_118 : decode cX11_gathers 118 = .ok (.getfield 264, 3) := by decide +kernel
theorem dX11_gathers_121 : decode cX11_gathers 121 = .ok (.iload_n 2, 1) := by decide +kernel
theorem dX11_gathers_122 : decode cX11_gathers 122 = .ok (.aload_n 0, 1) := by decide +kernel
theorem dX11_gathers_123 : decode cX11_gathers 123 = .ok (.getfield 276, 3) := by decide +kernel
theorem dX11_gathers_126 : decode cX11_gathers 126 = .ok (.aload_n 0, 1) := by decide +kernel
theorem dX11_gathers_127 : decode cX11_gathers 127 = .ok (.getfield 264, 3) := by decide +kernel
theorem dX11_gathers_130 : decode cX11_gathers 130 = .ok (.iload_n 2, 1) := by decide +kernel
theorem dX11_gathers_131 : decode cX11_gathers 131 = .ok (.iaload, 1) := by decide +kernel
theorem dX11_gathers_132 : decode cX11_gathers 132 = .ok (.iaload, 1) := by decide +kernel
theorem dX11_gathers_133 : decode cX11_gathers 133 = .ok (.iastore, 1) := by decide +kernel
theorem dX11_gathers_134 : decode cX11_gathers 134 = .ok (.aload_n 0, 1) := by decide +kernel
theorem dX11_gathers_135 : decode cX11_gathers 135 = .ok (.getfield 273, 3) := by decide +kernel
theorem dX11_gathers_138 : decode cX11_gathers 138 = .ok (.iload_n 2, 1) := by decide +kernel
theorem dX11_gathers_139 : decode cX11_gathers 139 = .ok (.aload_n 0, 1) := by decide +kernel
theorem dX11_gathers_140 : decode cX11_gathers 140 = .ok (.getfield 276, 3) := by decide +kernel
theorem dX11_gathers_143 : decode cX11_gathers 143 = .ok (.aload_n 0, 1) := by decide +kernel
theorem dX11_gathers_144 : decode cX11_gathers 144 = .ok (.getfield 273, 3) := by decide +kernel
theorem dX11_gathers_147 : decode cX11_gathers 147 = .ok (.iload_n 2, 1) := by decide +kernel
theorem dX11_gathers_148 : decode cX11_gathers 148 = .ok (.iaload, 1) := by decide +kernel
theorem dX11_gathers_149 : decode cX11_gathers 149 = .ok (.iaload, 1) := by decide +kernel
theorem dX11_gathers_150 : decode cX11_gathers 150 = .ok (.iastore, 1) := by decide +kernel
theorem dX11_gathers_151 : decode cX11_gathers 151 = .ok (.iinc 2 1, 3) := by decide +kernel
theorem dX11_gathers_154 : decode cX11_gathers 154 = .ok (.goto (-43), 3) := by decide +kernel
theorem dX11_gathers_157 : decode cX11_gathers 157 = .ok (.iconst 0, 1) := by decide +kernel
theorem dX11_gathers_158 : decode cX11_gathers 158 = .ok (.istore_n 2, 1) := by decide +kernel
theorem dX11_gathers_159 : decode cX11_gathers 159 = .ok (.iload_n 2, 1) := by decide +kernel
theorem dX11_gathers_160 : decode cX11_gathers 160 = .ok (.aload_n 0, 1) := by decide +kernel
theorem dX11_gathers_161 : decode cX11_gathers 161 = .ok (.getfield 303, 3) := by decide +kernel
theorem dX11_gathers_164 : decode cX11_gathers 164 = .ok (.if_icmp .ge 26, 3) := by decide +kernel
theorem dX11_gathers_167 : decode cX11_gathers 167 = .ok (.aload_n 0, 1) := by decide +kernel
theorem dX11_gathers_168 : decode cX11_gathers 168 = .ok (.getfield 270, 3) := by decide +kernel
theorem dX11_gathers_171 : decode cX11_gathers 171 = .ok (.iload_n 2, 1) := by decide +kernel
theorem dX11_gathers_172 : decode cX11_gathers 172 = .ok (.aload_n 0, 1) := by decide +kernel
theorem dX11_gathers_173 : decode cX11_gathers 173 = .ok (.getfield 276, 3) := by decide +kernel
theorem dX11_gathers_176 : decode cX11_gathers 176 = .ok (.aload_n 0, 1) := by decide +kernel
theorem dX11_gathers_177 : decode cX11_gathers 177 = .ok (.getfield 270, 3) := by decide +kernel
theorem dX11_gathers_180 : decode cX11_gathers 180 = .ok (.iload_n 2, 1) := by decide +kernel
theorem dX11_gathers_181 : decode cX11_gathers 181 = .ok (.iaload, 1) := by decide +kernel
theorem dX11_gathers_182 : decode cX11_gathers 182 = .ok (.iaload, 1) := by decide +kernel
theorem dX11_gathers_183 : decode cX11_gathers 183 = .ok (.iastore, 1) := by decide +kernel
theorem dX11_gathers_184 : decode cX11_gathers 184 = .ok (.iinc 2 1, 3) := by decide +kernel
theorem dX11_gathers_187 : decode cX11_gathers 187 = .ok (.goto (-28), 3) := by decide +kernel
theorem dX11_gathers_190 : decode cX11_gathers 190 = .ok (.iconst 0, 1) := by decide +kernel
theorem dX11_gathers_191 : decode cX11_gathers 191 = .ok (.istore_n 2, 1) := by decide +kernel
theorem dX11_gathers_192 : decode cX11_gathers 192 = .ok (.iload_n 2, 1) := by decide +kernel
theorem dX11_gathers_193 : decode cX11_gathers 193 = .ok (.aload_n 0, 1) := by decide +kernel
theorem dX11_gathers_194 : decode cX11_gathers 194 = .ok (.getfield 309, 3) := by decide +kernel
theorem dX11_gathers_197 : decode cX11_gathers 197 = .ok (.if_icmp .ge 26, 3) := by decide +kernel
theorem dX11_gathers_200 : decode cX11_gathers 200 = .ok (.aload_n 0, 1) := by decide +kernel
theorem dX11_gathers_201 : decode cX11_gathers 201 = .ok (.getfield 279, 3) := by decide +kernel
theorem dX11_gathers_204 : decode cX11_gathers 204 = .ok (.iload_n 2, 1) := by decide +kernel
theorem dX11_gathers_205 : decode cX11_gathers 205 = .ok (.aload_n 0, 1) := by decide +kernel
theorem dX11_gathers_206 : decode cX11_gathers 206 = .ok (.getfield 276, 3) := by decide +kernel
theorem dX11_gathers_209 : decode cX11_gathers 209 = .ok (.aload_n 0, 1) := by decide +kernel
theorem dX11_gathers_210 : decode cX11_gathers 210 = .ok (.getfield 279, 3) := by decide +kernel
theorem dX11_gathers_213 : decode cX11_gathers 213 = .ok (.iload_n 2, 1) := by decide +kernel
theorem dX11_gathers_214 : decode cX11_gathers 214 = .ok (.iaload, 1) := by decide +kernel
theorem dX11_gathers_215 : decode cX11_gathers 215 = .ok (.iaload, 1) := by decide +kernel
theorem dX11_gathers_216 : decode cX11_gathers 216 = .ok (.iastore, 1) := by decide +kernel
theorem dX11_gathers_217 : decode cX11_gathers 217 = .ok (.iinc 2 1, 3) := by decide +kernel
theorem dX11_gathers_220 : decode cX11_gathers 220 = .ok (.goto (-28), 3) := by decide +kernel
theorem dX11_gathers_223 : decode cX11_gathers 223 = .ok (.return_, 1) := by decide +kernel
theorem dX11_has_0 : decode cX11_has 0 = .ok (.iconst 0, 1) := by decide +kernel
theorem dX11_has_1 : decode cX11_has 1 = .ok (.istore 4, 2) := by decide +kernel
theorem dX11_has_3 : decode cX11_has 3 = .ok (.iload_n 1, 1) := by decide +kernel
theorem dX11_has_4 : decode cX11_has 4 = .ok (.istore 5, 2) := by decide +kernel
theorem dX11_has_6 : decode cX11_has 6 = .ok (.iload 5, 2) := by decide +kernel
theorem dX11_has_8 : decode cX11_has 8 = .ok (.iload_n 2, 1) := by decide +kernel
theorem dX11_has_9 : decode cX11_has 9 = .ok (.if_icmp .ge 29, 3) := by decide +kernel
theorem dX11_has_12 : decode cX11_has 12 = .ok (.iload 4, 2) := by decide +kernel
theorem dX11_has_14 : decode cX11_has 14 = .ok (.ifCond .ne 24, 3) := by decide +kernel
theorem dX11_has_17 : decode cX11_has 17 = .ok (.aload_n 0, 1) := by decide +kernel
theorem dX11_has_18 : decode cX11_has 18 = .ok (.iload 5, 2) := by decide +kernel
theorem dX11_has_20 : decode cX11_has 20 = .ok (.iaload, 1) := by decide +kernel
theorem dX11_has_21 : decode cX11_has 21 = .ok (.iload_n 3, 1) := by decide +kernel
theorem dX11_has_22 : decode cX11_has 22 = .ok (.if_icmp .ne 7, 3) := by decide +kernel
theorem dX11_has_25 : decode cX11_has 25 = .ok (.iconst 1, 1) := by decide +kernel
theorem dX11_has_26 : decode cX11_has 26 = .ok (.goto 4, 3) := by decide +kernel
theorem dX11_has_29 : decode cX11_has 29 = .ok (.iconst 0, 1) := by decide +kernel
theorem dX11_has_30 : decode cX11_has 30 = .ok (.istore 4, 2) := by decide +kernel
theorem dX11_has_32 : decode cX11_has 32 = .ok (.iinc 5 1, 3) := by decide +kernel
theorem dX11_has_35 : decode cX11_has 35 = .ok (.goto (-29), 3) := by decide +kernel
theorem dX11_has_38 : decode cX11_has 38 = .ok (.iload 4, 2) := by decide +kernel
theorem dX11_has_40 : decode cX11_has 40 = .ok (.ireturn, 1) := by decide +kernel
theorem dX11_hash_0 : decode cX11_hash 0 = .ok (.iconst 0, 1) := by decide +kernel
theorem dX11_hash_1 : decode cX11_hash 1 = .ok (.istore_n 1, 1) := by decide +kernel
theorem dX11_hash_2 : decode cX11_hash 2 = .ok (.iconst 0, 1) := by decide +kernel
theorem dX11_hash_3 : decode cX11_hash 3 = .ok (.istore_n 2, 1) := by decide +kernel
theorem dX11_hash_4 : decode cX11_hash 4 = .ok (.iload_n 2, 1) := by decide +kernel
theorem dX11_hash_5 : decode cX11_hash 5 = .ok (.aload_n 0, 1) := by decide +kernel
theorem dX11_hash_6 : decode cX11_hash 6 = .ok (.getfield 9, 3) := by decide +kernel
theorem dX11_hash_9 : decode cX11_hash 9 = .ok (.if_icmp .ge 23, 3) := by decide +kernel
theorem dX11_hash_12 : decode cX11_hash 12 = .ok (.iload_n 1, 1) := by decide +kernel
theorem dX11_hash_13 : decode cX11_hash 13 = .ok (.aload_n 0, 1) := by decide +kernel
theorem dX11_hash_14 : decode cX11_hash 14 = .ok (.getfield 13, 3) := by decide +kernel
theorem dX11_hash_17 : decode cX11_hash 17 = .ok (.iload_n 2, 1) := by decide +kernel
theorem dX11_hash_18 : decode cX11_hash 18 = .ok (.iaload, 1) := by decide +kernel
theorem dX11_hash_19 : decode cX11_hash 19 = .ok (.iconst 1, 1) := by decide +kernel
theorem dX11_hash_20 : decode cX11_hash 20 = .ok (.iadd, 1) := by decide +kernel
theorem dX11_hash_21 : decode cX11_hash 21 = .ok (.invokestatic 16, 3) := by decide +kernel
theorem dX11_hash_24 : decode cX11_hash 24 = .ok (.iadd, 1) := by decide +kernel
theorem dX11_hash_25 : decode cX11_hash 25 = .ok (.istore_n 1, 1) := by decide +kernel
theorem dX11_hash_26 : decode cX11_hash 26 = .ok (.iinc 2 1, 3) := by decide +kernel
theorem dX11_hash_29 : decode cX11_hash 29 = .ok (.goto (-25), 3) := by decide +kernel
theorem dX11_hash_32 : decode cX11_hash 32 = .ok (.iconst 0, 1) := by decide +kernel
theorem dX11_hash_33 : decode cX11_hash 33 = .ok (.istore_n 2, 1) := by decide +kernel
theorem dX11_hash_34 : decode cX11_hash 34 = .ok (.iload_n 2, 1) := by decide +kernel
theorem dX11_hash_35 : decode cX11_hash 35 = .ok (.aload_n 0, 1) := by decide +kernel
theorem dX11_hash_36 : decode cX11_hash 36 = .ok (.getfield 20, 3) := by decide +kernel
theorem dX11_hash_39 : decode cX11_hash 39 = .ok (.if_icmp .ge 26, 3) := by decide +kernel
theorem dX11_hash_42 : decode cX11_hash 42 = .ok (.iload_n 1, 1) := by decide +kernel
theorem dX11_hash_43 : decode cX11_hash 43 = .ok (.bipush 31, 2) := by decide +kernel
theorem dX11_hash_45 : decode cX11_hash 45 = .ok (.aload_n 0, 1) := by decide +kernel
theorem dX11_hash_46 : decode cX11_hash 46 = .ok (.getfield 23, 3) := by decide +kernel
theorem dX11_hash_49 : decode cX11_hash 49 = .ok (.iload_n 2, 1) := by decide +kernel
theorem dX11_hash_50 : decode cX11_hash 50 = .ok (.iaload, 1) := by decide +kernel
theorem dX11_hash_51 : decode cX11_hash 51 = .ok (.iconst 1, 1) := by decide +kernel
theorem dX11_hash_52 : decode cX11_hash 52 = .ok (.iadd, 1) := by decide +kernel
theorem dX11_hash_53 : decode cX11_hash 53 = .ok (.invokestatic 16, 3) := by decide +kernel
theorem dX11_hash_56 : decode cX11_hash 56 = .ok (.imul, 1) := by decide +kernel
theorem dX11_hash_57 : decode cX11_hash 57 = .ok (.iadd, 1) := by decide +kernel
theorem dX11_hash_58 : decode cX11_hash 58 = .ok (.istore_n 1, 1) := by decide +kernel
theorem dX11_hash_59 : decode cX11_hash 59 = .ok (.iinc 2 1, 3) := by decide +kernel
theorem dX11_hash_62 : decode cX11_hash 62 = .ok (.goto (-28), 3) := by decide +kernel
theorem dX11_hash_65 : decode cX11_hash 65 = .ok (.iload_n 1, 1) := by decide +kernel
theorem dX11_hash_66 : decode cX11_hash 66 = .ok (.invokestatic 16, 3) := by decide +kernel
theorem dX11_hash_69 : decode cX11_hash 69 = .ok (.sipush 16383, 3) := by decide +kernel
theorem dX11_hash_72 : decode cX11_hash 72 = .ok (.iand, 1) := by decide +kernel
theorem dX11_hash_73 : decode cX11_hash 73 = .ok (.ireturn, 1) := by decide +kernel
theorem dX11_heap_0 : decode cX11_heap 0 = .ok (.iload_n 1, 1) := by decide +kernel
theorem dX11_heap_1 : decode cX11_heap 1 = .ok (.invokestatic 324, 3) := by decide +kernel
theorem dX11_heap_4 : decode cX11_heap 4 = .ok (.ifCond .eq 13, 3) := by decide +kernel
theorem dX11_heap_7 : decode cX11_heap 7 = .ok (.iload_n 2, 1) := by decide +kernel
theorem dX11_heap_8 : decode cX11_heap 8 = .ok (.iconst 0, 1) := by decide +kernel
theorem dX11_heap_9 : decode cX11_heap 9 = .ok (.bipush 9, 2) := by decide +kernel
theorem dX11_heap_11 : decode cX11_heap 11 = .ok (.invokestatic 106, 3) := by decide +kernel
theorem dX11_heap_14 : decode cX11_heap 14 = .ok (.ifCond .ne 9, 3) := by decide +kernel
theorem dX11_heap_17 : decode cX11_heap 17 = .ok (.aload_n 0, 1) := by decide +kernel
theorem dX11_heap_18 : decode cX11_heap 18 = .ok (.iconst 1, 1) := by decide +kernel
theorem dX11_heap_19 : decode cX11_heap 19 = .ok (.invokevirtual 300, 3) := by decide +kernel
theorem dX11_heap_22 : decode cX11_heap 22 = .ok (.ireturn, 1) := by decide +kernel
theorem dX11_heap_23 : decode cX11_heap 23 = .ok (.aload_n 0, 1) := by decide +kernel
theorem dX11_heap_24 : decode cX11_heap 24 = .ok (.invokevirtual 333, 3) := by decide +kernel
theorem dX11_heap_27 : decode cX11_heap 27 = .ok (.aload_n 0, 1) := by decide +kernel
theorem dX11_heap_28 : decode cX11_heap 28 = .ok (.iload_n 1, 1) := by decide +kernel
theorem dX11_heap_29 : decode cX11_heap 29 = .ok (.aload_n 0, 1) := by decide +kernel
theorem dX11_heap_30 : decode cX11_heap 30 = .ok (.iload_n 2, 1) := by decide +kernel
theorem dX11_heap_31 : decode cX11_heap 31 = .ok (.invokevirtual 206, 3) := by decide +kernel
theorem dX11_heap_34 : decode cX11_heap 34 = .ok (.invokevirtual 339, 3) := by decide +kernel
theorem dX11_heap_37 : decode cX11_heap 37 = .ok (.ireturn, 1) := by decide +kernel
theorem dX11_heapAt_0 : decode cX11_heapAt 0 = .ok (.aload_n 0, 1) := by decide +kernel
theorem dX11_heapAt_1 : decode cX11_heapAt 1 = .ok (.getfield 26, 3) := by decide +kernel
theorem dX11_heapAt_4 : decode cX11_heapAt 4 = .ok (.iload_n 1, 1) := by decide +kernel
theorem dX11_heapAt_5 : decode cX11_heapAt 5 = .ok (.iaload, 1) := by decide +kernel
theorem dX11_heapAt_6 : decode cX11_heapAt 6 = .ok (.aload_n 0, 1) := by decide +kernel
theorem dX11_heapAt_7 : decode cX11_heapAt 7 = .ok (.getfield 29, 3) := by decide +kernel
theorem dX11_heapAt_10 : decode cX11_heapAt 10 = .ok (.iload_n 1, 1) := by decide +kernel
theorem dX11_heapAt_11 : decode cX11_heapAt 11 = .ok (.iaload, 1) := by decide +kernel
theorem dX11_heapAt_12 : decode cX11_heapAt 12 = .ok (.isub, 1) := by decide +kernel
theorem dX11_heapAt_13 : decode cX11_heapAt 13 = .ok (.istore_n 2, 1) := by decide +kernel
theorem dX11_heapAt_14 : decode cX11_heapAt 14 = .ok (.aload_n 0, 1) := by decide +kernel
theorem dX11_heapAt_15 : decode cX11_heapAt 15 = .ok (.getfield 32, 3) := by decide +kernel
theorem dX11_heapAt_18 : decode cX11_heapAt 18 = .ok (.iload_n 1, 1) := by decide +kernel
theorem dX11_heapAt_19 : decode cX11_heapAt 19 = .ok (.iaload, 1) := by decide +kernel
theorem dX11_heapAt_20 : decode cX11_heapAt 20 = .ok (.aload_n 0, 1) := by decide +kernel
theorem dX11_heapAt_21 : decode cX11_heapAt 21 = .ok (.getfield 26, 3) := by decide +kernel
theorem dX11_heapAt_24 : decode cX11_heapAt 24 = .ok (.iload_n 1, 1) := by decide +kernel
theorem dX11_heapAt_25 : decode cX11_heapAt 25 = .ok (.iaload, 1) := by decide +kernel
theorem dX11_heapAt_26 : decode cX11_heapAt 26 = .ok (.isub, 1) := by decide +kernel
theorem dX11_heapAt_27 : decode cX11_heapAt 27 = .ok (.iload_n 2, 1) := by decide +kernel
theorem dX11_heapAt_28 : decode cX11_heapAt 28 = .ok (.if_icmp .eq 5, 3) := by decide +kernel
theorem dX11_heapAt_31 : decode cX11_heapAt 31 = .ok (.iconst (-1), 1) := by decide +kernel
theorem dX11_heapAt_32 : decode cX11_heapAt 32 = .ok (.ireturn, 1) := by decide +kernel
theorem dX11_heapAt_33 : decode cX11_heapAt 33 = .ok (.aload_n 0, 1) := by decide +kernel
theorem dX11_heapAt_34 : decode cX11_heapAt 34 = .ok (.getfield 29, 3) := by decide +kernel
theorem dX11_heapAt_37 : decode cX11_heapAt 37 = .ok (.iload_n 1, 1) := by decide +kernel
theorem dX11_heapAt_38 : decode cX11_heapAt 38 = .ok (.iaload, 1) := by decide +kernel
theorem dX11_heapAt_39 : decode cX11_heapAt 39 = .ok (.istore_n 3, 1) := by decide +kernel
theorem dX11_heapAt_40 : decode cX11_heapAt 40 = .ok (.iload_n 3, 1) := by decide +kernel
theorem dX11_heapAt_41 : decode cX11_heapAt 41 = .ok (.aload_n 0, 1) := by decide +kernel
theorem dX11_heapAt_42 : decode cX11_heapAt 42 = .ok (.getfield 32, 3) := by decide +kernel
theorem dX11_heapAt_45 : decode cX11_heapAt 45 = .ok (.iload_n 1, 1) := by decide +kernel
theorem dX11_heapAt_46 : decode cX11_heapAt 46 = .ok (.iaload, 1) := by decide +kernel
theorem dX11_heapAt_47 : decode cX11_heapAt 47 = .ok (.if_icmp .ge 32, 3) := by decide +kernel
theorem dX11_heapAt_50 : decode cX11_heapAt 50 = .ok (.aload_n 0, 1) := by decide +kernel
theorem dX11_heapAt_51 : decode cX11_heapAt 51 = .ok (.getfield 85, 3) := by decide +kernel
theorem dX11_heapAt_54 : decode cX11_heapAt 54 = .ok (.aload_n 0, 1) := by decide +kernel
theorem dX11_heapAt_55 : decode cX11_heapAt 55 = .ok (.getfield 35, 3) := by decide +kernel
theorem dX11_heapAt_58 : decode cX11_heapAt 58 = .ok (.iload_n 3, 1) := by decide +kernel
theorem dX11_heapAt_59 : decode cX11_heapAt 59 = .ok (.iaload, 1) := by decide +kernel
theorem dX11_heapAt_60 : decode cX11_heapAt 60 = .ok (.iaload, 1) := by decide +kernel
theorem dX11_heapAt_61 : decode cX11_heapAt 61 = .ok (.iconst 0, 1) := by decide +kernel
theorem dX11_heapAt_62 : decode cX11_heapAt 62 = .ok (.iload_n 2, 1) := by decide +kernel
theorem dX11_heapAt_63 : decode cX11_heapAt 63 = .ok (.iconst 1, 1) := by decide +kernel
theorem dX11_heapAt_64 : decode cX11_heapAt 64 = .ok (.isub, 1) := by decide +kernel
theorem dX11_heapAt_65 : decode cX11_heapAt 65 = .ok (.invokestatic 106, 3) := by decide +kernel
theorem dX11_heapAt_68 : decode cX11_heapAt 68 = .ok (.ifCond .ne 5, 3) := by decide +kernel
theorem dX11_heapAt_71 : decode cX11_heapAt 71 = .ok (.iconst (-1), 1) := by decide +kernel
theorem dX11_heapAt_72 : decode cX11_heapAt 72 = .ok (.ireturn, 1) := by decide +kernel
theorem dX11_heapAt_73 : decode cX11_heapAt 73 = .ok (.iinc 3 1, 3) := by decide +kernel
theorem dX11_heapAt_76 : decode cX11_heapAt 76 = .ok (.goto (-36), 3) := by decide +kernel
theorem dX11_heapAt_79 : decode cX11_heapAt 79 = .ok (.iload_n 2, 1) := by decide +kernel
theorem dX11_heapAt_80 : decode cX11_heapAt 80 = .ok (.ireturn, 1) := by decide +kernel
theorem dX11_heapOf_0 : decode cX11_heapOf 0 = .ok (.aload_n 0, 1) := by decide +kernel
theorem dX11_heapOf_1 : decode cX11_heapOf 1 = .ok (.getfield 203, 3) := by decide +kernel
theorem dX11_heapOf_4 : decode cX11_heapOf 4 = .ok (.iconst 0, 1) := by decide +kernel
theorem dX11_heapOf_5 : decode cX11_heapOf 5 = .ok (.iconst 0, 1) := by decide +kernel
theorem dX11_heapOf_6 : decode cX11_heapOf 6 = .ok (.iastore, 1) := by decide +kernel
theorem dX11_heapOf_7 : decode cX11_heapOf 7 = .ok (.iconst 1, 1) := by decide +kernel
theorem dX11_heapOf_8 : decode cX11_heapOf 8 = .ok (.istore_n 2, 1) := by decide +kernel
theorem dX11_heapOf_9 : decode cX11_heapOf 9 = .ok (.iload_n 2, 1) := by decide +kernel
theorem dX11_heapOf_10 : decode cX11_heapOf 10 = .ok (.iload_n 1, 1) := by decide +kernel
theorem dX11_heapOf_11 : decode cX11_heapOf 11 = .ok (.if_icmp .gt 80, 3) := by decide +kernel
theorem dX11_heapOf_14 : decode cX11_heapOf 14 = .ok (.aload_n 0, 1) := by decide +kernel
theorem dX11_heapOf_15 : decode cX11_heapOf 15 = .ok (.getfield 175, 3) := by decide +kernel
theorem dX11_heapOf_18 : decode cX11_heapOf 18 = .ok (.istore_n 3, 1) := by decide +kernel
theorem dX11_heapOf_19 : decode cX11_heapOf 19 = .ok (.iconst 0, 1) := by decide +kernel
theorem dX11_heapOf_20 : decode cX11_heapOf 20 = .ok (.istore 4, 2) := by decide +kernel
theorem dX11_heapOf_22 : decode cX11_heapOf 22 = .ok (.iload 4, 2) := by decide +kernel
theorem dX11_heapOf_24 : decode cX11_heapOf 24 = .ok (.iload_n 2, 1) := by decide +kernel
theorem dX11_heapOf_25 : decode cX11_heapOf 25 = .ok (.if_icmp .ge 20, 3) := by decide +kernel
theorem dX11_heapOf_28 : decode cX11_heapOf 28 = .ok (.aload_n 0, 1) := by decide +kernel
theorem dX11_heapOf_29 : decode cX11_heapOf 29 = .ok (.aload_n 0, 1) := by decide +kernel
theorem dX11_heapOf_30 : decode cX11_heapOf 30 = .ok (.getfield 203, 3) := by decide +kernel
theorem dX11_heapOf_33 : decode cX11_heapOf 33 = .ok (.iload 4, 2) := by decide +kernel
theorem dX11_heapOf_35 : decode cX11_heapOf 35 = .ok (.iaload, 1) := by decide +kernel
theorem dX11_heapOf_36 : decode cX11_heapOf 36 = .ok (.invokevirtual 194, 3) := by decide +kernel
theorem dX11_heapOf_39 : decode cX11_heapOf 39 = .ok (.iinc 4 1, 3) := by decide +kernel
theorem dX11_heapOf_42 : decode cX11_heapOf 42 = .ok (.goto (-20), 3) := by decide +kernel
theorem dX11_heapOf_45 : decode cX11_heapOf 45 = .ok (.iconst 0, 1) := by decide +kernel
theorem dX11_heapOf_46 : decode cX11_heapOf 46 = .ok (.istore 4, 2) := by decide +kernel
theorem dX11_heapOf_48 : decode cX11_heapOf 48 = .ok (.iload 4, 2) := by decide +kernel
theorem dX11_heapOf_50 : decode cX11_heapOf 50 = .ok (.iload_n 2, 1) := by decide +kernel
theorem dX11_heapOf_51 : decode cX11_heapOf 51 = .ok (.if_icmp .ge 20, 3) := by decide +kernel
theorem dX11_heapOf_54 : decode cX11_heapOf 54 = .ok (.aload_n 0, 1) := by decide +kernel
theorem dX11_heapOf_55 : decode cX11_heapOf 55 = .ok (.aload_n 0, 1) := by decide +kernel
theorem dX11_heapOf_56 : decode cX11_heapOf 56 = .ok (.getfield 203, 3) := by decide +kernel
theorem dX11_heapOf_59 : decode cX11_heapOf 59 = .ok (.iload 4, 2) := by decide +kernel
theorem dX11_heapOf_61 : decode cX11_heapOf 61 = .ok (.iaload, 1) := by decide +kernel
theorem dX11_heapOf_62 : decode cX11_heapOf 62 = .ok (.invokevirtual 194, 3) := by decide +kernel
theorem dX11_heapOf_65 : decode cX11_heapOf 65 = .ok (.iinc 4 1, 3) := by decide +kernel
theorem dX11_heapOf_68 : decode cX11_heapOf 68 = .ok (.goto (-20), 3) := by decide +kernel
theorem dX11_heapOf_71 : decode cX11_heapOf 71 = .ok (.aload_n 0, 1) := by decide +kernel
theorem dX11_heapOf_72 : decode cX11_heapOf 72 = .ok (.getfield 203, 3) := by decide +kernel
theorem dX11_heapOf_75 : decode cX11_heapOf 75 = .ok (.iload_n 2, 1) := by decide +kernel
theorem dX11_heapOf_76 : decode cX11_heapOf 76 = .ok (.aload_n 0, 1) := by decide +kernel
theorem dX11_heapOf_77 : decode cX11_heapOf 77 = .ok (.iload_n 3, 1) := by decide +kernel
theorem dX11_heapOf_78 : decode cX11_heapOf 78 = .ok (.iload_n 3, 1) := by decide +kernel
theorem dX11_heapOf_79 : decode cX11_heapOf 79 = .ok (.iload_n 2, 1) := by decide +kernel
theorem dX11_heapOf_80 : decode cX11_heapOf 80 = .ok (.iadd, 1) := by decide +kernel
theorem dX11_heapOf_81 : decode cX11_heapOf 81 = .ok (.invokevirtual 197, 3) := by decide +kernel
theorem dX11_heapOf_84 : decode cX11_heapOf 84 = .ok (.iastore, 1) := by decide +kernel
theorem dX11_heapOf_85 : decode cX11_heapOf 85 = .ok (.iinc 2 1, 3) := by decide +kernel
theorem dX11_heapOf_88 : decode cX11_heapOf 88 = .ok (.goto (-79), 3) := by decide +kernel
theorem dX11_heapOf_91 : decode cX11_heapOf 91 = .ok (.aload_n 0, 1) := by decide +kernel
theorem dX11_heapOf_92 : decode cX11_heapOf 92 = .ok (.getfield 203, 3) := by decide +kernel
theorem dX11_heapOf_95 : decode cX11_heapOf 95 = .ok (.iload_n 1, 1) := by decide +kernel
theorem dX11_heapOf_96 : decode cX11_heapOf 96 = .ok (.iaload, 1) := by decide +kernel
theorem dX11_heapOf_97 : decode cX11_heapOf 97 = .ok (.ireturn, 1) := by decide +kernel
theorem dX11_here_0 : decode cX11_here 0 = .ok (.aload_n 0, 1) := by decide +kernel
theorem dX11_here_1 : decode cX11_here 1 = .ok (.getfield 416, 3) := by decide +kernel
theorem dX11_here_4 : decode cX11_here 4 = .ok (.aload_n 0, 1) := by decide +kernel
theorem dX11_here_5 : decode cX11_here 5 = .ok (.getfield 411, 3) := by decide +kernel
theorem dX11_here_8 : decode cX11_here 8 = .ok (.if_icmp .ge 15, 3) := by decide +kernel
theorem dX11_here_11 : decode cX11_here 11 = .ok (.aload_n 0, 1) := by decide +kernel
theorem dX11_here_12 : decode cX11_here 12 = .ok (.getfield 285, 3) := by decide +kernel
theorem dX11_here_15 : decode cX11_here 15 = .ok (.aload_n 0, 1) := by decide +kernel
theorem dX11_here_16 : decode cX11_here 16 = .ok (.getfield 416, 3) := by decide +kernel
theorem dX11_here_19 : decode cX11_here 19 = .ok (.iaload, 1) := by decide +kernel
theorem dX11_here_20 : decode cX11_here 20 = .ok (.goto 4, 3) := by decide +kernel
theorem dX11_here_23 : decode cX11_here 23 = .ok (.iconst (-1), 1) := by decide +kernel
theorem dX11_here_24 : decode cX11_here 24 = .ok (.ireturn, 1) := by decide +kernel
theorem dX11_holds_0 : decode cX11_holds 0 = .ok (.aload_n 0, 1) := by decide +kernel
theorem dX11_holds_1 : decode cX11_holds 1 = .ok (.iload_n 2, 1) := by decide +kernel
theorem dX11_holds_2 : decode cX11_holds 2 = .ok (.invokevirtual 297, 3) := by decide +kernel
theorem dX11_holds_5 : decode cX11_holds 5 = .ok (.ifCond .ne 9, 3) := by decide +kernel
theorem dX11_holds_8 : decode cX11_holds 8 = .ok (.aload_n 0, 1) := by decide +kernel
theorem dX11_holds_9 : decode cX11_holds 9 = .ok (.iconst 4, 1) := by decide +kernel
theorem dX11_holds_10 : decode cX11_holds 10 = .ok (.invokevirtual 300, 3) := by decide +kernel
theorem dX11_holds_13 : decode cX11_holds 13 = .ok (.ireturn, 1) := by decide +kernel
theorem dX11_holds_14 : decode cX11_holds 14 = .ok (.aload_n 0, 1) := by decide +kernel
theorem dX11_holds_15 : decode cX11_holds 15 = .ok (.getfield 303, 3) := by decide +kernel
theorem dX11_holds_18 : decode cX11_holds 18 = .ok (.bipush 8, 2) := by decide +kernel
theorem dX11_holds_20 : decode cX11_holds 20 = .ok (.if_icmp .ne 55, 3) := by decide +kernel
theorem dX11_holds_23 : decode cX11_holds 23 = .ok (.iconst 1, 1) := by decide +kernel
theorem dX11_holds_24 : decode cX11_holds 24 = .ok (.istore_n 3, 1) := by decide +kernel
theorem dX11_holds_25 : decode cX11_holds 25 = .ok (.iload_n 3, 1) := by decide +kernel
theorem dX11_holds_26 : decode cX11_holds 26 = .ok (.bipush 8, 2) := by decide +kernel
theorem dX11_holds_28 : decode cX11_holds 28 = .ok (.if_icmp .ge 37, 3) := by decide +kernel
theorem dX11_holds_31 : decode cX11_holds 31 = .ok (.aload_n 0, 1) := by decide +kernel
theorem dX11_holds_32 : decode cX11_holds 32 = .ok (.getfield 267, 3) := by decide +kernel
theorem dX11_holds_35 : decode cX11_holds 35 = .ok (.iload_n 3, 1) := by decide +kernel
theorem dX11_holds_36 : decode cX11_holds 36 = .ok (.iconst 1, 1) := by decide +kernel
theorem dX11_holds_37 : decode cX11_holds 37 = .ok (.isub, 1) := by decide +kernel
theorem dX11_holds_38 : decode cX11_holds 38 = .ok (.aload_n 0, 1) := by decide +kernel
theorem dX11_holds_39 : decode cX11_holds 39 = .ok (.getfield 267, 3) := by decide +kernel
theorem dX11_holds_42 : decode cX11_holds 42 = .ok (.iload_n 3, 1) := by decide +kernel
theorem dX11_holds_43 : decode cX11_holds 43 = .ok (.iaload, 1) := by decide +kernel
theorem dX11_holds_44 : decode cX11_holds 44 = .ok (.iastore, 1) := by decide +kernel
theorem dX11_holds_45 : decode cX11_holds 45 = .ok (.aload_n 0, 1) := by decide +kernel
theorem dX11_holds_46 : decode cX11_holds 46 = .ok (.getfield 270, 3) := by decide +kernel
theorem dX11_holds_49 : decode cX11_holds 49 = .ok (.iload_n 3, 1) := by decide +kernel
theorem dX11_holds_50 : decode cX11_holds 50 = .ok (.iconst 1, 1) := by decide +kernel
theorem dX11_holds_51 : decode cX11_holds 51 = .ok (.isub, 1) := by decide +kernel
theorem dX11_holds_52 : decode cX11_holds 52 = .ok (.aload_n 0, 1) := by decide +kernel
theorem dX11_holds_53 : decode cX11_holds 53 = .ok (.getfield 270, 3) := by decide +kernel
theorem dX11_holds_56 : decode cX11_holds 56 = .ok (.iload_n 3, 1) := by decide +kernel
theorem dX11_holds_57 : decode cX11_holds 57 = .ok (.iaload, 1) := by decide +kernel
theorem dX11_holds_58 : decode cX11_holds 58 = .ok (.iastore, 1) := by decide +kernel
theorem dX11_holds_59 : decode cX11_holds 59 = .ok (.iinc 3 1, 3) := by decide +kernel
theorem dX11_holds_62 : decode cX11_holds 62 = .ok (.goto (-37), 3) := by decide +kernel
theorem dX11_holds_65 : decode cX11_holds 65 = .ok (.aload_n 0, 1) := by decide +kernel
theorem dX11_holds_66 : decode cX11_holds 66 = .ok (.dup, 1) := by decide +kernel
theorem dX11_holds_67 : decode cX11_holds 67 = .ok (.getfield 303, 3) := by decide +kernel
theorem dX11_holds_70 : decode cX11_holds 70 = .ok (.iconst 1, 1) := by decide +kernel
theorem dX11_holds_71 : decode cX11_holds 71 = .ok (.isub, 1) := by decide +kernel
theorem dX11_holds_72 : decode cX11_holds 72 = .ok (.putfield 303, 3) := by decide +kernel
theorem dX11_holds_75 : decode cX11_holds 75 = .ok (.aload_n 0, 1) := by decide +kernel
theorem dX11_holds_76 : decode cX11_holds 76 = .ok (.getfield 267, 3) := by decide +kernel
theorem dX11_holds_79 : decode cX11_holds 79 = .ok (.aload_n 0, 1) := by decide +kernel
theorem dX11_holds_80 : decode cX11_holds 80 = .ok (.getfield 303, 3) := by decide +kernel
theorem dX11_holds_83 : decode cX11_holds 83 = .ok (.iload_n 1, 1) := by decide +kernel
theorem dX11_holds_84 : decode cX11_holds 84 = .ok (.iastore, 1) := by decide +kernel
theorem dX11_holds_85 : decode cX11_holds 85 = .ok (.aload_n 0, 1) := by decide +kernel
theorem dX11_holds_86 : decode cX11_holds 86 = .ok (.getfield 270, 3) := by decide +kernel
theorem dX11_holds_89 : decode cX11_holds 89 = .ok (.aload_n 0, 1) := by decide +kernel
theorem dX11_holds_90 : decode cX11_holds 90 = .ok (.getfield 303, 3) := by decide +kernel
theorem dX11_holds_93 : decode cX11_holds 93 = .ok (.aload_n 0, 1) := by decide +kernel
theorem dX11_holds_94 : decode cX11_holds 94 = .ok (.getfield 264, 3) := by decide +kernel
theorem dX11_holds_97 : decode cX11_holds 97 = .ok (.iload_n 1, 1) := by decide +kernel
theorem dX11_holds_98 : decode cX11_holds 98 = .ok (.iaload, 1) := by decide +kernel
theorem dX11_holds_99 : decode cX11_holds 99 = .ok (.iastore, 1) := by decide +kernel
theorem dX11_holds_100 : decode cX11_holds 100 = .ok (.aload_n 0, 1) := by decide +kernel
theorem dX11_holds_101 : decode cX11_holds 101 = .ok (.dup, 1) := by decide +kernel
theorem dX11_holds_102 : decode cX11_holds 102 = .ok (.getfield 303, 3) := by decide +kernel
theorem dX11_holds_105 : decode cX11_holds 105 = .ok (.iconst 1, 1) := by decide +kernel
theorem dX11_holds_106 : decode cX11_holds 106 = .ok (.iadd, 1) := by decide +kernel
theorem dX11_holds_107 : decode cX11_holds 107 = .ok (.putfield 303, 3) := by decide +kernel
theorem dX11_holds_110 : decode cX11_holds 110 = .ok (.aload_n 0, 1) := by decide +kernel
theorem dX11_holds_111 : decode cX11_holds 111 = .ok (.getfield 264, 3) := by decide +kernel
theorem dX11_holds_114 : decode cX11_holds 114 = .ok (.iload_n 1, 1) := by decide +kernel
theorem dX11_holds_115 : decode cX11_holds 115 = .ok (.iload_n 2, 1) := by decide +kernel
theorem dX11_holds_116 : decode cX11_holds 116 = .ok (.iastore, 1) := by decide +kernel
theorem dX11_holds_117 : decode cX11_holds 117 = .ok (.aload_n 0, 1) := by decide +kernel
theorem dX11_holds_118 : decode cX11_holds 118 = .ok (.iload_n 2, 1) := by decide +kernel
theorem dX11_holds_119 : decode cX11_holds 119 = .ok (.invokevirtual 218, 3) := by decide +kernel
theorem dX11_holds_122 : decode cX11_holds 122 = .ok (.ireturn, 1) := by decide +kernel
theorem dX11_image_0 : decode cX11_image 0 = .ok (.iconst 0, 1) := by decide +kernel
theorem dX11_image_1 : decode cX11_image 1 = .ok (.istore_n 1, 1) := by decide +kernel
theorem dX11_image_2 : decode cX11_image 2 = .ok (.iload_n 1, 1) := by decide +kernel
theorem dX11_image_3 : decode cX11_image 3 = .ok (.bipush 8, 2) := by decide +kernel
theorem dX11_image_5 : decode cX11_image 5 = .ok (.if_icmp .ge 21, 3) := by decide +kernel
theorem dX11_image_8 : decode cX11_image 8 = .ok (.aload_n 0, 1) := by decide +kernel
theorem dX11_image_9 : decode cX11_image 9 = .ok (.getfield 273, 3) := by decide +kernel
theorem dX11_image_12 : decode cX11_image 12 = .ok (.iload_n 1, 1) := by decide +kernel
theorem dX11_image_13 : decode cX11_image 13 = .ok (.aload_n 0, 1) := by decide +kernel
theorem dX11_image_14 : decode cX11_image 14 = .ok (.getfield 264, 3) := by decide +kernel
theorem dX11_image_17 : decode cX11_image 17 = .ok (.iload_n 1, 1) := by decide +kernel
theorem dX11_image_18 : decode cX11_image 18 = .ok (.iaload, 1) := by decide +kernel
theorem dX11_image_19 : decode cX11_image 19 = .ok (.iastore, 1) := by decide +kernel
theorem dX11_image_20 : decode cX11_image 20 = .ok (.iinc 1 1, 3) := by decide +kernel
theorem dX11_image_23 : decode cX11_image 23 = .ok (.goto (-21), 3) := by decide +kernel
theorem dX11_image_26 : decode cX11_image 26 = .ok (.aload_n 0, 1) := by decide +kernel
theorem dX11_image_27 : decode cX11_image 27 = .ok (.iconst 1, 1) := by decide +kernel
theorem dX11_image_28 : decode cX11_image 28 = .ok (.putfield 475, 3) := by decide +kernel
theorem dX11_image_31 : decode cX11_image 31 = .ok (.aload_n 0, 1) := by decide +kernel
theorem dX11_image_32 : decode cX11_image 32 = .ok (.invokevirtual 478, 3) := by decide +kernel
theorem dX11_image_35 : decode cX11_image 35 = .ok (.ireturn, 1) := by decide +kernel
theorem dX11_in_0 : decode cX11_in 0 = .ok (.iload_n 0, 1) := by decide +kernel
theorem dX11_in_1 : decode cX11_in 1 = .ok (.iload_n 1, 1) := by decide +kernel
theorem dX11_in_2 : decode cX11_in 2 = .ok (.if_icmp .lt 12, 3) := by decide +kernel
theorem dX11_in_5 : decode cX11_in 5 = .ok (.iload_n 0, 1) := by decide +kernel
theorem dX11_in_6 : decode cX11_in 6 = .ok (.iload_n 2, 1) := by decide +kernel
theorem dX11_in_7 : decode cX11_in 7 = .ok (.if_icmp .gt 7, 3) := by decide +kernel
theorem dX11_in_10 : decode cX11_in 10 = .ok (.iconst 1, 1) := by decide +kernel
theorem dX11_in_11 : decode cX11_in 11 = .ok (.goto 4, 3) := by decide +kernel
theorem dX11_in_14 : decode cX11_in 14 = .ok (.iconst 0, 1) := by decide +kernel
theorem dX11_in_15 : decode cX11_in 15 = .ok (.ireturn, 1) := by decide +kernel
theorem dX11_integer_0 : decode cX11_integer 0 = .ok (.iload_n 1, 1) := by decide +kernel
theorem dX11_integer_1 : decode cX11_integer 1 = .ok (.invokestatic 324, 3) := by decide +kernel
theorem dX11_integer_4 : decode cX11_integer 4 = .ok (.ifCond .ne 9, 3) := by decide +kernel
theorem dX11_integer_7 : decode cX11_integer 7 = .ok (.aload_n 0, 1) := by decide +kernel
theorem dX11_integer_8 : decode cX11_integer 8 = .ok (.iconst 1, 1) := by decide +kernel
theorem dX11_integer_9 : decode cX11_integer 9 = .ok (.invokevirtual 300, 3) := by decide +kernel
theorem dX11_integer_12 : decode cX11_integer 12 = .ok (.ireturn, 1) := by decide +kernel
theorem dX11_integer_13 : decode cX11_integer 13 = .ok (.aload_n 0, 1) := by decide +kernel
theorem dX11_integer_14 : decode cX11_integer 14 = .ok (.getfield 79, 3) := by decide +kernel
theorem dX11_integer_17 : decode cX11_integer 17 = .ok (.aload_n 0, 1) := by decide +kernel
theorem dX11_integer_18 : decode cX11_integer 18 = .ok (.getfield 264, 3) := by decide +kernel
theorem dX11_integer_21 : decode cX11_integer 21 = .ok (.iload_n 1, 1) := by decide +kernel
theorem dX11_integer_22 : decode cX11_integer 22 = .ok (.iaload, 1) := by decide +kernel
theorem dX11_integer_23 : decode cX11_integer 23 = .ok (.iaload, 1) := by decide +kernel
theorem dX11_integer_24 : decode cX11_integer 24 = .ok (.sipush (-1000), 3) := by decide +kernel
theorem dX11_integer_27 : decode cX11_integer 27 = .ok (.if_icmp .ne 11, 3) := by decide +kernel
theorem dX11_integer_30 : decode cX11_integer 30 = .ok (.aload_n 0, 1) := by decide +kernel
theorem dX11_integer_31 : decode cX11_integer 31 = .ok (.iconst 2, 1) := by decide +kernel
theorem dX11_integer_32 : decode cX11_integer 32 = .ok (.invokevirtual 300, 3) := by decide +kernel
theorem dX11_integer_35 : decode cX11_integer 35 = .ok (.goto 14, 3) := by decide +kernel
theorem dX11_integer_38 : decode cX11_integer 38 = .ok (.aload_n 0, 1) := by decide +kernel
theorem dX11_integer_39 : decode cX11_integer 39 = .ok (.getfield 79, 3) := by decide +kernel
theorem dX11_integer_42 : decode cX11_integer 42 = .ok (.aload_n 0, 1) := by decide +kernel
theorem dX11_integer_43 : decode cX11_integer 43 = .ok (.getfield 264, 3) := by decide +kernel
theorem dX11_integer_46 : decode cX11_integer 46 = .ok (.iload_n 1, 1) := by decide +kernel
theorem dX11_integer_47 : decode cX11_integer 47 = .ok (.iaload, 1) := by decide +kernel
theorem dX11_integer_48 : decode cX11_integer 48 = .ok (.iaload, 1) := by decide +kernel
theorem dX11_integer_49 : decode cX11_integer 49 = .ok (.ireturn, 1) := by decide +kernel
theorem dX11_isAhead_0 : decode cX11_isAhead 0 = .ok (.aload_n 0, 1) := by decide +kernel
theorem dX11_isAhead_1 : decode cX11_isAhead 1 = .ok (.getfield 97, 3) := by decide +kernel
theorem dX11_isAhead_4 : decode cX11_isAhead 4 = .ok (.iload_n 1, 1) := by decide +kernel
theorem dX11_isAhead_5 : decode cX11_isAhead 5 = .ok (.iaload, 1) := by decide +kernel
theorem dX11_isAhead_6 : decode cX11_isAhead 6 = .ok (.aload_n 0, 1) := by decide +kernel
theorem dX11_isAhead_7 : decode cX11_isAhead 7 = .ok (.getfield 97, 3) := by decide +kernel
theorem dX11_isAhead_10 : decode cX11_isAhead 10 = .ok (.iload_n 2, 1) := by decide +kernel
theorem dX11_isAhead_11 : decode cX11_isAhead 11 = .ok (.iaload, 1) := by decide +kernel
theorem dX11_isAhead_12 : decode cX11_isAhead 12 = .ok (.if_icmp .eq 24, 3) := by decide +kernel
theorem dX11_isAhead_15 : decode cX11_isAhead 15 = .ok (.aload_n 0, 1) := by decide +kernel
theorem dX11_isAhead_16 : decode cX11_isAhead 16 = .ok (.getfield 97, 3) := by decide +kernel
theorem dX11_isAhead_19 : decode cX11_isAhead 19 = .ok (.iload_n 1, 1) := by decide +kernel
theorem dX11_isAhead_20 : decode cX11_isAhead 20 = .ok (.iaload, 1) := by decide +kernel
theorem dX11_isAhead_21 : decode cX11_isAhead 21 = .ok (.aload_n 0, 1) := by decide +kernel
theorem dX11_isAhead_22 : decode cX11_isAhead 22 = .ok (.getfield 97, 3) := by decide +kernel
theorem dX11_isAhead_25 : decode cX11_isAhead 25 = .ok (.iload_n 2, 1) := by decide +kernel
theorem dX11_isAhead_26 : decode cX11_isAhead 26 = .ok (.iaload, 1) := by decide +kernel
theorem dX11_isAhead_27 : decode cX11_isAhead 27 = .ok (.if_icmp .ge 7, 3) := by decide +kernel
theorem dX11_isAhead_30 : decode cX11_isAhead 30 = .ok (.iconst 1, 1) := by decide +kernel
theorem dX11_isAhead_31 : decode cX11_isAhead 31 = .ok (.goto 4, 3) := by decide +kernel
theorem dX11_isAhead_34 : decode cX11_isAhead 34 = .ok (.iconst 0, 1) := by decide +kernel
theorem dX11_isAhead_35 : decode cX11_isAhead 35 = .ok (.ireturn, 1) := by decide +kernel
theorem dX11_isAhead_36 : decode cX11_isAhead 36 = .ok (.aload_n 0, 1) := by decide +kernel
theorem dX11_isAhead_37 : decode cX11_isAhead 37 = .ok (.iload_n 1, 1) := by decide +kernel
theorem dX11_isAhead_38 : decode cX11_isAhead 38 = .ok (.invokevirtual 240, 3) := by decide +kernel
theorem dX11_isAhead_41 : decode cX11_isAhead 41 = .ok (.iconst 0, 1) := by decide +kernel
theorem dX11_isAhead_42 : decode cX11_isAhead 42 = .ok (.istore_n 3, 1) := by decide +kernel
theorem dX11_isAhead_43 : decode cX11_isAhead 43 = .ok (.iload_n 3, 1) := by decide +kernel
theorem dX11_isAhead_44 : decode cX11_isAhead 44 = .ok (.aload_n 0, 1) := by decide +kernel
theorem dX11_isAhead_45 : decode cX11_isAhead 45 = .ok (.getfield 224, 3) := by decide +kernel
theorem dX11_isAhead_48 : decode cX11_isAhead 48 = .ok (.if_icmp .ge 21, 3) := by decide +kernel
theorem dX11_isAhead_51 : decode cX11_isAhead 51 = .ok (.aload_n 0, 1) := by decide +kernel
theorem dX11_isAhead_52 : decode cX11_isAhead 52 = .ok (.getfield 243, 3) := by decide +kernel
theorem dX11_isAhead_55 : decode cX11_isAhead 55 = .ok (.iload_n 3, 1) := by decide +kernel
theorem dX11_isAhead_56 : decode cX11_isAhead 56 = .ok (.aload_n 0, 1) := by decide +kernel
theorem dX11_isAhead_57 : decode cX11_isAhead 57 = .ok (.getfield 221, 3) := by decide +kernel
theorem dX11_isAhead_60 : decode cX11_isAhead 60 = .ok (.iload_n 3, 1) := by decide +kernel
theorem dX11_isAhead_61 : decode cX11_isAhead 61 = .ok (.iaload, 1) := by decide +kernel
theorem dX11_isAhead_62 : decode cX11_isAhead 62 = .ok (.iastore, 1) := by decide +kernel
theorem dX11_isAhead_63 : decode cX11_isAhead 63 = .ok (.iinc 3 1, 3) := by decide +kernel
theorem dX11_isAhead_66 : decode cX11_isAhead 66 = .ok (.goto (-23), 3) := by decide +kernel
theorem dX11_isAhead_69 : decode cX11_isAhead 69 = .ok (.aload_n 0, 1) := by decide +kernel
theorem dX11_isAhead_70 : decode cX11_isAhead 70 = .ok (.iload_n 2, 1) := by decide +kernel
theorem dX11_isAhead_71 : decode cX11_isAhead 71 = .ok (.invokevirtual 240, 3) := by decide +kernel
theorem dX11_isAhead_74 : decode cX11_isAhead 74 = .ok (.iconst 0, 1) := by decide +kernel
theorem dX11_isAhead_75 : decode cX11_isAhead 75 = .ok (.istore_n 3, 1) := by decide +kernel
theorem dX11_isAhead_76 : decode cX11_isAhead 76 = .ok (.iload_n 3, 1) := by decide +kernel
theorem dX11_isAhead_77 : decode cX11_isAhead 77 = .ok (.aload_n 0, 1) := by decide +kernel
theorem dX11_isAhead_78 : decode cX11_isAhead 78 = .ok (.getfield 224, 3) := by decide +kernel
theorem dX11_isAhead_81 : decode cX11_isAhead 81 = .ok (.if_icmp .ge 24, 3) := by decide +kernel
theorem dX11_isAhead_84 : decode cX11_isAhead 84 = .ok (.aload_n 0, 1) := by decide +kernel
theorem dX11_isAhead_85 : decode cX11_isAhead 85 = .ok (.getfield 243, 3) := by decide +kernel
theorem dX11_isAhead_88 : decode cX11_isAhead 88 = .ok (.iload_n 3, 1) := by decide +kernel
theorem dX11_isAhead_89 : decode cX11_isAhead 89 = .ok (.iaload, 1) := by decide +kernel
theorem dX11_isAhead_90 : decode cX11_isAhead 90 = .ok (.aload_n 0, 1) := by decide +kernel
theorem dX11_isAhead_91 : decode cX11_isAhead 91 = .ok (.getfield 221, 3) := by decide +kernel
theorem dX11_isAhead_94 : decode cX11_isAhead 94 = .ok (.iload_n 3, 1) := by decide +kernel
theorem dX11_isAhead_95 : decode cX11_isAhead 95 = .ok (.iaload, 1) := by decide +kernel
theorem dX11_isAhead_96 : decode cX11_isAhead 96 = .ok (.if_icmp .ne 9, 3) := by decide +kernel
theorem dX11_isAhead_99 : decode cX11_isAhead 99 = .ok (.iinc 3 1, 3) := by decide +kernel
theorem dX11_isAhead_102 : decode cX11_isAhead 102 = .ok (.goto (-26), 3) := by decide +kernel
theorem dX11_isAhead_105 : decode cX11_isAhead 105 = .ok (.iload_n 3, 1) := by decide +kernel
theorem dX11_isAhead_106 : decode cX11_isAhead 106 = .ok (.aload_n 0, 1) := by decide +kernel
theorem dX11_isAhead_107 : decode cX11_isAhead 107 = .ok (.getfield 224, 3) := by decide +kernel
theorem dX11_isAhead_110 : decode cX11_isAhead 110 = .ok (.if_icmp .ge 22, 3) := by decide +kernel
theorem dX11_isAhead_113 : decode cX11_isAhead 113 = .ok (.aload_n 0, 1) := by decide +kernel
theorem dX11_isAhead_114 : decode cX11_isAhead 114 = .ok (.getfield 243, 3) := by decide +kernel
theorem dX11_isAhead_117 : decode cX11_isAhead 117 = .ok (.iload_n 3, 1) := by decide +kernel
theorem dX11_isAhead_118 : decode cX11_isAhead 118 = .ok (.iaload, 1) := by decide +kernel
theorem dX11_isAhead_119 : decode cX11_isAhead 119 = .ok (.aload_n 0, 1) := by decide +kernel
theorem dX11_isAhead_120 : decode cX11_isAhead 120 = .ok (.getfield 221, 3) := by decide +kernel
theorem dX11_isAhead_123 : decode cX11_isAhead 123 = .ok (.iload_n 3, 1) := by decide +kernel
theorem dX11_isAhead_124 : decode cX11_isAhead 124 = .ok (.iaload, 1) := by decide +kernel
theorem dX11_isAhead_125 : decode cX11_isAhead 125 = .ok (.if_icmp .ge 7, 3) := by decide +kernel
theorem dX11_isAhead_128 : decode cX11_isAhead 128 = .ok (.iconst 1, 1) := by decide +kernel
theorem dX11_isAhead_129 : decode cX11_isAhead 129 = .ok (.goto 4, 3) := by decide +kernel
theorem dX11_isAhead_132 : decode cX11_isAhead 132 = .ok (.iconst 0, 1) := by decide +kernel
theorem dX11_isAhead_133 : decode cX11_isAhead 133 = .ok (.ireturn, 1) := by decide +kernel
theorem dX11_isAnyOver_0 : decode cX11_isAnyOver 0 = .ok (.iconst 0, 1) := by decide +kernel
theorem dX11_isAnyOver_1 : decode cX11_isAnyOver 1 = .ok (.istore 4, 2) := by decide +kernel
theorem dX11_isAnyOver_3 : decode cX11_isAnyOver 3 = .ok (.iload_n 1, 1) := by decide +kernel
theorem dX11_isAnyOver_4 : decode cX11_isAnyOver 4 = .ok (.istore 5, 2) := by decide +kernel
theorem dX11_isAnyOver_6 : decode cX11_isAnyOver 6 = .ok (.iload 5, 2) := by decide +kernel
theorem dX11_isAnyOver_8 : decode cX11_isAnyOver 8 = .ok (.iload_n 2, 1) := by decide +kernel
theorem dX11_isAnyOver_9 : decode cX11_isAnyOver 9 = .ok (.if_icmp .ge 28, 3) := by decide +kernel
theorem dX11_isAnyOver_12 : decode cX11_isAnyOver 12 = .ok (.iload 4, 2) := by decide +kernel
theorem dX11_isAnyOver_14 : decode cX11_isAnyOver 14 = .ok (.ifCond .ne 23, 3) := by decide +kernel
theorem dX11_isAnyOver_17 : decode cX11_isAnyOver 17 = .ok (.aload_n 0, 1) := by decide +kernel
theorem dX11_isAnyOver_18 : decode cX11_isAnyOver 18 = .ok (.iload_n 3, 1) := by decide +kernel
theorem dX11_isAnyOver_19 : decode cX11_isAnyOver 19 = .ok (.aload_n 0, 1) := by decide +kernel
theorem dX11_isAnyOver_20 : decode cX11_isAnyOver 20 = .ok (.getfield 172, 3) := by decide +kernel
theorem dX11_isAnyOver_23 : decode cX11_isAnyOver 23 = .ok (.iload 5, 2) := by decide +kernel
theorem dX11_isAnyOver_25 : decode cX11_isAnyOver 25 = .ok (.iaload, 1) := by decide +kernel
theorem dX11_isAnyOver_26 : decode cX11_isAnyOver 26 = .ok (.invokevirtual 114, 3) := by decide +kernel
theorem dX11_isAnyOver_29 : decode cX11_isAnyOver 29 = .ok (.istore 4, 2) := by decide +kernel
theorem dX11_isAnyOver_31 : decode cX11_isAnyOver 31 = .ok (.iinc 5 1, 3) := by decide +kernel
theorem dX11_isAnyOver_34 : decode cX11_isAnyOver 34 = .ok (.goto (-28), 3) := by decide +kernel
theorem dX11_isAnyOver_37 : decode cX11_isAnyOver 37 = .ok (.iload 4, 2) := by decide +kernel
theorem dX11_isAnyOver_39 : decode cX11_isAnyOver 39 = .ok (.ireturn, 1) := by decide +kernel
theorem dX11_isAnyUnder_0 : decode cX11_isAnyUnder 0 = .ok (.iconst 0, 1) := by decide +kernel
theorem dX11_isAnyUnder_1 : decode cX11_isAnyUnder 1 = .ok (.istore 4, 2) := by decide +kernel
theorem dX11_isAnyUnder_3 : decode cX11_isAnyUnder 3 = .ok (.iload_n 1, 1) := by decide +kernel
theorem dX11_isAnyUnder_4 : decode cX11_isAnyUnder 4 = .ok (.istore 5, 2) := by decide +kernel
theorem dX11_isAnyUnder_6 : decode cX11_isAnyUnder 6 = .ok (.iload 5, 2) := by decide +kernel
theorem dX11_isAnyUnder_8 : decode cX11_isAnyUnder 8 = .ok (.iload_n 2, 1) := by decide +kernel
theorem dX11_isAnyUnder_9 : decode cX11_isAnyUnder 9 = .ok (.if_icmp .ge 28, 3) := by decide +kernel
theorem dX11_isAnyUnder_12 : decode cX11_isAnyUnder 12 = .ok (.iload 4, 2) := by decide +kernel
theorem dX11_isAnyUnder_14 : decode cX11_isAnyUnder 14 = .ok (.ifCond .ne 23, 3) := by decide +kernel
theorem dX11_isAnyUnder_17 : decode cX11_isAnyUnder 17 = .ok (.aload_n 0, 1) := by decide +kernel
theorem dX11_isAnyUnder_18 : decode cX11_isAnyUnder 18 = .ok (.aload_n 0, 1) := by decide +kernel
theorem dX11_isAnyUnder_19 : decode cX11_isAnyUnder 19 = .ok (.getfield 172, 3) := by decide +kernel
theorem dX11_isAnyUnder_22 : decode cX11_isAnyUnder 22 = .ok (.iload 5, 2) := by decide +kernel
theorem dX11_isAnyUnder_24 : decode cX11_isAnyUnder 24 = .ok (.iaload, 1) := by decide +kernel
theorem dX11_isAnyUnder_25 : decode cX11_isAnyUnder 25 = .ok (.iload_n 3, 1) := by decide +kernel
theorem dX11_isAnyUnder_26 : decode cX11_isAnyUnder 26 = .ok (.invokevirtual 114, 3) := by decide +kernel
theorem dX11_isAnyUnder_29 : decode cX11_isAnyUnder 29 = .ok (.istore 4, 2) := by decide +kernel
theorem dX11_isAnyUnder_31 : decode cX11_isAnyUnder 31 = .ok (.iinc 5 1, 3) := by decide +kernel
theorem dX11_isAnyUnder_34 : decode cX11_isAnyUnder 34 = .ok (.goto (-28), 3) := by decide +kernel
theorem dX11_isAnyUnder_37 : decode cX11_isAnyUnder 37 = .ok (.iload 4, 2) := by decide +kernel
theorem dX11_isAnyUnder_39 : decode cX11_isAnyUnder 39 = .ok (.ireturn, 1) := by decide +kernel
theorem dX11_isAtHand_0 : decode cX11_isAtHand 0 = .ok (.aload_n 0, 1) := by decide +kernel
theorem dX11_isAtHand_1 : decode cX11_isAtHand 1 = .ok (.getfield 26, 3) := by decide +kernel
theorem dX11_isAtHand_4 : decode cX11_isAtHand 4 = .ok (.iload_n 1, 1) := by decide +kernel
theorem dX11_isAtHand_5 : decode cX11_isAtHand 5 = .ok (.iaload, 1) := by decide +kernel
theorem dX11_isAtHand_6 : decode cX11_isAtHand 6 = .ok (.aload_n 0, 1) := by decide +kernel
theorem dX11_isAtHand_7 : decode cX11_isAtHand 7 = .ok (.getfield 29, 3) := by decide +kernel
theorem dX11_isAtHand_10 : decode cX11_isAtHand 10 = .ok (.iload_n 1, 1) := by decide +kernel
theorem dX11_isAtHand_11 : decode cX11_isAtHand 11 = .ok (.iaload, 1) := by decide +kernel
theorem dX11_isAtHand_12 : decode cX11_isAtHand 12 = .ok (.isub, 1) := by decide +kernel
theorem dX11_isAtHand_13 : decode cX11_isAtHand 13 = .ok (.aload_n 0, 1) := by decide +kernel
theorem dX11_isAtHand_14 : decode cX11_isAtHand 14 = .ok (.getfield 9, 3) := by decide +kernel
theorem dX11_isAtHand_17 : decode cX11_isAtHand 17 = .ok (.if_icmp .ne 27, 3) := by decide +kernel
theorem dX11_isAtHand_20 : decode cX11_isAtHand 20 = .ok (.aload_n 0, 1) := by decide +kernel
theorem dX11_isAtHand_21 : decode cX11_isAtHand 21 = .ok (.getfield 32, 3) := by decide +kernel
theorem dX11_isAtHand_24 : decode cX11_isAtHand 24 = .ok (.iload_n 1, 1) := by decide +kernel
theorem dX11_isAtHand_25 : decode cX11_isAtHand 25 = .ok (.iaload, 1) := by decide +kernel
theorem dX11_isAtHand_26 : decode cX11_isAtHand 26 = .ok (.aload_n 0, 1) := by decide +kernel
theorem dX11_isAtHand_27 : decode cX11_isAtHand 27 = .ok (.getfield 26, 3) := by decide +kernel
theorem dX11_isAtHand_30 : decode cX11_isAtHand 30 = .ok (.iload_n 1, 1) := by decide +kernel
theorem dX11_isAtHand_31 : decode cX11_isAtHand 31 = .ok (.iaload, 1) := by decide +kernel
theorem dX11_isAtHand_32 : decode cX11_isAtHand 32 = .ok (.isub, 1) := by decide +kernel
theorem dX11_isAtHand_33 : decode cX11_isAtHand 33 = .ok (.aload_n 0, 1) := by decide +kernel
theorem dX11_isAtHand_34 : decode cX11_isAtHand 34 = .ok (.getfield 20, 3) := by decide +kernel
theorem dX11_isAtHand_37 : decode cX11_isAtHand 37 = .ok (.if_icmp .ne 7, 3) := by decide +kernel
theorem dX11_isAtHand_40 : decode cX11_isAtHand 40 = .ok (.iconst 1, 1) := by decide +kernel
theorem dX11_isAtHand_41 : decode cX11_isAtHand 41 = .ok (.goto 4, 3) := by decide +kernel
theorem dX11_isAtHand_44 : decode cX11_isAtHand 44 = .ok (.iconst 0, 1) := by decide +kernel
theorem dX11_isAtHand_45 : decode cX11_isAtHand 45 = .ok (.istore_n 2, 1) := by decide +kernel
theorem dX11_isAtHand_46 : decode cX11_isAtHand 46 = .ok (.iconst 0, 1) := by decide +kernel
theorem dX11_isAtHand_47 : decode cX11_isAtHand 47 = .ok (.istore_n 3, 1) := by decide +kernel
theorem dX11_isAtHand_48 : decode cX11_isAtHand 48 = .ok (.iload_n 3, 1) := by decide +kernel
theorem dX11_isAtHand_49 : decode cX11_isAtHand 49 = .ok (.aload_n 0, 1) := by decide +kernel
theorem dX11_isAtHand_50 : decode cX11_isAtHand 50 = .ok (.getfield 9, 3) := by decide +kernel
theorem dX11_isAtHand_53 : decode cX11_isAtHand 53 = .ok (.if_icmp .ge 39, 3) := by decide +kernel
theorem dX11_isAtHand_56 : decode cX11_isAtHand 56 = .ok (.iload_n 2, 1) := by decide +kernel
theorem dX11_isAtHand_57 : decode cX11_isAtHand 57 = .ok (.ifCond .eq 35, 3) := by decide +kernel
theorem dX11_isAtHand_60 : decode cX11_isAtHand 60 = .ok (.aload_n 0, 1) := by decide +kernel
theorem dX11_isAtHand_61 : decode cX11_isAtHand 61 = .ok (.getfield 35, 3) := by decide +kernel
theorem dX11_isAtHand_64 : decode cX11_isAtHand 64 = .ok (.aload_n 0, 1) := by decide +kernel
theorem dX11_isAtHand_65 : decode cX11_isAtHand 65 = .ok (.getfield 29, 3) := by decide +kernel
theorem dX11_isAtHand_68 : decode cX11_isAtHand 68 = .ok (.iload_n 1, 1) := by decide +kernel
theorem dX11_isAtHand_69 : decode cX11_isAtHand 69 = .ok (.iaload, 1) := by decide +kernel
theorem dX11_isAtHand_70 : decode cX11_isAtHand 70 = .ok (.aload_n 0, 1) := by decide +kernel
theorem dX11_isAtHand_71 : decode cX11_isAtHand 71 = .ok (.getfield 26, 3) := by decide +kernel
theorem dX11_isAtHand_74 : decode cX11_isAtHand 74 = .ok (.iload_n 1, 1) := by decide +kernel
theorem dX11_isAtHand_75 : decode cX11_isAtHand 75 = .ok (.iaload, 1) := by decide +kernel
theorem dX11_isAtHand_76 : decode cX11_isAtHand 76 = .ok (.aload_n 0, 1) := by decide +kernel
theorem dX11_isAtHand_77 : decode cX11_isAtHand 77 = .ok (.getfield 13, 3) := by decide +kernel
theorem dX11_isAtHand_80 : decode cX11_isAtHand 80 = .ok (.iload_n 3, 1) := by decide +kernel
theorem dX11_isAtHand_81 : decode cX11_isAtHand 81 = .ok (.iaload, 1) := by decide +kernel
theorem dX11_isAtHand_82 : decode cX11_isAtHand 82 = .ok (.invokestatic 38, 3) := by decide +kernel
theorem dX11_isAtHand_85 : decode cX11_isAtHand 85 = .ok (.istore_n 2, 1) := by decide +kernel
theorem dX11_isAtHand_86 : decode cX11_isAtHand 86 = .ok (.iinc 3 1, 3) := by decide +kernel
theorem dX11_isAtHand_89 : decode cX11_isAtHand 89 = .ok (.goto (-41), 3) := by decide +kernel
theorem dX11_isAtHand_92 : decode cX11_isAtHand 92 = .ok (.iconst 0, 1) := by decide +kernel
theorem dX11_isAtHand_93 : decode cX11_isAtHand 93 = .ok (.istore_n 3, 1) := by decide +kernel
theorem dX11_isAtHand_94 : decode cX11_isAtHand 94 = .ok (.iload_n 3, 1) := by decide +kernel
theorem dX11_isAtHand_95 : decode cX11_isAtHand 95 = .ok (.aload_n 0, 1) := by decide +kernel
theorem dX11_isAtHand_96 : decode cX11_isAtHand 96 = .ok (.getfield 20, 3) := by decide +kernel
theorem dX11_isAtHand_99 : decode cX11_isAtHand 99 = .ok (.if_icmp .ge 39, 3) := by decide +kernel
theorem dX11_isAtHand_102 : decode cX11_isAtHand 102 = .ok (.iload_n 2, 1) := by decide +kernel
theorem dX11_isAtHand_103 : decode cX11_isAtHand 103 = .ok (.ifCond .eq 35, 3) := by decide +kernel
theorem dX11_isAtHand_106 : decode cX11_isAtHand 106 = .ok (.aload_n 0, 1) := by decide +kernel
theorem dX11_isAtHand_107 : decode cX11_isAtHand 107 = .ok (.getfield 35, 3) := by decide +kernel
theorem dX11_isAtHand_110 : decode cX11_isAtHand 110 = .ok (.aload_n 0, 1) := by decide +kernel
theorem dX11_isAtHand_111 : decode cX11_isAtHand 111 = .ok (.getfield 26, 3) := by decide +kernel
theorem dX11_isAtHand_114 : decode cX11_isAtHand 114 = .ok (.iload_n 1, 1) := by decide +kernel
theorem dX11_isAtHand_115 : decode cX11_isAtHand 115 = .ok (.iaload, 1) := by decide +kernel
theorem dX11_isAtHand_116 : decode cX11_isAtHand 116 = .ok (.aload_n 0, 1) := by decide +kernel
theorem dX11_isAtHand_117 : decode cX11_isAtHand 117 = .ok (.getfield 32, 3) := by decide +kernel
theorem dX11_isAtHand_120 : decode cX11_isAtHand 120 = .ok (.iload_n 1, 1) := by decide +kernel
theorem dX11_isAtHand_121 : decode cX11_isAtHand 121 = .ok (.iaload, 1) := by decide +kernel
theorem dX11_isAtHand_122 : decode cX11_isAtHand 122 = .ok (.aload_n 0, 1) := by decide +kernel
theorem dX11_isAtHand_123 : decode cX11_isAtHand 123 = .ok (.getfield 23, 3) := by decide +kernel
theorem dX11_isAtHand_126 : decode cX11_isAtHand 126 = .ok (.iload_n 3, 1) := by decide +kernel
theorem dX11_isAtHand_127 : decode cX11_isAtHand 127 = .ok (.iaload, 1) := by decide +kernel
theorem dX11_isAtHand_128 : decode cX11_isAtHand 128 = .ok (.invokestatic 38, 3) := by decide +kernel
theorem dX11_isAtHand_131 : decode cX11_isAtHand 131 = .ok (.istore_n 2, 1) := by decide +kernel
theorem dX11_isAtHand_132 : decode cX11_isAtHand 132 = .ok (.iinc 3 1, 3) := by decide +kernel
theorem dX11_isAtHand_135 : decode cX11_isAtHand 135 = .ok (.goto (-41), 3) := by decide +kernel
theorem dX11_isAtHand_138 : decode cX11_isAtHand 138 = .ok (.iload_n 2, 1) := by decide +kernel
theorem dX11_isAtHand_139 : decode cX11_isAtHand 139 = .ok (.ireturn, 1) := by decide +kernel
theorem dX11_isAtMost_0 : decode cX11_isAtMost 0 = .ok (.iconst 1, 1) := by decide +kernel
theorem dX11_isAtMost_1 : decode cX11_isAtMost 1 = .ok (.istore_n 3, 1) := by decide +kernel
theorem dX11_isAtMost_2 : decode cX11_isAtMost 2 = .ok (.aload_n 0, 1) := by decide +kernel
theorem dX11_isAtMost_3 : decode cX11_isAtMost 3 = .ok (.getfield 29, 3) := by decide +kernel
theorem dX11_isAtMost_6 : decode cX11_isAtMost 6 = .ok (.iload_n 1, 1) := by decide +kernel
theorem dX11_isAtMost_7 : decode cX11_isAtMost 7 = .ok (.iaload, 1) := by decide +kernel
theorem dX11_isAtMost_8 : decode cX11_isAtMost 8 = .ok (.istore 4, 2) := by decide +kernel
theorem dX11_isAtMost_10 : decode cX11_isAtMost 10 = .ok (.iload 4, 2) := by decide +kernel
theorem dX11_isAtMost_12 : decode cX11_isAtMost 12 = .ok (.aload_n 0, 1) := by decide +kernel
theorem dX11_isAtMost_13 : decode cX11_isAtMost 13 = .ok (.getfield 26, 3) := by decide +kernel
theorem dX11_isAtMost_16 : decode cX11_isAtMost 16 = .ok (.iload_n 1, 1) := by decide +kernel
theorem dX11_isAtMost_17 : decode cX11_isAtMost 17 = .ok (.iaload, 1) := by decide +kernel
theorem dX11_isAtMost_18 : decode cX11_isAtMost 18 = .ok (.if_icmp .ge 34, 3) := by decide +kernel
theorem dX11_isAtMost_21 : decode cX11_isAtMost 21 = .ok (.iload_n 3, 1) := by decide +kernel
theorem dX11_isAtMost_22 : decode cX11_isAtMost 22 = .ok (.ifCond .eq 30, 3) := by decide +kernel
theorem dX11_isAtMost_25 : decode cX11_isAtMost 25 = .ok (.aload_n 0, 1) := by decide +kernel
theorem dX11_isAtMost_26 : decode cX11_isAtMost 26 = .ok (.iload_n 2, 1) := by decide +kernel
theorem dX11_isAtMost_27 : decode cX11_isAtMost 27 = .ok (.aload_n 0, 1) := by decide +kernel
theorem dX11_isAtMost_28 : decode cX11_isAtMost 28 = .ok (.getfield 35, 3) := by decide +kernel
theorem dX11_isAtMost_31 : decode cX11_isAtMost 31 = .ok (.iload 4, 2) := by decide +kernel
theorem dX11_isAtMost_33 : decode cX11_isAtMost 33 = .ok (.iaload, 1) := by decide +kernel
theorem dX11_isAtMost_34 : decode cX11_isAtMost 34 = .ok (.invokevirtual 114, 3) := by decide +kernel
theorem dX11_isAtMost_37 : decode cX11_isAtMost 37 = .ok (.ifCond .ne 7, 3) := by decide +kernel
theorem dX11_isAtMost_40 : decode cX11_isAtMost 40 = .ok (.iconst 1, 1) := by decide +kernel
theorem dX11_isAtMost_41 : decode cX11_isAtMost 41 = .ok (.goto 4, 3) := by decide +kernel
theorem dX11_isAtMost_44 : decode cX11_isAtMost 44 = .ok (.iconst 0, 1) := by decide +kernel
theorem dX11_isAtMost_45 : decode cX11_isAtMost 45 = .ok (.istore_n 3, 1) := by decide +kernel
theorem dX11_isAtMost_46 : decode cX11_isAtMost 46 = .ok (.iinc 4 1, 3) := by decide +kernel
theorem dX11_isAtMost_49 : decode cX11_isAtMost 49 = .ok (.goto (-39), 3) := by decide +kernel
theorem dX11_isAtMost_52 : decode cX11_isAtMost 52 = .ok (.aload_n 0, 1) := by decide +kernel
theorem dX11_isAtMost_53 : decode cX11_isAtMost 53 = .ok (.getfield 26, 3) := by decide +kernel
theorem dX11_isAtMost_56 : decode cX11_isAtMost 56 = .ok (.iload_n 2, 1) := by decide +kernel
theorem dX11_isAtMost_57 : decode cX11_isAtMost 57 = .ok (.iaload, 1) := by decide +kernel
theorem dX11_isAtMost_58 : decode cX11_isAtMost 58 = .ok (.istore 4, 2) := by decide +kernel
theorem dX11_isAtMost_60 : decode cX11_isAtMost 60 = .ok (.iload 4, 2) := by decide +kernel
theorem dX11_isAtMost_62 : decode cX11_isAtMost 62 = .ok (.aload_n 0, 1) := by decide +kernel
theorem dX11_isAtMost_63 : decode cX11_isAtMost 63 = .ok (.getfield 32, 3) := by decide +kernel
theorem dX11_isAtMost_66 : decode cX11_isAtMost 66 = .ok (.iload_n 2, 1) := by decide +kernel
theorem dX11_isAtMost_67 : decode cX11_isAtMost 67 = .ok (.iaload, 1) := by decide +kernel
theorem dX11_isAtMost_68 : decode cX11_isAtMost 68 = .ok (.if_icmp .ge 34, 3) := by decide +kernel
theorem dX11_isAtMost_71 : decode cX11_isAtMost 71 = .ok (.iload_n 3, 1) := by decide +kernel
theorem dX11_isAtMost_72 : decode cX11_isAtMost 72 = .ok (.ifCond .eq 30, 3) := by decide +kernel
theorem dX11_isAtMost_75 : decode cX11_isAtMost 75 = .ok (.aload_n 0, 1) := by decide +kernel
theorem dX11_isAtMost_76 : decode cX11_isAtMost 76 = .ok (.aload_n 0, 1) := by decide +kernel
theorem dX11_isAtMost_77 : decode cX11_isAtMost 77 = .ok (.getfield 35, 3) := by decide +kernel
theorem dX11_isAtMost_80 : decode cX11_isAtMost 80 = .ok (.iload 4, 2) := by decide +kernel
theorem dX11_isAtMost_82 : decode cX11_isAtMost 82 = .ok (.iaload, 1) := by decide +kernel
theorem dX11_isAtMost_83 : decode cX11_isAtMost 83 = .ok (.iload_n 1, 1) := by decide +kernel
theorem dX11_isAtMost_84 : decode cX11_isAtMost 84 = .ok (.invokevirtual 114, 3) := by decide +kernel
theorem dX11_isAtMost_87 : decode cX11_isAtMost 87 = .ok (.ifCond .ne 7, 3) := by decide +kernel
theorem dX11_isAtMost_90 : decode cX11_isAtMost 90 = .ok (.iconst 1, 1) := by decide +kernel
theorem dX11_isAtMost_91 : decode cX11_isAtMost 91 = .ok (.goto 4, 3) := by decide +kernel
theorem dX11_isAtMost_94 : decode cX11_isAtMost 94 = .ok (.iconst 0, 1) := by decide +kernel
theorem dX11_isAtMost_95 : decode cX11_isAtMost 95 = .ok (.istore_n 3, 1) := by decide +kernel
theorem dX11_isAtMost_96 : decode cX11_isAtMost 96 = .ok (.iinc 4 1, 3) := by decide +kernel
theorem dX11_isAtMost_99 : decode cX11_isAtMost 99 = .ok (.goto (-39), 3) := by decide +kernel
theorem dX11_isAtMost_102 : decode cX11_isAtMost 102 = .ok (.iload_n 3, 1) := by decide +kernel
theorem dX11_isAtMost_103 : decode cX11_isAtMost 103 = .ok (.ireturn, 1) := by decide +kernel
theorem dX11_isDigit_0 : decode cX11_isDigit 0 = .ok (.aload_n 0, 1) := by decide +kernel
theorem dX11_isDigit_1 : decode cX11_isDigit 1 = .ok (.invokevirtual 419, 3) := by decide +kernel
theorem dX11_isDigit_4 : decode cX11_isDigit 4 = .ok (.bipush 48, 2) := by decide +kernel
theorem dX11_isDigit_6 : decode cX11_isDigit 6 = .ok (.bipush 57, 2) := by decide +kernel
theorem dX11_isDigit_8 : decode cX11_isDigit 8 = .ok (.invokestatic 106, 3) := by decide +kernel
theorem dX11_isDigit_11 : decode cX11_isDigit 11 = .ok (.ireturn, 1) := by decide +kernel
theorem dX11_isOver_0 : decode cX11_isOver 0 = .ok (.aload_n 0, 1) := by decide +kernel
theorem dX11_isOver_1 : decode cX11_isOver 1 = .ok (.getfield 137, 3) := by decide +kernel
theorem dX11_isOver_4 : decode cX11_isOver 4 = .ok (.iload_n 1, 1) := by decide +kernel
theorem dX11_isOver_5 : decode cX11_isOver 5 = .ok (.iaload, 1) := by decide +kernel
theorem dX11_isOver_6 : decode cX11_isOver 6 = .ok (.iconst 2, 1) := by decide +kernel
theorem dX11_isOver_7 : decode cX11_isOver 7 = .ok (.idiv, 1) := by decide +kernel
theorem dX11_isOver_8 : decode cX11_isOver 8 = .ok (.aload_n 0, 1) := by decide +kernel
theorem dX11_isOver_9 : decode cX11_isOver 9 = .ok (.getfield 131, 3) := by decide +kernel
theorem dX11_isOver_12 : decode cX11_isOver 12 = .ok (.if_icmp .ne 21, 3) := by decide +kernel
theorem dX11_isOver_15 : decode cX11_isOver 15 = .ok (.aload_n 0, 1) := by decide +kernel
theorem dX11_isOver_16 : decode cX11_isOver 16 = .ok (.getfield 137, 3) := by decide +kernel
theorem dX11_isOver_19 : decode cX11_isOver 19 = .ok (.iload_n 1, 1) := by decide +kernel
theorem dX11_isOver_20 : decode cX11_isOver 20 = .ok (.iaload, 1) := by decide +kernel
theorem dX11_isOver_21 : decode cX11_isOver 21 = .ok (.iconst 2, 1) := by decide +kernel
theorem dX11_isOver_22 : decode cX11_isOver 22 = .ok (.irem, 1) := by decide +kernel
theorem dX11_isOver_23 : decode cX11_isOver 23 = .ok (.iconst 1, 1) := by decide +kernel
theorem dX11_isOver_24 : decode cX11_isOver 24 = .ok (.if_icmp .ne 7, 3) := by decide +kernel
theorem dX11_isOver_27 : decode cX11_isOver 27 = .ok (.iconst 1, 1) := by decide +kernel
theorem dX11_isOver_28 : decode cX11_isOver 28 = .ok (.goto 4, 3) := by decide +kernel
theorem dX11_isOver_31 : decode cX11_isOver 31 = .ok (.iconst 0, 1) := by decide +kernel
theorem dX11_isOver_32 : decode cX11_isOver 32 = .ok (.ireturn, 1) := by decide +kernel
theorem dX11_isOver_33 : decode cX11_isOver 33 = .ok (.iconst 1, 1) := by decide +kernel
theorem dX11_isOver_34 : decode cX11_isOver 34 = .ok (.istore_n 2, 1) := by decide +kernel
theorem dX11_isOver_35 : decode cX11_isOver 35 = .ok (.iconst 0, 1) := by decide +kernel
theorem dX11_isOver_36 : decode cX11_isOver 36 = .ok (.istore_n 3, 1) := by decide +kernel
theorem dX11_isOver_37 : decode cX11_isOver 37 = .ok (.iload_n 3, 1) := by decide +kernel
theorem dX11_isOver_38 : decode cX11_isOver 38 = .ok (.aload_n 0, 1) := by decide +kernel
theorem dX11_isOver_39 : decode cX11_isOver 39 = .ok (.getfield 9, 3) := by decide +kernel
theorem dX11_isOver_42 : decode cX11_isOver 42 = .ok (.if_icmp .ge 33, 3) := by decide +kernel
theorem dX11_isOver_45 : decode cX11_isOver 45 = .ok (.iload_n 2, 1) := by decide +kernel
theorem dX11_isOver_46 : decode cX11_isOver 46 = .ok (.ifCond .eq 29, 3) := by decide +kernel
theorem dX11_isOver_49 : decode cX11_isOver 49 = .ok (.aload_n 0, 1) := by decide +kernel
theorem dX11_isOver_50 : decode cX11_isOver 50 = .ok (.iload_n 1, 1) := by decide +kernel
theorem dX11_isOver_51 : decode cX11_isOver 51 = .ok (.aload_n 0, 1) := by decide +kernel
theorem dX11_isOver_52 : decode cX11_isOver 52 = .ok (.getfield 13, 3) := by decide +kernel
theorem dX11_isOver_55 : decode cX11_isOver 55 = .ok (.iload_n 3, 1) := by decide +kernel
theorem dX11_isOver_56 : decode cX11_isOver 56 = .ok (.iaload, 1) := by decide +kernel
theorem dX11_isOver_57 : decode cX11_isOver 57 = .ok (.invokevirtual 114, 3) := by decide +kernel
theorem dX11_isOver_60 : decode cX11_isOver 60 = .ok (.ifCond .ne 7, 3) := by decide +kernel
theorem dX11_isOver_63 : decode cX11_isOver 63 = .ok (.iconst 1, 1) := by decide +kernel
theorem dX11_isOver_64 : decode cX11_isOver 64 = .ok (.goto 4, 3) := by decide +kernel
theorem dX11_isOver_67 : decode cX11_isOver 67 = .ok (.iconst 0, 1) := by decide +kernel
theorem dX11_isOver_68 : decode cX11_isOver 68 = .ok (.istore_n 2, 1) := by decide +kernel
theorem dX11_isOver_69 : decode cX11_isOver 69 = .ok (.iinc 3 1, 3) := by decide +kernel
theorem dX11_isOver_72 : decode cX11_isOver 72 = .ok (.goto (-35), 3) := by decide +kernel
theorem dX11_isOver_75 : decode cX11_isOver 75 = .ok (.aload_n 0, 1) := by decide +kernel
theorem dX11_isOver_76 : decode cX11_isOver 76 = .ok (.getfield 26, 3) := by decide +kernel
theorem dX11_isOver_79 : decode cX11_isOver 79 = .ok (.iload_n 1, 1) := by decide +kernel
theorem dX11_isOver_80 : decode cX11_isOver 80 = .ok (.iaload, 1) := by decide +kernel
theorem dX11_isOver_81 : decode cX11_isOver 81 = .ok (.istore_n 3, 1) := by decide +kernel
theorem dX11_isOver_82 : decode cX11_isOver 82 = .ok (.iload_n 3, 1) := by decide +kernel
theorem dX11_isOver_83 : decode cX11_isOver 83 = .ok (.aload_n 0, 1) := by decide +kernel
theorem dX11_isOver_84 : decode cX11_isOver 84 = .ok (.getfield 32, 3) := by decide +kernel
theorem dX11_isOver_87 : decode cX11_isOver 87 = .ok (.iload_n 1, 1) := by decide +kernel
theorem dX11_isOver_88 : decode cX11_isOver 88 = .ok (.iaload, 1) := by decide +kernel
theorem dX11_isOver_89 : decode cX11_isOver 89 = .ok (.if_icmp .ge 32, 3) := by decide +kernel
theorem dX11_isOver_92 : decode cX11_isOver 92 = .ok (.iload_n 2, 1) := by decide +kernel
theorem dX11_isOver_93 : decode cX11_isOver 93 = .ok (.ifCond .eq 28, 3) := by decide +kernel
theorem dX11_isOver_96 : decode cX11_isOver 96 = .ok (.aload_n 0, 1) := by decide +kernel
theorem dX11_isOver_97 : decode cX11_isOver 97 = .ok (.aload_n 0, 1) := by decide +kernel
theorem dX11_isOver_98 : decode cX11_isOver 98 = .ok (.getfield 35, 3) := by decide +kernel
theorem dX11_isOver_101 : decode cX11_isOver 101 = .ok (.iload_n 3, 1) := by decide +kernel
theorem dX11_isOver_102 : decode cX11_isOver 102 = .ok (.iaload, 1) := by decide +kernel
theorem dX11_isOver_103 : decode cX11_isOver 103 = .ok (.invokevirtual 140, 3) := by decide +kernel
theorem dX11_isOver_106 : decode cX11_isOver 106 = .ok (.ifCond .ne 7, 3) := by decide +kernel
theorem dX11_isOver_109 : decode cX11_isOver 109 = .ok (.iconst 1, 1) := by decide +kernel
theorem dX11_isOver_110 : decode cX11_isOver 110 = .ok (.goto 4, 3) := by decide +kernel
theorem dX11_isOver_113 : decode cX11_isOver 113 = .ok (.iconst 0, 1) := by decide +kernel
theorem dX11_isOver_114 : decode cX11_isOver 114 = .ok (.istore_n 2, 1) := by decide +kernel
theorem dX11_isOver_115 : decode cX11_isOver 115 = .ok (.iinc 3 1, 3) := by decide +kernel
theorem dX11_isOver_118 : decode cX11_isOver 118 = .ok (.goto (-36), 3) := by decide +kernel
theorem dX11_isOver_121 : decode cX11_isOver 121 = .ok (.aload_n 0, 1) := by decide +kernel
theorem dX11_isOver_122 : decode cX11_isOver 122 = .ok (.getfield 137, 3) := by decide +kernel
theorem dX11_isOver_125 : decode cX11_isOver 125 = .ok (.iload_n 1, 1) := by decide +kernel
theorem dX11_isOver_126 : decode cX11_isOver 126 = .ok (.iconst 2, 1) := by decide +kernel
theorem dX11_isOver_127 : decode cX11_isOver 127 = .ok (.aload_n 0, 1) := by decide +kernel
theorem dX11_isOver_128 : decode cX11_isOver 128 = .ok (.getfield 131, 3) := by decide +kernel
theorem dX11_isOver_131 : decode cX11_isOver 131 = .ok (.imul, 1) := by decide +kernel
theorem dX11_isOver_132 : decode cX11_isOver 132 = .ok (.iload_n 2, 1) := by decide +kernel
theorem dX11_isOver_133 : decode cX11_isOver 133 = .ok (.ifCond .eq 7, 3) := by decide +kernel
theorem dX11_isOver_136 : decode cX11_isOver 136 = .ok (.iconst 1, 1) := by decide +kernel
theorem dX11_isOver_137 : decode cX11_isOver 137 = .ok (.goto 4, 3) := by decide +kernel
theorem dX11_isOver_140 : decode cX11_isOver 140 = .ok (.iconst 0, 1) := by decide +kernel
theorem dX11_isOver_141 : decode cX11_isOver 141 = .ok (.iadd, 1) := by decide +kernel
theorem dX11_isOver_142 : decode cX11_isOver 142 = .ok (.iastore, 1) := by decide +kernel
theorem dX11_isOver_143 : decode cX11_isOver 143 = .ok (.iload_n 2, 1) := by decide +kernel
theorem dX11_isOver_144 : decode cX11_isOver 144 = .ok (.ireturn, 1) := by decide +kernel
theorem dX11_isSheet_0 : decode cX11_isSheet 0 = .ok (.iload_n 0, 1) := by decide +kernel
theorem dX11_isSheet_1 : decode cX11_isSheet 1 = .ok (.iconst 0, 1) := by decide +kernel
theorem dX11_isSheet_2 : decode cX11_isSheet 2 = .ok (.iconst 3, 1) := by decide +kernel
theorem dX11_isSheet_3 : decode cX11_isSheet 3 = .ok (.invokestatic 106, 3) := by decide +kernel
theorem dX11_isSheet_6 : decode cX11_isSheet 6 = .ok (.ireturn, 1) := by decide +kernel
theorem dX11_isSlot_0 : decode cX11_isSlot 0 = .ok (.iload_n 0, 1) := by decide +kernel
theorem dX11_isSlot_1 : decode cX11_isSlot 1 = .ok (.iconst 0, 1) := by decide +kernel
theorem dX11_isSlot_2 : decode cX11_isSlot 2 = .ok (.bipush 7, 2) := by decide +kernel
theorem dX11_isSlot_4 : decode cX11_isSlot 4 = .ok (.invokestatic 106, 3) := by decide +kernel
theorem dX11_isSlot_7 : decode cX11_isSlot 7 = .ok (.ireturn, 1) := by decide +kernel
theorem dX11_isSmallAt_0 : decode cX11_isSmallAt 0 = .ok (.aload_n 0, 1) := by decide +kernel
theorem dX11_isSmallAt_1 : decode cX11_isSmallAt 1 = .ok (.getfield 32, 3) := by decide +kernel
theorem dX11_isSmallAt_4 : decode cX11_isSmallAt 4 = .ok (.iload_n 1, 1) := by decide +kernel
theorem dX11_isSmallAt_5 : decode cX11_isSmallAt 5 = .ok (.iaload, 1) := by decide +kernel
theorem dX11_isSmallAt_6 : decode cX11_isSmallAt 6 = .ok (.aload_n 0, 1) := by decide +kernel
theorem dX11_isSmallAt_7 : decode cX11_isSmallAt 7 = .ok (.getfield 29, 3) := by decide +kernel
theorem dX11_isSmallAt_10 : decode cX11_isSmallAt 10 = .ok (.iload_n 1, 1) := by decide +kernel
theorem dX11_isSmallAt_11 : decode cX11_isSmallAt 11 = .ok (.iaload, 1) := by decide +kernel
theorem dX11_isSmallAt_12 : decode cX11_isSmallAt 12 = .ok (.if_icmp .eq 33, 3) := by decide +kernel
theorem dX11_isSmallAt_15 : decode cX11_isSmallAt 15 = .ok (.aload_n 0, 1) := by decide +kernel
theorem dX11_isSmallAt_16 : decode cX11_isSmallAt 16 = .ok (.getfield 26, 3) := by decide +kernel
theorem dX11_isSmallAt_19 : decode cX11_isSmallAt 19 = .ok (.iload_n 1, 1) := by decide +kernel
theorem dX11_isSmallAt_20 : decode cX11_isSmallAt 20 = .ok (.iaload, 1) := by decide +kernel
theorem dX11_isSmallAt_21 : decode cX11_isSmallAt 21 = .ok (.aload_n 0, 1) := by decide +kernel
theorem dX11_isSmallAt_22 : decode cX11_isSmallAt 22 = .ok (.getfield 29, 3) := by decide +kernel
theorem dX11_isSmallAt_25 : decode cX11_isSmallAt 25 = .ok (.iload_n 1, 1) := by decide +kernel
theorem dX11_isSmallAt_26 : decode cX11_isSmallAt 26 = .ok (.iaload, 1) := by decide +kernel
theorem dX11_isSmallAt_27 : decode cX11_isSmallAt 27 = .ok (.if_icmp .le 22, 3) := by decide +kernel
theorem dX11_isSmallAt_30 : decode cX11_isSmallAt 30 = .ok (.aload_n 0, 1) := by decide +kernel
theorem dX11_isSmallAt_31 : decode cX11_isSmallAt 31 = .ok (.getfield 32, 3) := by decide +kernel
theorem dX11_isSmallAt_34 : decode cX11_isSmallAt 34 = .ok (.iload_n 1, 1) := by decide +kernel
theorem dX11_isSmallAt_35 : decode cX11_isSmallAt 35 = .ok (.iaload, 1) := by decide +kernel
theorem dX11_isSmallAt_36 : decode cX11_isSmallAt 36 = .ok (.aload_n 0, 1) := by decide +kernel
theorem dX11_isSmallAt_37 : decode cX11_isSmallAt 37 = .ok (.getfield 26, 3) := by decide +kernel
theorem dX11_isSmallAt_40 : decode cX11_isSmallAt 40 = .ok (.iload_n 1, 1) := by decide +kernel
theorem dX11_isSmallAt_41 : decode cX11_isSmallAt 41 = .ok (.iaload, 1) := by decide +kernel
theorem dX11_isSmallAt_42 : decode cX11_isSmallAt 42 = .ok (.if_icmp .le 7, 3) := by decide +kernel
theorem dX11_isSmallAt_45 : decode cX11_isSmallAt 45 = .ok (.iconst 1, 1) := by decide +kernel
theorem dX11_isSmallAt_46 : decode cX11_isSmallAt 46 = .ok (.goto 4, 3) := by decide +kernel
theorem dX11_isSmallAt_49 : decode cX11_isSmallAt 49 = .ok (.iconst 0, 1) := by decide +kernel
theorem dX11_isSmallAt_50 : decode cX11_isSmallAt 50 = .ok (.istore_n 2, 1) := by decide +kernel
theorem dX11_isSmallAt_51 : decode cX11_isSmallAt 51 = .ok (.aload_n 0, 1) := by decide +kernel
theorem dX11_isSmallAt_52 : decode cX11_isSmallAt 52 = .ok (.getfield 29, 3) := by decide +kernel
theorem dX11_isSmallAt_55 : decode cX11_isSmallAt 55 = .ok (.iload_n 1, 1) := by decide +kernel
theorem dX11_isSmallAt_56 : decode cX11_isSmallAt 56 = .ok (.iaload, 1) := by decide +kernel
theorem dX11_isSmallAt_57 : decode cX11_isSmallAt 57 = .ok (.istore_n 3, 1) := by decide +kernel
theorem dX11_isSmallAt_58 : decode cX11_isSmallAt 58 = .ok (.iload_n 3, 1) := by decide +kernel
theorem dX11_isSmallAt_59 : decode cX11_isSmallAt 59 = .ok (.aload_n 0, 1) := by decide +kernel
theorem dX11_isSmallAt_60 : decode cX11_isSmallAt 60 = .ok (.getfield 32, 3) := by decide +kernel
theorem dX11_isSmallAt_63 : decode cX11_isSmallAt 63 = .ok (.iload_n 1, 1) := by decide +kernel
theorem dX11_isSmallAt_64 : decode cX11_isSmallAt 64 = .ok (.iaload, 1) := by decide +kernel
theorem dX11_isSmallAt_65 : decode cX11_isSmallAt 65 = .ok (.if_icmp .ge 25, 3) := by decide +kernel
theorem dX11_isSmallAt_68 : decode cX11_isSmallAt 68 = .ok (.iload_n 2, 1) := by decide +kernel
theorem dX11_isSmallAt_69 : decode cX11_isSmallAt 69 = .ok (.ifCond .eq 21, 3) := by decide +kernel
theorem dX11_isSmallAt_72 : decode cX11_isSmallAt 72 = .ok (.aload_n 0, 1) := by decide +kernel
theorem dX11_isSmallAt_73 : decode cX11_isSmallAt 73 = .ok (.getfield 91, 3) := by decide +kernel
theorem dX11_isSmallAt_76 : decode cX11_isSmallAt 76 = .ok (.aload_n 0, 1) := by decide +kernel
theorem dX11_isSmallAt_77 : decode cX11_isSmallAt 77 = .ok (.getfield 35, 3) := by decide +kernel
theorem dX11_isSmallAt_80 : decode cX11_isSmallAt 80 = .ok (.iload_n 3, 1) := by decide +kernel
theorem dX11_isSmallAt_81 : decode cX11_isSmallAt 81 = .ok (.iaload, 1) := by decide +kernel
theorem dX11_isSmallAt_82 : decode cX11_isSmallAt 82 = .ok (.baload, 1) := by decide +kernel
theorem dX11_isSmallAt_83 : decode cX11_isSmallAt 83 = .ok (.istore_n 2, 1) := by decide +kernel
theorem dX11_isSmallAt_84 : decode cX11_isSmallAt 84 = .ok (.iinc 3 1, 3) := by decide +kernel
theorem dX11_isSmallAt_87 : decode cX11_isSmallAt 87 = .ok (.goto (-29), 3) := by decide +kernel
theorem dX11_isSmallAt_90 : decode cX11_isSmallAt 90 = .ok (.iload_n 2, 1) := by decide +kernel
theorem dX11_isSmallAt_91 : decode cX11_isSmallAt 91 = .ok (.ireturn, 1) := by decide +kernel
theorem dX11_isUnder_0 : decode cX11_isUnder 0 = .ok (.aload_n 0, 1) := by decide +kernel
theorem dX11_isUnder_1 : decode cX11_isUnder 1 = .ok (.getfield 128, 3) := by decide +kernel
theorem dX11_isUnder_4 : decode cX11_isUnder 4 = .ok (.iload_n 1, 1) := by decide +kernel
theorem dX11_isUnder_5 : decode cX11_isUnder 5 = .ok (.iaload, 1) := by decide +kernel
theorem dX11_isUnder_6 : decode cX11_isUnder 6 = .ok (.iconst 2, 1) := by decide +kernel
theorem dX11_isUnder_7 : decode cX11_isUnder 7 = .ok (.idiv, 1) := by decide +kernel
theorem dX11_isUnder_8 : decode cX11_isUnder 8 = .ok (.aload_n 0, 1) := by decide +kernel
theorem dX11_isUnder_9 : decode cX11_isUnder 9 = .ok (.getfield 131, 3) := by decide +kernel
theorem dX11_isUnder_12 : decode cX11_isUnder 12 = .ok (.if_icmp .ne 21, 3) := by decide +kernel
theorem dX11_isUnder_15 : decode cX11_isUnder 15 = .ok (.aload_n 0, 1) := by decide +kernel
theorem dX11_isUnder_16 : decode cX11_isUnder 16 = .ok (.getfield 128, 3) := by decide +kernel
theorem dX11_isUnder_19 : decode cX11_isUnder 19 = .ok (.iload_n 1, 1) := by decide +kernel
theorem dX11_isUnder_20 : decode cX11_isUnder 20 = .ok (.iaload, 1) := by decide +kernel
theorem dX11_isUnder_21 : decode cX11_isUnder 21 = .ok (.iconst 2, 1) := by decide +kernel
theorem dX11_isUnder_22 : decode cX11_isUnder 22 = .ok (.irem, 1) := by decide +kernel
theorem dX11_isUnder_23 : decode cX11_isUnder 23 = .ok (.iconst 1, 1) := by decide +kernel
theorem dX11_isUnder_24 : decode cX11_isUnder 24 = .ok (.if_icmp .ne 7, 3) := by decide +kernel
theorem dX11_isUnder_27 : decode cX11_isUnder 27 = .ok (.iconst 1, 1) := by decide +kernel
theorem dX11_isUnder_28 : decode cX11_isUnder 28 = .ok (.goto 4, 3) := by decide +kernel
theorem dX11_isUnder_31 : decode cX11_isUnder 31 = .ok (.iconst 0, 1) := by decide +kernel
theorem dX11_isUnder_32 : decode cX11_isUnder 32 = .ok (.ireturn, 1) := by decide +kernel
theorem dX11_isUnder_33 : decode cX11_isUnder 33 = .ok (.iconst 1, 1) := by decide +kernel
theorem dX11_isUnder_34 : decode cX11_isUnder 34 = .ok (.istore_n 2, 1) := by decide +kernel
theorem dX11_isUnder_35 : decode cX11_isUnder 35 = .ok (.aload_n 0, 1) := by decide +kernel
theorem dX11_isUnder_36 : decode cX11_isUnder 36 = .ok (.getfield 29, 3) := by decide +kernel
theorem dX11_isUnder_39 : decode cX11_isUnder 39 = .ok (.iload_n 1, 1) := by decide +kernel
theorem dX11_isUnder_40 : decode cX11_isUnder 40 = .ok (.iaload, 1) := by decide +kernel
theorem dX11_isUnder_41 : decode cX11_isUnder 41 = .ok (.istore_n 3, 1) := by decide +kernel
theorem dX11_isUnder_42 : decode cX11_isUnder 42 = .ok (.iload_n 3, 1) := by decide +kernel
theorem dX11_isUnder_43 : decode cX11_isUnder 43 = .ok (.aload_n 0, 1) := by decide +kernel
theorem dX11_isUnder_44 : decode cX11_isUnder 44 = .ok (.getfield 26, 3) := by decide +kernel
theorem dX11_isUnder_47 : decode cX11_isUnder 47 = .ok (.iload_n 1, 1) := by decide +kernel
theorem dX11_isUnder_48 : decode cX11_isUnder 48 = .ok (.iaload, 1) := by decide +kernel
theorem dX11_isUnder_49 : decode cX11_isUnder 49 = .ok (.if_icmp .ge 32, 3) := by decide +kernel
theorem dX11_isUnder_52 : decode cX11_isUnder 52 = .ok (.iload_n 2, 1) := by decide +kernel
theorem dX11_isUnder_53 : decode cX11_isUnder 53 = .ok (.ifCond .eq 28, 3) := by decide +kernel
theorem dX11_isUnder_56 : decode cX11_isUnder 56 = .ok (.aload_n 0, 1) := by decide +kernel
theorem dX11_isUnder_57 : decode cX11_isUnder 57 = .ok (.aload_n 0, 1) := by decide +kernel
theorem dX11_isUnder_58 : decode cX11_isUnder 58 = .ok (.getfield 35, 3) := by decide +kernel
theorem dX11_isUnder_61 : decode cX11_isUnder 61 = .ok (.iload_n 3, 1) := by decide +kernel
theorem dX11_isUnder_62 : decode cX11_isUnder 62 = .ok (.iaload, 1) := by decide +kernel
theorem dX11_isUnder_63 : decode cX11_isUnder 63 = .ok (.invokevirtual 134, 3) := by decide +kernel
theorem dX11_isUnder_66 : decode cX11_isUnder 66 = .ok (.ifCond .ne 7, 3) := by decide +kernel
theorem dX11_isUnder_69 : decode cX11_isUnder 69 = .ok (.iconst 1, 1) := by decide +kernel
theorem dX11_isUnder_70 : decode cX11_isUnder 70 = .ok (.goto 4, 3) := by decide +kernel
theorem dX11_isUnder_73 : decode cX11_isUnder 73 = .ok (.iconst 0, 1) := by decide +kernel
theorem dX11_isUnder_74 : decode cX11_isUnder 74 = .ok (.istore_n 2, 1) := by decide +kernel
theorem dX11_isUnder_75 : decode cX11_isUnder 75 = .ok (.iinc 3 1, 3) := by decide +kernel
theorem dX11_isUnder_78 : decode cX11_isUnder 78 = .ok (.goto (-36), 3) := by decide +kernel
theorem dX11_isUnder_81 : decode cX11_isUnder 81 = .ok (.iconst 0, 1) := by decide +kernel
theorem dX11_isUnder_82 : decode cX11_isUnder 82 = .ok (.istore_n 3, 1) := by decide +kernel
theorem dX11_isUnder_83 : decode cX11_isUnder 83 = .ok (.iload_n 3, 1) := by decide +kernel
theorem dX11_isUnder_84 : decode cX11_isUnder 84 = .ok (.aload_n 0, 1) := by decide +kernel
theorem dX11_isUnder_85 : decode cX11_isUnder 85 = .ok (.getfield 20, 3) := by decide +kernel
theorem dX11_isUnder_88 : decode cX11_isUnder 88 = .ok (.if_icmp .ge 33, 3) := by decide +kernel
theorem dX11_isUnder_91 : decode cX11_isUnder 91 = .ok (.iload_n 2, 1) := by decide +kernel
theorem dX11_isUnder_92 : decode cX11_isUnder 92 = .ok (.ifCond .eq 29, 3) := by decide +kernel
theorem dX11_isUnder_95 : decode cX11_isUnder 95 = .ok (.aload_n 0, 1) := by decide +kernel
theorem dX11_isUnder_96 : decode cX11_isUnder 96 = .ok (.aload_n 0, 1) := by decide +kernel
theorem dX11_isUnder_97 : decode cX11_isUnder 97 = .ok (.getfield 23, 3) := by decide +kernel
theorem dX11_isUnder_100 : decode cX11_isUnder 100 = .ok (.iload_n 3, 1) := by decide +kernel
theorem dX11_isUnder_101 : decode cX11_isUnder 101 = .ok (.iaload, 1) := by decide +kernel
theorem dX11_isUnder_102 : decode cX11_isUnder 102 = .ok (.iload_n 1, 1) := by decide +kernel
theorem dX11_isUnder_103 : decode cX11_isUnder 103 = .ok (.invokevirtual 114, 3) := by decide +kernel
theorem dX11_isUnder_106 : decode cX11_isUnder 106 = .ok (.ifCond .ne 7, 3) := by decide +kernel
theorem dX11_isUnder_109 : decode cX11_isUnder 109 = .ok (.iconst 1, 1) := by decide +kernel
theorem dX11_isUnder_110 : decode cX11_isUnder 110 = .ok (.goto 4, 3) := by decide +kernel
theorem dX11_isUnder_113 : decode cX11_isUnder 113 = .ok (.iconst 0, 1) := by decide +kernel
theorem dX11_isUnder_114 : decode cX11_isUnder 114 = .ok (.istore_n 2, 1) := by decide +kernel
theorem dX11_isUnder_115 : decode cX11_isUnder 115 = .ok (.iinc 3 1, 3) := by decide +kernel
theorem dX11_isUnder_118 : decode cX11_isUnder 118 = .ok (.goto (-35), 3) := by decide +kernel
theorem dX11_isUnder_121 : decode cX11_isUnder 121 = .ok (.aload_n 0, 1) := by decide +kernel
theorem dX11_isUnder_122 : decode cX11_isUnder 122 = .ok (.getfield 128, 3) := by decide +kernel
theorem dX11_isUnder_125 : decode cX11_isUnder 125 = .ok (.iload_n 1, 1) := by decide +kernel
theorem dX11_isUnder_126 : decode cX11_isUnder 126 = .ok (.iconst 2, 1) := by decide +kernel
theorem dX11_isUnder_127 : decode cX11_isUnder 127 = .ok (.aload_n 0, 1) := by decide +kernel
theorem dX11_isUnder_128 : decode cX11_isUnder 128 = .ok (.getfield 131, 3) := by decide +kernel
theorem dX11_isUnder_131 : decode cX11_isUnder 131 = .ok (.imul, 1) := by decide +kernel
theorem dX11_isUnder_132 : decode cX11_isUnder 132 = .ok (.iload_n 2, 1) := by decide +kernel
theorem dX11_isUnder_133 : decode cX11_isUnder 133 = .ok (.ifCond .eq 7, 3) := by decide +kernel
theorem dX11_isUnder_136 : decode cX11_isUnder 136 = .ok (.iconst 1, 1) := by decide +kernel
theorem dX11_isUnder_137 : decode cX11_isUnder 137 = .ok (.goto 4, 3) := by decide +kernel
theorem dX11_isUnder_140 : decode cX11_isUnder 140 = .ok (.iconst 0, 1) := by decide +kernel
theorem dX11_isUnder_141 : decode cX11_isUnder 141 = .ok (.iadd, 1) := by decide +kernel
theorem dX11_isUnder_142 : decode cX11_isUnder 142 = .ok (.iastore, 1) := by decide +kernel
theorem dX11_isUnder_143 : decode cX11_isUnder 143 = .ok (.iload_n 2, 1) := by decide +kernel
theorem dX11_isUnder_144 : decode cX11_isUnder 144 = .ok (.ireturn, 1) := by decide +kernel
theorem dX11_isWho_0 : decode cX11_isWho 0 = .ok (.iload_n 0, 1) := by decide +kernel
theorem dX11_isWho_1 : decode cX11_isWho 1 = .ok (.iconst 0, 1) := by decide +kernel
theorem dX11_isWho_2 : decode cX11_isWho 2 = .ok (.iconst 1, 1) := by decide +kernel
theorem dX11_isWho_3 : decode cX11_isWho 3 = .ok (.invokestatic 106, 3) := by decide +kernel
theorem dX11_isWho_6 : decode cX11_isWho 6 = .ok (.ireturn, 1) := by decide +kernel
theorem dX11_isWorse_0 : decode cX11_isWorse 0 = .ok (.iconst 0, 1) := by decide +kernel
theorem dX11_isWorse_1 : decode cX11_isWorse 1 = .ok (.istore 5, 2) := by decide +kernel
theorem dX11_isWorse_3 : decode cX11_isWorse 3 = .ok (.iconst 0, 1) := by decide +kernel
theorem dX11_isWorse_4 : decode cX11_isWorse 4 = .ok (.istore 6, 2) := by decide +kernel
theorem dX11_isWorse_6 : decode cX11_isWorse 6 = .ok (.iload 6, 2) := by decide +kernel
theorem dX11_isWorse_8 : decode cX11_isWorse 8 = .ok (.iload_n 2, 1) := by decide +kernel
theorem dX11_isWorse_9 : decode cX11_isWorse 9 = .ok (.if_icmp .ge 63, 3) := by decide +kernel
theorem dX11_isWorse_12 : decode cX11_isWorse 12 = .ok (.iload 5, 2) := by decide +kernel
theorem dX11_isWorse_14 : decode cX11_isWorse 14 = .ok (.ifCond .ne 58, 3) := by decide +kernel
theorem dX11_isWorse_17 : decode cX11_isWorse 17 = .ok (.iload 6, 2) := by decide +kernel
theorem dX11_isWorse_19 : decode cX11_isWorse 19 = .ok (.iload_n 3, 1) := by decide +kernel
theorem dX11_isWorse_20 : decode cX11_isWorse 20 = .ok (.if_icmp .eq 43, 3) := by decide +kernel
theorem dX11_isWorse_23 : decode cX11_isWorse 23 = .ok (.iload 4, 2) := by decide +kernel
theorem dX11_isWorse_25 : decode cX11_isWorse 25 = .ok (.ifCond .eq 20, 3) := by decide +kernel
theorem dX11_isWorse_28 : decode cX11_isWorse 28 = .ok (.aload_n 0, 1) := by decide +kernel
theorem dX11_isWorse_29 : decode cX11_isWorse 29 = .ok (.aload_n 1, 1) := by decide +kernel
theorem dX11_isWorse_30 : decode cX11_isWorse 30 = .ok (.iload_n 3, 1) := by decide +kernel
theorem dX11_isWorse_31 : decode cX11_isWorse 31 = .ok (.iaload, 1) := by decide +kernel
theorem dX11_isWorse_32 : decode cX11_isWorse 32 = .ok (.aload_n 1, 1) := by decide +kernel
theorem dX11_isWorse_33 : decode cX11_isWorse 33 = .ok (.iload 6, 2) := by decide +kernel
theorem dX11_isWorse_35 : decode cX11_isWorse 35 = .ok (.iaload, 1) := by decide +kernel
theorem dX11_isWorse_36 : decode cX11_isWorse 36 = .ok (.invokevirtual 114, 3) := by decide +kernel
theorem dX11_isWorse_39 : decode cX11_isWorse 39 = .ok (.ifCond .eq 24, 3) := by decide +kernel
theorem dX11_isWorse_42 : decode cX11_isWorse 42 = .ok (.goto 17, 3) := by decide +kernel
theorem dX11_isWorse_45 : decode cX11_isWorse 45 = .ok (.aload_n 0, 1) := by decide +kernel
theorem dX11_isWorse_46 : decode cX11_isWorse 46 = .ok (.aload_n 1, 1) := by decide +kernel
theorem dX11_isWorse_47 : decode cX11_isWorse 47 = .ok (.iload 6, 2) := by decide +kernel
theorem dX11_isWorse_49 : decode cX11_isWorse 49 = .ok (.iaload, 1) := by decide +kernel
theorem dX11_isWorse_50 : decode cX11_isWorse 50 = .ok (.aload_n 1, 1) := by decide +kernel
theorem dX11_isWorse_51 : decode cX11_isWorse 51 = .ok (.iload_n 3, 1) := by decide +kernel
theorem dX11_isWorse_52 : decode cX11_isWorse 52 = .ok (.iaload, 1) := by decide +kernel
theorem dX11_isWorse_53 : decode cX11_isWorse 53 = .ok (.invokevirtual 114, 3) := by decide +kernel
theorem dX11_isWorse_56 : decode cX11_isWorse 56 = .ok (.ifCond .eq 7, 3) := by decide +kernel
theorem dX11_isWorse_59 : decode cX11_isWorse 59 = .ok (.iconst 1, 1) := by decide +kernel
theorem dX11_isWorse_60 : decode cX11_isWorse 60 = .ok (.goto 4, 3) := by decide +kernel
theorem dX11_isWorse_63 : decode cX11_isWorse 63 = .ok (.iconst 0, 1) := by decide +kernel
theorem dX11_isWorse_64 : decode cX11_isWorse 64 = .ok (.istore 5, 2) := by decide +kernel
theorem dX11_isWorse_66 : decode cX11_isWorse 66 = .ok (.iinc 6 1, 3) := by decide +kernel
theorem dX11_isWorse_69 : decode cX11_isWorse 69 = .ok (.goto (-63), 3) := by decide +kernel
theorem dX11_isWorse_72 : decode cX11_isWorse 72 = .ok (.iload 5, 2) := by decide +kernel
theorem dX11_isWorse_74 : decode cX11_isWorse 74 = .ok (.ireturn, 1) := by decide +kernel
theorem dX11_leftBack_0 : decode cX11_leftBack 0 = .ok (.aload_n 0, 1) := by decide +kernel
theorem dX11_leftBack_1 : decode cX11_leftBack 1 = .ok (.getfield 26, 3) := by decide +kernel
theorem dX11_leftBack_4 : decode cX11_leftBack 4 = .ok (.iload_n 1, 1) := by decide +kernel
theorem dX11_leftBack_5 : decode cX11_leftBack 5 = .ok (.iaload, 1) := by decide +kernel
theorem dX11_leftBack_6 : decode cX11_leftBack 6 = .ok (.istore_n 2, 1) := by decide +kernel
theorem dX11_leftBack_7 : decode cX11_leftBack 7 = .ok (.iload_n 2, 1) := by decide +kernel
theorem dX11_leftBack_8 : decode cX11_leftBack 8 = .ok (.aload_n 0, 1) := by decide +kernel
theorem dX11_leftBack_9 : decode cX11_leftBack 9 = .ok (.getfield 32, 3) := by decide +kernel
theorem dX11_leftBack_12 : decode cX11_leftBack 12 = .ok (.iload_n 1, 1) := by decide +kernel
theorem dX11_leftBack_13 : decode cX11_leftBack 13 = .ok (.iaload, 1) := by decide +kernel
theorem dX11_leftBack_14 : decode cX11_leftBack 14 = .ok (.if_icmp .ge 29, 3) := by decide +kernel
theorem dX11_leftBack_17 : decode cX11_leftBack 17 = .ok (.aload_n 0, 1) := by decide +kernel
theorem dX11_leftBack_18 : decode cX11_leftBack 18 = .ok (.aload_n 0, 1) := by decide +kernel
theorem dX11_leftBack_19 : decode cX11_leftBack 19 = .ok (.getfield 35, 3) := by decide +kernel
theorem dX11_leftBack_22 : decode cX11_leftBack 22 = .ok (.iload_n 2, 1) := by decide +kernel
theorem dX11_leftBack_23 : decode cX11_leftBack 23 = .ok (.iaload, 1) := by decide +kernel
theorem dX11_leftBack_24 : decode cX11_leftBack 24 = .ok (.invokevirtual 140, 3) := by decide +kernel
theorem dX11_leftBack_27 : decode cX11_leftBack 27 = .ok (.ifCond .eq 10, 3) := by decide +kernel
theorem dX11_leftBack_30 : decode cX11_leftBack 30 = .ok (.aload_n 0, 1) := by decide +kernel
theorem dX11_leftBack_31 : decode cX11_leftBack 31 = .ok (.getfield 35, 3) := by decide +kernel
theorem dX11_leftBack_34 : decode cX11_leftBack 34 = .ok (.iload_n 2, 1) := by decide +kernel
theorem dX11_leftBack_35 : decode cX11_leftBack 35 = .ok (.iaload, 1) := by decide +kernel
theorem dX11_leftBack_36 : decode cX11_leftBack 36 = .ok (.ireturn, 1) := by decide +kernel
theorem dX11_leftBack_37 : decode cX11_leftBack 37 = .ok (.iinc 2 1, 3) := by decide +kernel
theorem dX11_leftBack_40 : decode cX11_leftBack 40 = .ok (.goto (-33), 3) := by decide +kernel
theorem dX11_leftBack_43 : decode cX11_leftBack 43 = .ok (.iconst (-1), 1) := by decide +kernel
theorem dX11_leftBack_44 : decode cX11_leftBack 44 = .ok (.ireturn, 1) := by decide +kernel
theorem dX11_lists_0 : decode cX11_lists 0 = .ok (.aload_n 0, 1) := by decide +kernel
theorem dX11_lists_1 : decode cX11_lists 1 = .ok (.iconst 0, 1) := by decide +kernel
theorem dX11_lists_2 : decode cX11_lists 2 = .ok (.putfield 9, 3) := by decide +kernel
theorem dX11_lists_5 : decode cX11_lists 5 = .ok (.aload_n 0, 1) := by decide +kernel
theorem dX11_lists_6 : decode cX11_lists 6 = .ok (.iconst 0, 1) := by decide +kernel
theorem dX11_lists_7 : decode cX11_lists 7 = .ok (.putfield 20, 3) := by decide +kernel
theorem dX11_lists_10 : decode cX11_lists 10 = .ok (.aload_n 0, 1) := by decide +kernel
theorem dX11_lists_11 : decode cX11_lists 11 = .ok (.getfield 29, 3) := by decide +kernel
theorem dX11_lists_14 : decode cX11_lists 14 = .ok (.iload_n 1, 1) := by decide +kernel
theorem dX11_lists_15 : decode cX11_lists 15 = .ok (.iaload, 1) := by decide +kernel
theorem dX11_lists_16 : decode cX11_lists 16 = .ok (.istore_n 2, 1) := by decide +kernel
theorem dX11_lists_17 : decode cX11_lists 17 = .ok (.iload_n 2, 1) := by decide +kernel
theorem dX11_lists_18 : decode cX11_lists 18 = .ok (.aload_n 0, 1) := by decide +kernel
theorem dX11_lists_19 : decode cX11_lists 19 = .ok (.getfield 26, 3) := by decide +kernel
theorem dX11_lists_22 : decode cX11_lists 22 = .ok (.iload_n 1, 1) := by decide +kernel
theorem dX11_lists_23 : decode cX11_lists 23 = .ok (.iaload, 1) := by decide +kernel
theorem dX11_lists_24 : decode cX11_lists 24 = .ok (.if_icmp .ge 19, 3) := by decide +kernel
theorem dX11_lists_27 : decode cX11_lists 27 = .ok (.aload_n 0, 1) := by decide +kernel
theorem dX11_lists_28 : decode cX11_lists 28 = .ok (.aload_n 0, 1) := by decide +kernel
theorem dX11_lists_29 : decode cX11_lists 29 = .ok (.getfield 35, 3) := by decide +kernel
theorem dX11_lists_32 : decode cX11_lists 32 = .ok (.iload_n 2, 1) := by decide +kernel
theorem dX11_lists_33 : decode cX11_lists 33 = .ok (.iaload, 1) := by decide +kernel
theorem dX11_lists_34 : decode cX11_lists 34 = .ok (.invokevirtual 146, 3) := by decide +kernel
theorem dX11_lists_37 : decode cX11_lists 37 = .ok (.iinc 2 1, 3) := by decide +kernel
theorem dX11_lists_40 : decode cX11_lists 40 = .ok (.goto (-23), 3) := by decide +kernel
theorem dX11_lists_43 : decode cX11_lists 43 = .ok (.aload_n 0, 1) := by decide +kernel
theorem dX11_lists_44 : decode cX11_lists 44 = .ok (.getfield 26, 3) := by decide +kernel
theorem dX11_lists_47 : decode cX11_lists 47 = .ok (.iload_n 1, 1) := by decide +kernel
theorem dX11_lists_48 : decode cX11_lists 48 = .ok (.iaload, 1) := by decide +kernel
theorem dX11_lists_49 : decode cX11_lists 49 = .ok (.istore_n 2, 1) := by decide +kernel
theorem dX11_lists_50 : decode cX11_lists 50 = .ok (.iload_n 2, 1) := by decide +kernel
theorem dX11_lists_51 : decode cX11_lists 51 = .ok (.aload_n 0, 1) := by decide +kernel
theorem dX11_lists_52 : decode cX11_lists 52 = .ok (.getfield 32, 3) := by decide +kernel
theorem dX11_lists_55 : decode cX11_lists 55 = .ok (.iload_n 1, 1) := by decide +kernel
theorem dX11_lists_56 : decode cX11_lists 56 = .ok (.iaload, 1) := by decide +kernel
theorem dX11_lists_57 : decode cX11_lists 57 = .ok (.if_icmp .ge 19, 3) := by decide +kernel
theorem dX11_lists_60 : decode cX11_lists 60 = .ok (.aload_n 0, 1) := by decide +kernel
theorem dX11_lists_61 : decode cX11_lists 61 = .ok (.aload_n 0, 1) := by decide +kernel
theorem dX11_lists_62 : decode cX11_lists 62 = .ok (.getfield 35, 3) := by decide +kernel
theorem dX11_lists_65 : decode cX11_lists 65 = .ok (.iload_n 2, 1) := by decide +kernel
theorem dX11_lists_66 : decode cX11_lists 66 = .ok (.iaload, 1) := by decide +kernel
theorem dX11_lists_67 : decode cX11_lists 67 = .ok (.invokevirtual 152, 3) := by decide +kernel
theorem dX11_lists_70 : decode cX11_lists 70 = .ok (.iinc 2 1, 3) := by decide +kernel
theorem dX11_lists_73 : decode cX11_lists 73 = .ok (.goto (-23), 3) := by decide +kernel
theorem dX11_lists_76 : decode cX11_lists 76 = .ok (.aload_n 0, 1) := by decide +kernel
theorem dX11_lists_77 : decode cX11_lists 77 = .ok (.invokevirtual 42, 3) := by decide +kernel
theorem dX11_lists_80 : decode cX11_lists 80 = .ok (.istore_n 2, 1) := by decide +kernel
theorem dX11_lists_81 : decode cX11_lists 81 = .ok (.aload_n 0, 1) := by decide +kernel
theorem dX11_lists_82 : decode cX11_lists 82 = .ok (.getfield 53, 3) := by decide +kernel
theorem dX11_lists_85 : decode cX11_lists 85 = .ok (.iload_n 1, 1) := by decide +kernel
theorem dX11_lists_86 : decode cX11_lists 86 = .ok (.aload_n 0, 1) := by decide +kernel
theorem dX11_lists_87 : decode cX11_lists 87 = .ok (.getfield 46, 3) := by decide +kernel
theorem dX11_lists_90 : decode cX11_lists 90 = .ok (.iload_n 2, 1) := by decide +kernel
theorem dX11_lists_91 : decode cX11_lists 91 = .ok (.iaload, 1) := by decide +kernel
theorem dX11_lists_92 : decode cX11_lists 92 = .ok (.iastore, 1) := by decide +kernel
theorem dX11_lists_93 : decode cX11_lists 93 = .ok (.aload_n 0, 1) := by decide +kernel
theorem dX11_lists_94 : decode cX11_lists 94 = .ok (.getfield 46, 3) := by decide +kernel
theorem dX11_lists_97 : decode cX11_lists 97 = .ok (.iload_n 2, 1) := by decide +kernel
theorem dX11_lists_98 : decode cX11_lists 98 = .ok (.iload_n 1, 1) := by decide +kernel
theorem dX11_lists_99 : decode cX11_lists 99 = .ok (.iconst 1, 1) := by decide +kernel
theorem dX11_lists_100 : decode cX11_lists 100 = .ok (.iadd, 1) := by decide +kernel
theorem dX11_lists_101 : decode cX11_lists 101 = .ok (.iastore, 1) := by decide +kernel
theorem dX11_lists_102 : decode cX11_lists 102 = .ok (.return_, 1) := by decide +kernel
theorem dX11_made_0 : decode cX11_made 0 = .ok (.iload_n 1, 1) := by decide +kernel
theorem dX11_made_1 : decode cX11_made 1 = .ok (.invokestatic 324, 3) := by decide +kernel
theorem dX11_made_4 : decode cX11_made 4 = .ok (.ifCond .eq 25, 3) := by decide +kernel
theorem dX11_made_7 : decode cX11_made 7 = .ok (.iload_n 2, 1) := by decide +kernel
theorem dX11_made_8 : decode cX11_made 8 = .ok (.iconst 0, 1) := by decide +kernel
theorem dX11_made_9 : decode cX11_made 9 = .ok (.sipush 255, 3) := by decide +kernel
theorem dX11_made_12 : decode cX11_made 12 = .ok (.invokestatic 106, 3) := by decide +kernel
theorem dX11_made_15 : decode cX11_made 15 = .ok (.ifCond .eq 14, 3) := by decide +kernel
theorem dX11_made_18 : decode cX11_made 18 = .ok (.iload_n 3, 1) := by decide +kernel
theorem dX11_made_19 : decode cX11_made 19 = .ok (.iconst 0, 1) := by decide +kernel
theorem dX11_made_20 : decode cX11_made 20 = .ok (.sipush 255, 3) := by decide +kernel
theorem dX11_made_23 : decode cX11_made 23 = .ok (.invokestatic 106, 3) := by decide +kernel
theorem dX11_made_26 : decode cX11_made 26 = .ok (.ifCond .ne 9, 3) := by decide +kernel
theorem dX11_made_29 : decode cX11_made 29 = .ok (.aload_n 0, 1) := by decide +kernel
theorem dX11_made_30 : decode cX11_made 30 = .ok (.iconst 1, 1) := by decide +kernel
theorem dX11_made_31 : decode cX11_made 31 = .ok (.invokevirtual 300, 3) := by decide +kernel
theorem dX11_made_34 : decode cX11_made 34 = .ok (.ireturn, 1) := by decide +kernel
theorem dX11_made_35 : decode cX11_made 35 = .ok (.aload_n 0, 1) := by decide +kernel
theorem dX11_made_36 : decode cX11_made 36 = .ok (.invokevirtual 333, 3) := by decide +kernel
theorem dX11_made_39 : decode cX11_made 39 = .ok (.aload_n 0, 1) := by decide +kernel
theorem dX11_made_40 : decode cX11_made 40 = .ok (.getfield 175, 3) := by decide +kernel
theorem dX11_made_43 : decode cX11_made 43 = .ok (.istore 4, 2) := by decide +kernel
theorem dX11_made_45 : decode cX11_made 45 = .ok (.aload_n 0, 1) := by decide +kernel
theorem dX11_made_46 : decode cX11_made 46 = .ok (.iload_n 2, 1) := by decide +kernel
theorem dX11_made_47 : decode cX11_made 47 = .ok (.invokevirtual 349, 3) := by decide +kernel
theorem dX11_made_50 : decode cX11_made 50 = .ok (.aload_n 0, 1) := by decide +kernel
theorem dX11_made_51 : decode cX11_made 51 = .ok (.getfield 175, 3) := by decide +kernel
theorem dX11_made_54 : decode cX11_made 54 = .ok (.istore 5, 2) := by decide +kernel
theorem dX11_made_56 : decode cX11_made 56 = .ok (.aload_n 0, 1) := by decide +kernel
theorem dX11_made_57 : decode cX11_made 57 = .ok (.iload_n 3, 1) := by decide +kernel
theorem dX11_made_58 : decode cX11_made 58 = .ok (.invokevirtual 349, 3) := by decide +kernel
theorem dX11_made_61 : decode cX11_made 61 = .ok (.aload_n 0, 1) := by decide +kernel
theorem dX11_made_62 : decode cX11_made 62 = .ok (.iload_n 1, 1) := by decide +kernel
theorem dX11_made_63 : decode cX11_made 63 = .ok (.aload_n 0, 1) := by decide +kernel
theorem dX11_made_64 : decode cX11_made 64 = .ok (.iload 4, 2) := by decide +kernel
theorem dX11_made_66 : decode cX11_made 66 = .ok (.iload 5, 2) := by decide +kernel
theorem dX11_made_68 : decode cX11_made 68 = .ok (.invokevirtual 197, 3) := by decide +kernel
theorem dX11_made_71 : decode cX11_made 71 = .ok (.invokevirtual 339, 3) := by decide +kernel
theorem dX11_made_74 : decode cX11_made 74 = .ok (.ireturn, 1) := by decide +kernel
theorem dX11_marks_0 : decode cX11_marks 0 = .ok (.aload_n 0, 1) := by decide +kernel
theorem dX11_marks_1 : decode cX11_marks 1 = .ok (.iload_n 1, 1) := by decide +kernel
theorem dX11_marks_2 : decode cX11_marks 2 = .ok (.invokevirtual 215, 3) := by decide +kernel
theorem dX11_marks_5 : decode cX11_marks 5 = .ok (.istore_n 2, 1) := by decide +kernel
theorem dX11_marks_6 : decode cX11_marks 6 = .ok (.return_, 1) := by decide +kernel
theorem dX11_marksAll_0 : decode cX11_marksAll 0 = .ok (.aload_n 0, 1) := by decide +kernel
theorem dX11_marksAll_1 : decode cX11_marksAll 1 = .ok (.dup, 1) := by decide +kernel
theorem dX11_marksAll_2 : decode cX11_marksAll 2 = .ok (.getfield 212, 3) := by decide +kernel
theorem dX11_marksAll_5 : decode cX11_marksAll 5 = .ok (.iconst 1, 1) := by decide +kernel
theorem dX11_marksAll_6 : decode cX11_marksAll 6 = .ok (.iadd, 1) := by decide +kernel
theorem dX11_marksAll_7 : decode cX11_marksAll 7 = .ok (.putfield 212, 3) := by decide +kernel
theorem dX11_marksAll_10 : decode cX11_marksAll 10 = .ok (.aload_n 0, 1) := by decide +kernel
theorem dX11_marksAll_11 : decode cX11_marksAll 11 = .ok (.iconst 0, 1) := by decide +kernel
theorem dX11_marksAll_12 : decode cX11_marksAll 12 = .ok (.invokevirtual 306, 3) := by decide +kernel
theorem dX11_marksAll_15 : decode cX11_marksAll 15 = .ok (.iconst 0, 1) := by decide +kernel
theorem dX11_marksAll_16 : decode cX11_marksAll 16 = .ok (.istore_n 1, 1) := by decide +kernel
theorem dX11_marksAll_17 : decode cX11_marksAll 17 = .ok (.iload_n 1, 1) := by decide +kernel
theorem dX11_marksAll_18 : decode cX11_marksAll 18 = .ok (.bipush 8, 2) := by decide +kernel
theorem dX11_marksAll_20 : decode cX11_marksAll 20 = .ok (.if_icmp .ge 29, 3) := by decide +kernel
theorem dX11_marksAll_23 : decode cX11_marksAll 23 = .ok (.aload_n 0, 1) := by decide +kernel
theorem dX11_marksAll_24 : decode cX11_marksAll 24 = .ok (.aload_n 0, 1) := by decide +kernel
theorem dX11_marksAll_25 : decode cX11_marksAll 25 = .ok (.getfield 264, 3) := by decide +kernel
theorem dX11_marksAll_28 : decode cX11_marksAll 28 = .ok (.iload_n 1, 1) := by decide +kernel
theorem dX11_marksAll_29 : decode cX11_marksAll 29 = .ok (.iaload, 1) := by decide +kernel
theorem dX11_marksAll_30 : decode cX11_marksAll 30 = .ok (.invokevirtual 306, 3) := by decide +kernel
theorem dX11_marksAll_33 : decode cX11_marksAll 33 = .ok (.aload_n 0, 1) := by decide +kernel
theorem dX11_marksAll_34 : decode cX11_marksAll 34 = .ok (.aload_n 0, 1) := by decide +kernel
theorem dX11_marksAll_35 : decode cX11_marksAll 35 = .ok (.getfield 273, 3) := by decide +kernel
theorem dX11_marksAll_38 : decode cX11_marksAll 38 = .ok (.iload_n 1, 1) := by decide +kernel
theorem dX11_marksAll_39 : decode cX11_marksAll 39 = .ok (.iaload, 1) := by decide +kernel
theorem dX11_marksAll_40 : decode cX11_marksAll 40 = .ok (.invokevirtual 306, 3) := by decide +kernel
theorem dX11_marksAll_43 : decode cX11_marksAll 43 = .ok (.iinc 1 1, 3) := by decide +kernel
theorem dX11_marksAll_46 : decode cX11_marksAll 46 = .ok (.goto (-29), 3) := by decide +kernel
theorem dX11_marksAll_49 : decode cX11_marksAll 49 = .ok (.iconst 0, 1) := by decide +kernel
theorem dX11_marksAll_50 : decode cX11_marksAll 50 = .ok (.istore_n 1, 1) := by decide +kernel
theorem dX11_marksAll_51 : decode cX11_marksAll 51 = .ok (.iload_n 1, 1) := by decide +kernel
theorem dX11_marksAll_52 : decode cX11_marksAll 52 = .ok (.aload_n 0, 1) := by decide +kernel
theorem dX11_marksAll_53 : decode cX11_marksAll 53 = .ok (.getfield 303, 3) := by decide +kernel
theorem dX11_marksAll_56 : decode cX11_marksAll 56 = .ok (.if_icmp .ge 19, 3) := by decide +kernel
theorem dX11_marksAll_59 : decode cX11_marksAll 59 = .ok (.aload_n 0, 1) := by decide +kernel
theorem dX11_marksAll_60 : decode cX11_marksAll 60 = .ok (.aload_n 0, 1) := by decide +kernel
theorem dX11_marksAll_61 : decode cX11_marksAll 61 = .ok (.getfield 270, 3) := by decide +kernel
theorem dX11_marksAll_64 : decode cX11_marksAll 64 = .ok (.iload_n 1, 1) := by decide +kernel
theorem dX11_marksAll_65 : decode cX11_marksAll 65 = .ok (.iaload, 1) := by decide +kernel
theorem dX11_marksAll_66 : decode cX11_marksAll 66 = .ok (.invokevirtual 306, 3) := by decide +kernel
theorem dX11_marksAll_69 : decode cX11_marksAll 69 = .ok (.iinc 1 1, 3) := by decide +kernel
theorem dX11_marksAll_72 : decode cX11_marksAll 72 = .ok (.goto (-21), 3) := by decide +kernel
theorem dX11_marksAll_75 : decode cX11_marksAll 75 = .ok (.iconst 0, 1) := by decide +kernel
theorem dX11_marksAll_76 : decode cX11_marksAll 76 = .ok (.istore_n 1, 1) := by decide +kernel
theorem dX11_marksAll_77 : decode cX11_marksAll 77 = .ok (.iload_n 1, 1) := by decide +kernel
theorem dX11_marksAll_78 : decode cX11_marksAll 78 = .ok (.aload_n 0, 1) := by decide +kernel
theorem dX11_marksAll_79 : decode cX11_marksAll 79 = .ok (.getfield 309, 3) := by decide +kernel
theorem dX11_marksAll_82 : decode cX11_marksAll 82 = .ok (.if_icmp .ge 19, 3) := by decide +kernel
theorem dX11_marksAll_85 : decode cX11_marksAll 85 = .ok (.aload_n 0, 1) := by decide +kernel
theorem dX11_marksAll_86 : decode cX11_marksAll 86 = .ok (.aload_n 0, 1) := by decide +kernel
theorem dX11_marksAll_87 : decode cX11_marksAll 87 = .ok (.getfield 279, 3) := by decide +kernel
theorem dX11_marksAll_90 : decode cX11_marksAll 90 = .ok (.iload_n 1, 1) := by decide +kernel
theorem dX11_marksAll_91 : decode cX11_marksAll 91 = .ok (.iaload, 1) := by decide +kernel
theorem dX11_marksAll_92 : decode cX11_marksAll 92 = .ok (.invokevirtual 306, 3) := by decide +kernel
theorem dX11_marksAll_95 : decode cX11_marksAll 95 = .ok (.iinc 1 1, 3) := by decide +kernel
theorem dX11_marksAll_98 : decode cX11_marksAll 98 = .ok (.goto (-21), 3) := by decide +kernel
theorem dX11_marksAll_101 : decode cX11_marksAll 101 = .ok (.return_, 1) := by decide +kernel
theorem dX11_minus_0 : decode cX11_minus 0 = .ok (.iload_n 1, 1) := by decide +kernel
theorem dX11_minus_1 : decode cX11_minus 1 = .ok (.invokestatic 324, 3) := by decide +kernel
theorem dX11_minus_4 : decode cX11_minus 4 = .ok (.ifCond .eq 10, 3) := by decide +kernel
theorem dX11_minus_7 : decode cX11_minus 7 = .ok (.iload_n 2, 1) := by decide +kernel
theorem dX11_minus_8 : decode cX11_minus 8 = .ok (.invokestatic 324, 3) := by decide +kernel
theorem dX11_minus_11 : decode cX11_minus 11 = .ok (.ifCond .ne 9, 3) := by decide +kernel
theorem dX11_minus_14 : decode cX11_minus 14 = .ok (.aload_n 0, 1) := by decide +kernel
theorem dX11_minus_15 : decode cX11_minus 15 = .ok (.iconst 1, 1) := by decide +kernel
theorem dX11_minus_16 : decode cX11_minus 16 = .ok (.invokevirtual 300, 3) := by decide +kernel
theorem dX11_minus_19 : decode cX11_minus 19 = .ok (.ireturn, 1) := by decide +kernel
theorem dX11_minus_20 : decode cX11_minus 20 = .ok (.aload_n 0, 1) := by decide +kernel
theorem dX11_minus_21 : decode cX11_minus 21 = .ok (.invokevirtual 333, 3) := by decide +kernel
theorem dX11_minus_24 : decode cX11_minus 24 = .ok (.aload_n 0, 1) := by decide +kernel
theorem dX11_minus_25 : decode cX11_minus 25 = .ok (.iload_n 1, 1) := by decide +kernel
theorem dX11_minus_26 : decode cX11_minus 26 = .ok (.aload_n 0, 1) := by decide +kernel
theorem dX11_minus_27 : decode cX11_minus 27 = .ok (.aload_n 0, 1) := by decide +kernel
theorem dX11_minus_28 : decode cX11_minus 28 = .ok (.getfield 264, 3) := by decide +kernel
theorem dX11_minus_31 : decode cX11_minus 31 = .ok (.iload_n 2, 1) := by decide +kernel
theorem dX11_minus_32 : decode cX11_minus 32 = .ok (.iaload, 1) := by decide +kernel
theorem dX11_minus_33 : decode cX11_minus 33 = .ok (.invokevirtual 200, 3) := by decide +kernel
theorem dX11_minus_36 : decode cX11_minus 36 = .ok (.invokevirtual 339, 3) := by decide +kernel
theorem dX11_minus_39 : decode cX11_minus 39 = .ok (.ireturn, 1) := by decide +kernel
theorem dX11_minusUnit_0 : decode cX11_minusUnit 0 = .ok (.aload_n 0, 1) := by decide +kernel
theorem dX11_minusUnit_1 : decode cX11_minusUnit 1 = .ok (.invokevirtual 438, 3) := by decide +kernel
theorem dX11_minusUnit_4 : decode cX11_minusUnit 4 = .ok (.ifCond .ne 5, 3) := by decide +kernel
theorem dX11_minusUnit_7 : decode cX11_minusUnit 7 = .ok (.iconst 0, 1) := by decide +kernel
theorem dX11_minusUnit_8 : decode cX11_minusUnit 8 = .ok (.ireturn, 1) := by decide +kernel
theorem dX11_minusUnit_9 : decode cX11_minusUnit 9 = .ok (.aload_n 0, 1) := by decide +kernel
theorem dX11_minusUnit_10 : decode cX11_minusUnit 10 = .ok (.invokevirtual 441, 3) := by decide +kernel
theorem dX11_minusUnit_13 : decode cX11_minusUnit 13 = .ok (.istore_n 1, 1) := by decide +kernel
theorem dX11_minusUnit_14 : decode cX11_minusUnit 14 = .ok (.aload_n 0, 1) := by decide +kernel
theorem dX11_minusUnit_15 : decode cX11_minusUnit 15 = .ok (.dup, 1) := by decide +kernel
theorem dX11_minusUnit_16 : decode cX11_minusUnit 16 = .ok (.getfield 435, 3) := by decide +kernel
theorem dX11_minusUnit_19 : decode cX11_minusUnit 19 = .ok (.iconst 1, 1) := by decide +kernel
theorem dX11_minusUnit_20 : decode cX11_minusUnit 20 = .ok (.isub, 1) := by decide +kernel
theorem dX11_minusUnit_21 : decode cX11_minusUnit 21 = .ok (.putfield 435, 3) := by decide +kernel
theorem dX11_minusUnit_24 : decode cX11_minusUnit 24 = .ok (.aload_n 0, 1) := by decide +kernel
theorem dX11_minusUnit_25 : decode cX11_minusUnit 25 = .ok (.getfield 444, 3) := by decide +kernel
theorem dX11_minusUnit_28 : decode cX11_minusUnit 28 = .ok (.ifCond .eq 15, 3) := by decide +kernel
theorem dX11_minusUnit_31 : decode cX11_minusUnit 31 = .ok (.aload_n 0, 1) := by decide +kernel
theorem dX11_minusUnit_32 : decode cX11_minusUnit 32 = .ok (.aload_n 0, 1) := by decide +kernel
theorem dX11_minusUnit_33 : decode cX11_minusUnit 33 = .ok (.iload_n 1, 1) := by decide +kernel
theorem dX11_minusUnit_34 : decode cX11_minusUnit 34 = .ok (.invokevirtual 200, 3) := by decide +kernel
theorem dX11_minusUnit_37 : decode cX11_minusUnit 37 = .ok (.invokevirtual 447, 3) := by decide +kernel
theorem dX11_minusUnit_40 : decode cX11_minusUnit 40 = .ok (.goto 4, 3) := by decide +kernel
theorem dX11_minusUnit_43 : decode cX11_minusUnit 43 = .ok (.iconst 0, 1) := by decide +kernel
theorem dX11_minusUnit_44 : decode cX11_minusUnit 44 = .ok (.ireturn, 1) := by decide +kernel
theorem dX11_move_0 : decode cX11_move 0 = .ok (.iload_n 1, 1) := by decide +kernel
theorem dX11_move_1 : decode cX11_move 1 = .ok (.invokestatic 324, 3) := by decide +kernel
theorem dX11_move_4 : decode cX11_move 4 = .ok (.ifCond .eq 24, 3) := by decide +kernel
theorem dX11_move_7 : decode cX11_move 7 = .ok (.iload_n 2, 1) := by decide +kernel
theorem dX11_move_8 : decode cX11_move 8 = .ok (.invokestatic 324, 3) := by decide +kernel
theorem dX11_move_11 : decode cX11_move 11 = .ok (.ifCond .eq 17, 3) := by decide +kernel
theorem dX11_move_14 : decode cX11_move 14 = .ok (.aload_n 0, 1) := by decide +kernel
theorem dX11_move_15 : decode cX11_move 15 = .ok (.iload_n 1, 1) := by decide +kernel
theorem dX11_move_16 : decode cX11_move 16 = .ok (.aload_n 0, 1) := by decide +kernel
theorem dX11_move_17 : decode cX11_move 17 = .ok (.getfield 264, 3) := by decide +kernel
theorem dX11_move_20 : decode cX11_move 20 = .ok (.iload_n 2, 1) := by decide +kernel
theorem dX11_move_21 : decode cX11_move 21 = .ok (.iaload, 1) := by decide +kernel
theorem dX11_move_22 : decode cX11_move 22 = .ok (.invokevirtual 339, 3) := by decide +kernel
theorem dX11_move_25 : decode cX11_move 25 = .ok (.goto 8, 3) := by decide +kernel
theorem dX11_move_28 : decode cX11_move 28 = .ok (.aload_n 0, 1) := by decide +kernel
theorem dX11_move_29 : decode cX11_move 29 = .ok (.iconst 1, 1) := by decide +kernel
theorem dX11_move_30 : decode cX11_move 30 = .ok (.invokevirtual 300, 3) := by decide +kernel
theorem dX11_move_33 : decode cX11_move 33 = .ok (.ireturn, 1) := by decide +kernel
theorem dX11_movesGame_0 : decode cX11_movesGame 0 = .ok (.aload_n 0, 1) := by decide +kernel
theorem dX11_movesGame_1 : decode cX11_movesGame 1 = .ok (.getfield 276, 3) := by decide +kernel
theorem dX11_movesGame_4 : decode cX11_movesGame 4 = .ok (.iload_n 1, 1) := by decide +kernel
theorem dX11_movesGame_5 : decode cX11_movesGame 5 = .ok (.iload_n 2, 1) := by decide +kernel
theorem dX11_movesGame_6 : decode cX11_movesGame 6 = .ok (.iastore, 1) := by decide +kernel
theorem dX11_movesGame_7 : decode cX11_movesGame 7 = .ok (.aload_n 0, 1) := by decide +kernel
theorem dX11_movesGame_8 : decode cX11_movesGame 8 = .ok (.getfield 62, 3) := by decide +kernel
theorem dX11_movesGame_11 : decode cX11_movesGame 11 = .ok (.istore_n 3, 1) := by decide +kernel
theorem dX11_movesGame_12 : decode cX11_movesGame 12 = .ok (.aload_n 0, 1) := by decide +kernel
theorem dX11_movesGame_13 : decode cX11_movesGame 13 = .ok (.getfield 29, 3) := by decide +kernel
theorem dX11_movesGame_16 : decode cX11_movesGame 16 = .ok (.iload_n 1, 1) := by decide +kernel
theorem dX11_movesGame_17 : decode cX11_movesGame 17 = .ok (.iaload, 1) := by decide +kernel
theorem dX11_movesGame_18 : decode cX11_movesGame 18 = .ok (.istore 4, 2) := by decide +kernel
theorem dX11_movesGame_20 : decode cX11_movesGame 20 = .ok (.iload 4, 2) := by decide +kernel
theorem dX11_movesGame_22 : decode cX11_movesGame 22 = .ok (.aload_n 0, 1) := by decide +kernel
theorem dX11_movesGame_23 : decode cX11_movesGame 23 = .ok (.getfield 32, 3) := by decide +kernel
theorem dX11_movesGame_26 : decode cX11_movesGame 26 = .ok (.iload_n 1, 1) := by decide +kernel
theorem dX11_movesGame_27 : decode cX11_movesGame 27 = .ok (.iaload, 1) := by decide +kernel
theorem dX11_movesGame_28 : decode cX11_movesGame 28 = .ok (.if_icmp .ge 40, 3) := by decide +kernel
theorem dX11_movesGame_31 : decode cX11_movesGame 31 = .ok (.aload_n 0, 1) := by decide +kernel
theorem dX11_movesGame_32 : decode cX11_movesGame 32 = .ok (.getfield 35, 3) := by decide +kernel
theorem dX11_movesGame_35 : decode cX11_movesGame 35 = .ok (.aload_n 0, 1) := by decide +kernel
theorem dX11_movesGame_36 : decode cX11_movesGame 36 = .ok (.getfield 62, 3) := by decide +kernel
theorem dX11_movesGame_39 : decode cX11_movesGame 39 = .ok (.aload_n 0, 1) := by decide +kernel
theorem dX11_movesGame_40 : decode cX11_movesGame 40 = .ok (.getfield 276, 3) := by decide +kernel
theorem dX11_movesGame_43 : decode cX11_movesGame 43 = .ok (.aload_n 0, 1) := by decide +kernel
theorem dX11_movesGame_44 : decode cX11_movesGame 44 = .ok (.getfield 35, 3) := by decide +kernel
theorem dX11_movesGame_47 : decode cX11_movesGame 47 = .ok (.iload 4, 2) := by decide +kernel
theorem dX11_movesGame_49 : decode cX11_movesGame 49 = .ok (.iaload, 1) := by decide +kernel
theorem dX11_movesGame_50 : decode cX11_movesGame 50 = .ok (.iaload, 1) := by decide +kernel
theorem dX11_movesGame_51 : decode cX11_movesGame 51 = .ok (.iastore, 1) := by decide +kernel
theorem dX11_movesGame_52 : decode cX11_movesGame 52 = .ok (.aload_n 0, 1) := by decide +kernel
theorem dX11_movesGame_53 : decode cX11_movesGame 53 = .ok (.dup, 1) := by decide +kernel
theorem dX11_movesGame_54 : decode cX11_movesGame 54 = .ok (.getfield 62, 3) := by decide +kernel
theorem dX11_movesGame_57 : decode cX11_movesGame 57 = .ok (.iconst 1, 1) := by decide +kernel
theorem dX11_movesGame_58 : decode cX11_movesGame 58 = .ok (.iadd, 1) := by decide +kernel
theorem dX11_movesGame_59 : decode cX11_movesGame 59 = .ok (.putfield 62, 3) := by decide +kernel
theorem dX11_movesGame_62 : decode cX11_movesGame 62 = .ok (.iinc 4 1, 3) := by decide +kernel
theorem dX11_movesGame_65 : decode cX11_movesGame 65 = .ok (.goto (-45), 3) := by decide +kernel
theorem dX11_movesGame_68 : decode cX11_movesGame 68 = .ok (.aload_n 0, 1) := by decide +kernel
theorem dX11_movesGame_69 : decode cX11_movesGame 69 = .ok (.getfield 26, 3) := by decide +kernel
theorem dX11_movesGame_72 : decode cX11_movesGame 72 = .ok (.iload_n 2, 1) := by decide +kernel
theorem dX11_movesGame_73 : decode cX11_movesGame 73 = .ok (.iload_n 3, 1) := by decide +kernel
theorem dX11_movesGame_74 : decode cX11_movesGame 74 = .ok (.aload_n 0, 1) := by decide +kernel
theorem dX11_movesGame_75 : decode cX11_movesGame 75 = .ok (.getfield 26, 3) := by decide +kernel
theorem dX11_movesGame_78 : decode cX11_movesGame 78 = .ok (.iload_n 1, 1) := by decide +kernel
theorem dX11_movesGame_79 : decode cX11_movesGame 79 = .ok (.iaload, 1) := by decide +kernel
theorem dX11_movesGame_80 : decode cX11_movesGame 80 = .ok (.iadd, 1) := by decide +kernel
theorem dX11_movesGame_81 : decode cX11_movesGame 81 = .ok (.aload_n 0, 1) := by decide +kernel
theorem dX11_movesGame_82 : decode cX11_movesGame 82 = .ok (.getfield 29, 3) := by decide +kernel
theorem dX11_movesGame_85 : decode cX11_movesGame 85 = .ok (.iload_n 1, 1) := by decide +kernel
theorem dX11_movesGame_86 : decode cX11_movesGame 86 = .ok (.iaload, 1) := by decide +kernel
theorem dX11_movesGame_87 : decode cX11_movesGame 87 = .ok (.isub, 1) := by decide +kernel
theorem dX11_movesGame_88 : decode cX11_movesGame 88 = .ok (.iastore, 1) := by decide +kernel
theorem dX11_movesGame_89 : decode cX11_movesGame 89 = .ok (.aload_n 0, 1) := by decide +kernel
theorem dX11_movesGame_90 : decode cX11_movesGame 90 = .ok (.getfield 29, 3) := by decide +kernel
theorem dX11_movesGame_93 : decode cX11_movesGame 93 = .ok (.iload_n 2, 1) := by decide +kernel
theorem dX11_movesGame_94 : decode cX11_movesGame 94 = .ok (.iload_n 3, 1) := by decide +kernel
theorem dX11_movesGame_95 : decode cX11_movesGame 95 = .ok (.iastore, 1) := by decide +kernel
theorem dX11_movesGame_96 : decode cX11_movesGame 96 = .ok (.aload_n 0, 1) := by decide +kernel
theorem dX11_movesGame_97 : decode cX11_movesGame 97 = .ok (.getfield 32, 3) := by decide +kernel
theorem dX11_movesGame_100 : decode cX11_movesGame 100 = .ok (.iload_n 2, 1) := by decide +kernel
theorem dX11_movesGame_101 : decode cX11_movesGame 101 = .ok (.aload_n 0, 1) := by decide +kernel
theorem dX11_movesGame_102 : decode cX11_movesGame 102 = .ok (.getfield 62, 3) := by decide +kernel
theorem dX11_movesGame_105 : decode cX11_movesGame 105 = .ok (.iastore, 1) := by decide +kernel
theorem dX11_movesGame_106 : decode cX11_movesGame 106 = .ok (.aload_n 0, 1) := by decide +kernel
theorem dX11_movesGame_107 : decode cX11_movesGame 107 = .ok (.getfield 103, 3) := by decide +kernel
theorem dX11_movesGame_110 : decode cX11_movesGame 110 = .ok (.iload_n 2, 1) := by decide +kernel
theorem dX11_movesGame_111 : decode cX11_movesGame 111 = .ok (.aload_n 0, 1) := by decide +kernel
theorem dX11_movesGame_112 : decode cX11_movesGame 112 = .ok (.getfield 103, 3) := by decide +kernel
theorem dX11_movesGame_115 : decode cX11_movesGame 115 = .ok (.iload_n 1, 1) := by decide +kernel
theorem dX11_movesGame_116 : decode cX11_movesGame 116 = .ok (.iaload, 1) := by decide +kernel
theorem dX11_movesGame_117 : decode cX11_movesGame 117 = .ok (.iastore, 1) := by decide +kernel
theorem dX11_movesGame_118 : decode cX11_movesGame 118 = .ok (.aload_n 0, 1) := by decide +kernel
theorem dX11_movesGame_119 : decode cX11_movesGame 119 = .ok (.getfield 79, 3) := by decide +kernel
theorem dX11_movesGame_122 : decode cX11_movesGame 122 = .ok (.iload_n 2, 1) := by decide +kernel
theorem dX11_movesGame_123 : decode cX11_movesGame 123 = .ok (.aload_n 0, 1) := by decide +kernel
theorem dX11_movesGame_124 : decode cX11_movesGame 124 = .ok (.getfield 79, 3) := by decide +kernel
theorem dX11_movesGame_127 : decode cX11_movesGame 127 = .ok (.iload_n 1, 1) := by decide +kernel
theorem dX11_movesGame_128 : decode cX11_movesGame 128 = .ok (.iaload, 1) := by decide +kernel
theorem dX11_movesGame_129 : decode cX11_movesGame 129 = .ok (.iastore, 1) := by decide +kernel
theorem dX11_movesGame_130 : decode cX11_movesGame 130 = .ok (.aload_n 0, 1) := by decide +kernel
theorem dX11_movesGame_131 : decode cX11_movesGame 131 = .ok (.getfield 85, 3) := by decide +kernel
theorem dX11_movesGame_134 : decode cX11_movesGame 134 = .ok (.iload_n 2, 1) := by decide +kernel
theorem dX11_movesGame_135 : decode cX11_movesGame 135 = .ok (.aload_n 0, 1) := by decide +kernel
theorem dX11_movesGame_136 : decode cX11_movesGame 136 = .ok (.getfield 85, 3) := by decide +kernel
theorem dX11_movesGame_139 : decode cX11_movesGame 139 = .ok (.iload_n 1, 1) := by decide +kernel
theorem dX11_movesGame_140 : decode cX11_movesGame 140 = .ok (.iaload, 1) := by decide +kernel
theorem dX11_movesGame_141 : decode cX11_movesGame 141 = .ok (.iastore, 1) := by decide +kernel
theorem dX11_movesGame_142 : decode cX11_movesGame 142 = .ok (.aload_n 0, 1) := by decide +kernel
theorem dX11_movesGame_143 : decode cX11_movesGame 143 = .ok (.getfield 97, 3) := by decide +kernel
theorem dX11_movesGame_146 : decode cX11_movesGame 146 = .ok (.iload_n 2, 1) := by decide +kernel
theorem dX11_movesGame_147 : decode cX11_movesGame 147 = .ok (.aload_n 0, 1) := by decide +kernel
theorem dX11_movesGame_148 : decode cX11_movesGame 148 = .ok (.getfield 97, 3) := by decide +kernel
theorem dX11_movesGame_151 : decode cX11_movesGame 151 = .ok (.iload_n 1, 1) := by decide +kernel
theorem dX11_movesGame_152 : decode cX11_movesGame 152 = .ok (.iaload, 1) := by decide +kernel
theorem dX11_movesGame_153 : decode cX11_movesGame 153 = .ok (.iastore, 1) := by decide +kernel
theorem dX11_movesGame_154 : decode cX11_movesGame 154 = .ok (.aload_n 0, 1) := by decide +kernel
theorem dX11_movesGame_155 : decode cX11_movesGame 155 = .ok (.getfield 91, 3) := by decide +kernel
theorem dX11_movesGame_158 : decode cX11_movesGame 158 = .ok (.iload_n 2, 1) := by decide +kernel
theorem dX11_movesGame_159 : decode cX11_movesGame 159 = .ok (.aload_n 0, 1) := by decide +kernel
theorem dX11_movesGame_160 : decode cX11_movesGame 160 = .ok (.getfield 91, 3) := by decide +kernel
theorem dX11_movesGame_163 : decode cX11_movesGame 163 = .ok (.iload_n 1, 1) := by decide +kernel
theorem dX11_movesGame_164 : decode cX11_movesGame 164 = .ok (.baload, 1) := by decide +kernel
theorem dX11_movesGame_165 : decode cX11_movesGame 165 = .ok (.bastore, 1) := by decide +kernel
theorem dX11_movesGame_166 : decode cX11_movesGame 166 = .ok (.aload_n 0, 1) := by decide +kernel
theorem dX11_movesGame_167 : decode cX11_movesGame 167 = .ok (.getfield 71, 3) := by decide +kernel
theorem dX11_movesGame_170 : decode cX11_movesGame 170 = .ok (.iload_n 2, 1) := by decide +kernel
theorem dX11_movesGame_171 : decode cX11_movesGame 171 = .ok (.aload_n 0, 1) := by decide +kernel
theorem dX11_movesGame_172 : decode cX11_movesGame 172 = .ok (.getfield 71, 3) := by decide +kernel
theorem dX11_movesGame_175 : decode cX11_movesGame 175 = .ok (.iload_n 1, 1) := by decide +kernel
theorem dX11_movesGame_176 : decode cX11_movesGame 176 = .ok (.baload, 1) := by decide +kernel
theorem dX11_movesGame_177 : decode cX11_movesGame 177 = .ok (.bastore, 1) := by decide +kernel
theorem dX11_movesGame_178 : decode cX11_movesGame 178 = .ok (.aload_n 0, 1) := by decide +kernel
theorem dX11_movesGame_179 : decode cX11_movesGame 179 = .ok (.getfield 65, 3) := by decide +kernel
theorem dX11_movesGame_182 : decode cX11_movesGame 182 = .ok (.iload_n 2, 1) := by decide +kernel
theorem dX11_movesGame_183 : decode cX11_movesGame 183 = .ok (.iconst 0, 1) := by decide +kernel
theorem dX11_movesGame_184 : decode cX11_movesGame 184 = .ok (.iastore, 1) := by decide +kernel
theorem dX11_movesGame_185 : decode cX11_movesGame 185 = .ok (.aload_n 0, 1) := by decide +kernel
theorem dX11_movesGame_186 : decode cX11_movesGame 186 = .ok (.getfield 68, 3) := by decide +kernel
theorem dX11_movesGame_189 : decode cX11_movesGame 189 = .ok (.iload_n 2, 1) := by decide +kernel
theorem dX11_movesGame_190 : decode cX11_movesGame 190 = .ok (.iconst 0, 1) := by decide +kernel
theorem dX11_movesGame_191 : decode cX11_movesGame 191 = .ok (.iastore, 1) := by decide +kernel
theorem dX11_movesGame_192 : decode cX11_movesGame 192 = .ok (.return_, 1) := by decide +kernel
theorem dX11_negativeOf_0 : decode cX11_negativeOf 0 = .ok (.aload_n 0, 1) := by decide +kernel
theorem dX11_negativeOf_1 : decode cX11_negativeOf 1 = .ok (.getfield 65, 3) := by decide +kernel
theorem dX11_negativeOf_4 : decode cX11_negativeOf 4 = .ok (.iload_n 1, 1) := by decide +kernel
theorem dX11_negativeOf_5 : decode cX11_negativeOf 5 = .ok (.iaload, 1) := by decide +kernel
theorem dX11_negativeOf_6 : decode cX11_negativeOf 6 = .ok (.ifCond .le 12, 3) := by decide +kernel
theorem dX11_negativeOf_9 : decode cX11_negativeOf 9 = .ok (.aload_n 0, 1) := by decide +kernel
theorem dX11_negativeOf_10 : decode cX11_negativeOf 10 = .ok (.getfield 65, 3) := by decide +kernel
theorem dX11_negativeOf_13 : decode cX11_negativeOf 13 = .ok (.iload_n 1, 1) := by decide +kernel
theorem dX11_negativeOf_14 : decode cX11_negativeOf 14 = .ok (.iaload, 1) := by decide +kernel
theorem dX11_negativeOf_15 : decode cX11_negativeOf 15 = .ok (.iconst 1, 1) := by decide +kernel
theorem dX11_negativeOf_16 : decode cX11_negativeOf 16 = .ok (.isub, 1) := by decide +kernel
theorem dX11_negativeOf_17 : decode cX11_negativeOf 17 = .ok (.ireturn, 1) := by decide +kernel
theorem dX11_negativeOf_18 : decode cX11_negativeOf 18 = .ok (.aload_n 0, 1) := by decide +kernel
theorem dX11_negativeOf_19 : decode cX11_negativeOf 19 = .ok (.getfield 175, 3) := by decide +kernel
theorem dX11_negativeOf_22 : decode cX11_negativeOf 22 = .ok (.istore_n 2, 1) := by decide +kernel
theorem dX11_negativeOf_23 : decode cX11_negativeOf 23 = .ok (.aload_n 0, 1) := by decide +kernel
theorem dX11_negativeOf_24 : decode cX11_negativeOf 24 = .ok (.getfield 26, 3) := by decide +kernel
theorem dX11_negativeOf_27 : decode cX11_negativeOf 27 = .ok (.iload_n 1, 1) := by decide +kernel
theorem dX11_negativeOf_28 : decode cX11_negativeOf 28 = .ok (.iaload, 1) := by decide +kernel
theorem dX11_negativeOf_29 : decode cX11_negativeOf 29 = .ok (.istore_n 3, 1) := by decide +kernel
theorem dX11_negativeOf_30 : decode cX11_negativeOf 30 = .ok (.iload_n 3, 1) := by decide +kernel
theorem dX11_negativeOf_31 : decode cX11_negativeOf 31 = .ok (.aload_n 0, 1) := by decide +kernel
theorem dX11_negativeOf_32 : decode cX11_negativeOf 32 = .ok (.getfield 32, 3) := by decide +kernel
theorem dX11_negativeOf_35 : decode cX11_negativeOf 35 = .ok (.iload_n 1, 1) := by decide +kernel
theorem dX11_negativeOf_36 : decode cX11_negativeOf 36 = .ok (.iaload, 1) := by decide +kernel
theorem dX11_negativeOf_37 : decode cX11_negativeOf 37 = .ok (.if_icmp .ge 23, 3) := by decide +kernel
theorem dX11_negativeOf_40 : decode cX11_negativeOf 40 = .ok (.aload_n 0, 1) := by decide +kernel
theorem dX11_negativeOf_41 : decode cX11_negativeOf 41 = .ok (.aload_n 0, 1) := by decide +kernel
theorem dX11_negativeOf_42 : decode cX11_negativeOf 42 = .ok (.aload_n 0, 1) := by decide +kernel
theorem dX11_negativeOf_43 : decode cX11_negativeOf 43 = .ok (.getfield 35, 3) := by decide +kernel
theorem dX11_negativeOf_46 : decode cX11_negativeOf 46 = .ok (.iload_n 3, 1) := by decide +kernel
theorem dX11_negativeOf_47 : decode cX11_negativeOf 47 = .ok (.iaload, 1) := by decide +kernel
theorem dX11_negativeOf_48 : decode cX11_negativeOf 48 = .ok (.invokevirtual 200, 3) := by decide +kernel
theorem dX11_negativeOf_51 : decode cX11_negativeOf 51 = .ok (.invokevirtual 194, 3) := by decide +kernel
theorem dX11_negativeOf_54 : decode cX11_negativeOf 54 = .ok (.iinc 3 1, 3) := by decide +kernel
theorem dX11_negativeOf_57 : decode cX11_negativeOf 57 = .ok (.goto (-27), 3) := by decide +kernel
theorem dX11_negativeOf_60 : decode cX11_negativeOf 60 = .ok (.aload_n 0, 1) := by decide +kernel
theorem dX11_negativeOf_61 : decode cX11_negativeOf 61 = .ok (.getfield 175, 3) := by decide +kernel
theorem dX11_negativeOf_64 : decode cX11_negativeOf 64 = .ok (.istore_n 3, 1) := by decide +kernel
theorem dX11_negativeOf_65 : decode cX11_negativeOf 65 = .ok (.aload_n 0, 1) := by decide +kernel
theorem dX11_negativeOf_66 : decode cX11_negativeOf 66 = .ok (.getfield 29, 3) := by decide +kernel
theorem dX11_negativeOf_69 : decode cX11_negativeOf 69 = .ok (.iload_n 1, 1) := by decide +kernel
theorem dX11_negativeOf_70 : decode cX11_negativeOf 70 = .ok (.iaload, 1) := by decide +kernel
theorem dX11_negativeOf_71 : decode cX11_negativeOf 71 = .ok (.istore 4, 2) := by decide +kernel
theorem dX11_negativeOf_73 : decode cX11_negativeOf 73 = .ok (.iload 4, 2) := by decide +kernel
theorem dX11_negativeOf_75 : decode cX11_negativeOf 75 = .ok (.aload_n 0, 1) := by decide +kernel
theorem dX11_negativeOf_76 : decode cX11_negativeOf 76 = .ok (.getfield 26, 3) := by decide +kernel
theorem dX11_negativeOf_79 : decode cX11_negativeOf 79 = .ok (.iload_n 1, 1) := by decide +kernel
theorem dX11_negativeOf_80 : decode cX11_negativeOf 80 = .ok (.iaload, 1) := by decide +kernel
theorem dX11_negativeOf_81 : decode cX11_negativeOf 81 = .ok (.if_icmp .ge 24, 3) := by decide +kernel
theorem dX11_negativeOf_84 : decode cX11_negativeOf 84 = .ok (.aload_n 0, 1) := by decide +kernel
theorem dX11_negativeOf_85 : decode cX11_negativeOf 85 = .ok (.aload_n 0, 1) := by decide +kernel
theorem dX11_negativeOf_86 : decode cX11_negativeOf 86 = .ok (.aload_n 0, 1) := by decide +kernel
theorem dX11_negativeOf_87 : decode cX11_negativeOf 87 = .ok (.getfield 35, 3) := by decide +kernel
theorem dX11_negativeOf_90 : decode cX11_negativeOf 90 = .ok (.iload 4, 2) := by decide +kernel
theorem dX11_negativeOf_92 : decode cX11_negativeOf 92 = .ok (.iaload, 1) := by decide +kernel
theorem dX11_negativeOf_93 : decode cX11_negativeOf 93 = .ok (.invokevirtual 200, 3) := by decide +kernel
theorem dX11_negativeOf_96 : decode cX11_negativeOf 96 = .ok (.invokevirtual 194, 3) := by decide +kernel
theorem dX11_negativeOf_99 : decode cX11_negativeOf 99 = .ok (.iinc 4 1, 3) := by decide +kernel
theorem dX11_negativeOf_102 : decode cX11_negativeOf 102 = .ok (.goto (-29), 3) := by decide +kernel
theorem dX11_negativeOf_105 : decode cX11_negativeOf 105 = .ok (.aload_n 0, 1) := by decide +kernel
theorem dX11_negativeOf_106 : decode cX11_negativeOf 106 = .ok (.iload_n 2, 1) := by decide +kernel
theorem dX11_negativeOf_107 : decode cX11_negativeOf 107 = .ok (.iload_n 3, 1) := by decide +kernel
theorem dX11_negativeOf_108 : decode cX11_negativeOf 108 = .ok (.invokevirtual 197, 3) := by decide +kernel
theorem dX11_negativeOf_111 : decode cX11_negativeOf 111 = .ok (.istore 4, 2) := by decide +kernel
theorem dX11_negativeOf_113 : decode cX11_negativeOf 113 = .ok (.aload_n 0, 1) := by decide +kernel
theorem dX11_negativeOf_114 : decode cX11_negativeOf 114 = .ok (.getfield 65, 3) := by decide +kernel
theorem dX11_negativeOf_117 : decode cX11_negativeOf 117 = .ok (.iload_n 1, 1) := by decide +kernel
theorem dX11_negativeOf_118 : decode cX11_negativeOf 118 = .ok (.iload 4, 2) := by decide +kernel
theorem dX11_negativeOf_120 : decode cX11_negativeOf 120 = .ok (.iconst 1, 1) := by decide +kernel
theorem dX11_negativeOf_121 : decode cX11_negativeOf 121 = .ok (.iadd, 1) := by decide +kernel
theorem dX11_negativeOf_122 : decode cX11_negativeOf 122 = .ok (.iastore, 1) := by decide +kernel
theorem dX11_negativeOf_123 : decode cX11_negativeOf 123 = .ok (.iload 4, 2) := by decide +kernel
theorem dX11_negativeOf_125 : decode cX11_negativeOf 125 = .ok (.ireturn, 1) := by decide +kernel
theorem dX11_no_0 : decode cX11_no 0 = .ok (.aload_n 0, 1) := by decide +kernel
theorem dX11_no_1 : decode cX11_no 1 = .ok (.getfield 1, 3) := by decide +kernel
theorem dX11_no_4 : decode cX11_no 4 = .ok (.iload_n 1, 1) := by decide +kernel
theorem dX11_no_5 : decode cX11_no 5 = .ok (.dup2, 1) := by decide +kernel
theorem dX11_no_6 : decode cX11_no 6 = .ok (.iaload, 1) := by decide +kernel
theorem dX11_no_7 : decode cX11_no 7 = .ok (.iconst 1, 1) := by decide +kernel
theorem dX11_no_8 : decode cX11_no 8 = .ok (.iadd, 1) := by decide +kernel
theorem dX11_no_9 : decode cX11_no 9 = .ok (.iastore, 1) := by decide +kernel
theorem dX11_no_10 : decode cX11_no 10 = .ok (.ldc 7, 2) := by decide +kernel
theorem dX11_no_12 : decode cX11_no 12 = .ok (.iload_n 1, 1) := by decide +kernel
theorem dX11_no_13 : decode cX11_no 13 = .ok (.isub, 1) := by decide +kernel
theorem dX11_no_14 : decode cX11_no 14 = .ok (.ireturn, 1) := by decide +kernel
theorem dX11_number_0 : decode cX11_number 0 = .ok (.aload_n 0, 1) := by decide +kernel
theorem dX11_number_1 : decode cX11_number 1 = .ok (.getfield 416, 3) := by decide +kernel
theorem dX11_number_4 : decode cX11_number 4 = .ok (.istore_n 1, 1) := by decide +kernel
theorem dX11_number_5 : decode cX11_number 5 = .ok (.aload_n 0, 1) := by decide +kernel
theorem dX11_number_6 : decode cX11_number 6 = .ok (.invokevirtual 419, 3) := by decide +kernel
theorem dX11_number_9 : decode cX11_number 9 = .ok (.bipush 48, 2) := by decide +kernel
theorem dX11_number_11 : decode cX11_number 11 = .ok (.isub, 1) := by decide +kernel
theorem dX11_number_12 : decode cX11_number 12 = .ok (.istore_n 2, 1) := by decide +kernel
theorem dX11_number_13 : decode cX11_number 13 = .ok (.aload_n 0, 1) := by decide +kernel
theorem dX11_number_14 : decode cX11_number 14 = .ok (.dup, 1) := by decide +kernel
theorem dX11_number_15 : decode cX11_number 15 = .ok (.getfield 416, 3) := by decide +kernel
theorem dX11_number_18 : decode cX11_number 18 = .ok (.iconst 1, 1) := by decide +kernel
theorem dX11_number_19 : decode cX11_number 19 = .ok (.iadd, 1) := by decide +kernel
theorem dX11_number_20 : decode cX11_number 20 = .ok (.putfield 416, 3) := by decide +kernel
theorem dX11_number_23 : decode cX11_number 23 = .ok (.aload_n 0, 1) := by decide +kernel
theorem dX11_number_24 : decode cX11_number 24 = .ok (.invokevirtual 428, 3) := by decide +kernel
theorem dX11_number_27 : decode cX11_number 27 = .ok (.ifCond .eq 26, 3) := by decide +kernel
theorem dX11_number_30 : decode cX11_number 30 = .ok (.bipush 10, 2) := by decide +kernel
theorem dX11_number_32 : decode cX11_number 32 = .ok (.iload_n 2, 1) := by decide +kernel
theorem dX11_number_33 : decode cX11_number 33 = .ok (.imul, 1) := by decide +kernel
theorem dX11_number_34 : decode cX11_number 34 = .ok (.aload_n 0, 1) := by decide +kernel
theorem dX11_number_35 : decode cX11_number 35 = .ok (.invokevirtual 419, 3) := by decide +kernel
theorem dX11_number_38 : decode cX11_number 38 = .ok (.iadd, 1) := by decide +kernel
theorem dX11_number_39 : decode cX11_number 39 = .ok (.bipush 48, 2) := by decide +kernel
theorem dX11_number_41 : decode cX11_number 41 = .ok (.isub, 1) := by decide +kernel
theorem dX11_number_42 : decode cX11_number 42 = .ok (.istore_n 2, 1) := by decide +kernel
theorem dX11_number_43 : decode cX11_number 43 = .ok (.aload_n 0, 1) := by decide +kernel
theorem dX11_number_44 : decode cX11_number 44 = .ok (.dup, 1) := by decide +kernel
theorem dX11_number_45 : decode cX11_number 45 = .ok (.getfield 416, 3) := by decide +kernel
theorem dX11_number_48 : decode cX11_number 48 = .ok (.iconst 1, 1) := by decide +kernel
theorem dX11_number_49 : decode cX11_number 49 = .ok (.iadd, 1) := by decide +kernel
theorem dX11_number_50 : decode cX11_number 50 = .ok (.putfield 416, 3) := by decide +kernel
theorem dX11_number_53 : decode cX11_number 53 = .ok (.iload_n 2, 1) := by decide +kernel
theorem dX11_number_54 : decode cX11_number 54 = .ok (.bipush 12, 2) := by decide +kernel
theorem dX11_number_56 : decode cX11_number 56 = .ok (.if_icmp .le 8, 3) := by decide +kernel
theorem dX11_number_59 : decode cX11_number 59 = .ok (.aload_n 0, 1) := by decide +kernel
theorem dX11_number_60 : decode cX11_number 60 = .ok (.iload_n 1, 1) := by decide +kernel
theorem dX11_number_61 : decode cX11_number 61 = .ok (.invokevirtual 425, 3) := by decide +kernel
theorem dX11_number_64 : decode cX11_number 64 = .ok (.iload_n 2, 1) := by decide +kernel
theorem dX11_number_65 : decode cX11_number 65 = .ok (.ireturn, 1) := by decide +kernel
theorem dX11_numberOf_0 : decode cX11_numberOf 0 = .ok (.aload_n 0, 1) := by decide +kernel
theorem dX11_numberOf_1 : decode cX11_numberOf 1 = .ok (.getfield 79, 3) := by decide +kernel
theorem dX11_numberOf_4 : decode cX11_numberOf 4 = .ok (.aload_n 0, 1) := by decide +kernel
theorem dX11_numberOf_5 : decode cX11_numberOf 5 = .ok (.aload_n 0, 1) := by decide +kernel
theorem dX11_numberOf_6 : decode cX11_numberOf 6 = .ok (.getfield 264, 3) := by decide +kernel
theorem dX11_numberOf_9 : decode cX11_numberOf 9 = .ok (.iload_n 1, 1) := by decide +kernel
theorem dX11_numberOf_10 : decode cX11_numberOf 10 = .ok (.iaload, 1) := by decide +kernel
theorem dX11_numberOf_11 : decode cX11_numberOf 11 = .ok (.invokevirtual 364, 3) := by decide +kernel
theorem dX11_numberOf_14 : decode cX11_numberOf 14 = .ok (.iaload, 1) := by decide +kernel
theorem dX11_numberOf_15 : decode cX11_numberOf 15 = .ok (.ireturn, 1) := by decide +kernel
theorem dX11_opens_0 : decode cX11_opens 0 = .ok (.aload_n 0, 1) := by decide +kernel
theorem dX11_opens_1 : decode cX11_opens 1 = .ok (.getfield 435, 3) := by decide +kernel
theorem dX11_opens_4 : decode cX11_opens 4 = .ok (.iconst 5, 1) := by decide +kernel
theorem dX11_opens_5 : decode cX11_opens 5 = .ok (.if_icmp .ne 13, 3) := by decide +kernel
theorem dX11_opens_8 : decode cX11_opens 8 = .ok (.aload_n 0, 1) := by decide +kernel
theorem dX11_opens_9 : decode cX11_opens 9 = .ok (.aload_n 0, 1) := by decide +kernel
theorem dX11_opens_10 : decode cX11_opens 10 = .ok (.getfield 416, 3) := by decide +kernel
theorem dX11_opens_13 : decode cX11_opens 13 = .ok (.invokevirtual 425, 3) := by decide +kernel
theorem dX11_opens_16 : decode cX11_opens 16 = .ok (.iconst 0, 1) := by decide +kernel
theorem dX11_opens_17 : decode cX11_opens 17 = .ok (.ireturn, 1) := by decide +kernel
theorem dX11_opens_18 : decode cX11_opens 18 = .ok (.aload_n 0, 1) := by decide +kernel
theorem dX11_opens_19 : decode cX11_opens 19 = .ok (.dup, 1) := by decide +kernel
theorem dX11_opens_20 : decode cX11_opens 20 = .ok (.getfield 435, 3) := by decide +kernel
theorem dX11_opens_23 : decode cX11_opens 23 = .ok (.iconst 1, 1) := by decide +kernel
theorem dX11_opens_24 : decode cX11_opens 24 = .ok (.iadd, 1) := by decide +kernel
theorem dX11_opens_25 : decode cX11_opens 25 = .ok (.putfield 435, 3) := by decide +kernel
theorem dX11_opens_28 : decode cX11_opens 28 = .ok (.aload_n 0, 1) := by decide +kernel
theorem dX11_opens_29 : decode cX11_opens 29 = .ok (.dup, 1) := by decide +kernel
theorem dX11_opens_30 : decode cX11_opens 30 = .ok (.getfield 416, 3) := by decide +kernel
theorem dX11_opens_33 : decode cX11_opens 33 = .ok (.iconst 1, 1) := by decide +kernel
theorem dX11_opens_34 : decode cX11_opens 34 = .ok (.iadd, 1) := by decide +kernel
theorem dX11_opens_35 : decode cX11_opens 35 = .ok (.putfield 416, 3) := by decide +kernel
theorem dX11_opens_38 : decode cX11_opens 38 = .ok (.iconst 1, 1) := by decide +kernel
theorem dX11_opens_39 : decode cX11_opens 39 = .ok (.ireturn, 1) := by decide +kernel
theorem dX11_option_0 : decode cX11_option 0 = .ok (.iload_n 1, 1) := by decide +kernel
theorem dX11_option_1 : decode cX11_option 1 = .ok (.invokestatic 324, 3) := by decide +kernel
theorem dX11_option_4 : decode cX11_option 4 = .ok (.ifCond .eq 17, 3) := by decide +kernel
theorem dX11_option_7 : decode cX11_option 7 = .ok (.iload_n 2, 1) := by decide +kernel
theorem dX11_option_8 : decode cX11_option 8 = .ok (.invokestatic 324, 3) := by decide +kernel
theorem dX11_option_11 : decode cX11_option 11 = .ok (.ifCond .eq 10, 3) := by decide +kernel
theorem dX11_option_14 : decode cX11_option 14 = .ok (.iload_n 3, 1) := by decide +kernel
theorem dX11_option_15 : decode cX11_option 15 = .ok (.invokestatic 352, 3) := by decide +kernel
theorem dX11_option_18 : decode cX11_option 18 = .ok (.ifCond .ne 9, 3) := by decide +kernel
theorem dX11_option_21 : decode cX11_option 21 = .ok (.aload_n 0, 1) := by decide +kernel
theorem dX11_option_22 : decode cX11_option 22 = .ok (.iconst 1, 1) := by decide +kernel
theorem dX11_option_23 : decode cX11_option 23 = .ok (.invokevirtual 300, 3) := by decide +kernel
theorem dX11_option_26 : decode cX11_option 26 = .ok (.ireturn, 1) := by decide +kernel
theorem dX11_option_27 : decode cX11_option 27 = .ok (.iload 4, 2) := by decide +kernel
theorem dX11_option_29 : decode cX11_option 29 = .ok (.iconst 0, 1) := by decide +kernel
theorem dX11_option_30 : decode cX11_option 30 = .ok (.aload_n 0, 1) := by decide +kernel
theorem dX11_option_31 : decode cX11_option 31 = .ok (.aload_n 0, 1) := by decide +kernel
theorem dX11_option_32 : decode cX11_option 32 = .ok (.getfield 264, 3) := by decide +kernel
theorem dX11_option_35 : decode cX11_option 35 = .ok (.iload_n 2, 1) := by decide +kernel
theorem dX11_option_36 : decode cX11_option 36 = .ok (.iaload, 1) := by decide +kernel
theorem dX11_option_37 : decode cX11_option 37 = .ok (.iload_n 3, 1) := by decide +kernel
theorem dX11_option_38 : decode cX11_option 38 = .ok (.invokevirtual 327, 3) := by decide +kernel
theorem dX11_option_41 : decode cX11_option 41 = .ok (.iconst 1, 1) := by decide +kernel
theorem dX11_option_42 : decode cX11_option 42 = .ok (.isub, 1) := by decide +kernel
theorem dX11_option_43 : decode cX11_option 43 = .ok (.invokestatic 106, 3) := by decide +kernel
theorem dX11_option_46 : decode cX11_option 46 = .ok (.ifCond .ne 9, 3) := by decide +kernel
theorem dX11_option_49 : decode cX11_option 49 = .ok (.aload_n 0, 1) := by decide +kernel
theorem dX11_option_50 : decode cX11_option 50 = .ok (.iconst 2, 1) := by decide +kernel
theorem dX11_option_51 : decode cX11_option 51 = .ok (.invokevirtual 300, 3) := by decide +kernel
theorem dX11_option_54 : decode cX11_option 54 = .ok (.ireturn, 1) := by decide +kernel
theorem dX11_option_55 : decode cX11_option 55 = .ok (.aload_n 0, 1) := by decide +kernel
theorem dX11_option_56 : decode cX11_option 56 = .ok (.iload_n 1, 1) := by decide +kernel
theorem dX11_option_57 : decode cX11_option 57 = .ok (.aload_n 0, 1) := by decide +kernel
theorem dX11_option_58 : decode cX11_option 58 = .ok (.aload_n 0, 1) := by decide +kernel
theorem dX11_option_59 : decode cX11_option 59 = .ok (.getfield 264, 3) := by decide +kernel
theorem dX11_option_62 : decode cX11_option 62 = .ok (.iload_n 2, 1) := by decide +kernel
theorem dX11_option_63 : decode cX11_option 63 = .ok (.iaload, 1) := by decide +kernel
theorem dX11_option_64 : decode cX11_option 64 = .ok (.iload_n 3, 1) := by decide +kernel
theorem dX11_option_65 : decode cX11_option 65 = .ok (.iload 4, 2) := by decide +kernel
theorem dX11_option_67 : decode cX11_option 67 = .ok (.invokevirtual 355, 3) := by decide +kernel
theorem dX11_option_70 : decode cX11_option 70 = .ok (.invokevirtual 339, 3) := by decide +kernel
theorem dX11_option_73 : decode cX11_option 73 = .ok (.ireturn, 1) := by decide +kernel
theorem dX11_optionMany_0 : decode cX11_optionMany 0 = .ok (.iload_n 2, 1) := by decide +kernel
theorem dX11_optionMany_1 : decode cX11_optionMany 1 = .ok (.ifCond .ne 19, 3) := by decide +kernel
theorem dX11_optionMany_4 : decode cX11_optionMany 4 = .ok (.aload_n 0, 1) := by decide +kernel
theorem dX11_optionMany_5 : decode cX11_optionMany 5 = .ok (.getfield 26, 3) := by decide +kernel
theorem dX11_optionMany_8 : decode cX11_optionMany 8 = .ok (.iload_n 1, 1) := by decide +kernel
theorem dX11_optionMany_9 : decode cX11_optionMany 9 = .ok (.iaload, 1) := by decide +kernel
theorem dX11_optionMany_10 : decode cX11_optionMany 10 = .ok (.aload_n 0, 1) := by decide +kernel
theorem dX11_optionMany_11 : decode cX11_optionMany 11 = .ok (.getfield 29, 3) := by decide +kernel
theorem dX11_optionMany_14 : decode cX11_optionMany 14 = .ok (.iload_n 1, 1) := by decide +kernel
theorem dX11_optionMany_15 : decode cX11_optionMany 15 = .ok (.iaload, 1) := by decide +kernel
theorem dX11_optionMany_16 : decode cX11_optionMany 16 = .ok (.isub, 1) := by decide +kernel
theorem dX11_optionMany_17 : decode cX11_optionMany 17 = .ok (.goto 16, 3) := by decide +kernel
theorem dX11_optionMany_20 : decode cX11_optionMany 20 = .ok (.aload_n 0, 1) := by decide +kernel
theorem dX11_optionMany_21 : decode cX11_optionMany 21 = .ok (.getfield 32, 3) := by decide +kernel
theorem dX11_optionMany_24 : decode cX11_optionMany 24 = .ok (.iload_n 1, 1) := by decide +kernel
theorem dX11_optionMany_25 : decode cX11_optionMany 25 = .ok (.iaload, 1) := by decide +kernel
theorem dX11_optionMany_26 : decode cX11_optionMany 26 = .ok (.aload_n 0, 1) := by decide +kernel
theorem dX11_optionMany_27 : decode cX11_optionMany 27 = .ok (.getfield 26, 3) := by decide +kernel
theorem dX11_optionMany_30 : decode cX11_optionMany 30 = .ok (.iload_n 1, 1) := by decide +kernel
theorem dX11_optionMany_31 : decode cX11_optionMany 31 = .ok (.iaload, 1) := by decide +kernel
theorem dX11_optionMany_32 : decode cX11_optionMany 32 = .ok (.isub, 1) := by decide +kernel
theorem dX11_optionMany_33 : decode cX11_optionMany 33 = .ok (.ireturn, 1) := by decide +kernel
theorem dX11_optionOf_0 : decode cX11_optionOf 0 = .ok (.aload_n 0, 1) := by decide +kernel
theorem dX11_optionOf_1 : decode cX11_optionOf 1 = .ok (.iload_n 1, 1) := by decide +kernel
theorem dX11_optionOf_2 : decode cX11_optionOf 2 = .ok (.invokevirtual 249, 3) := by decide +kernel
theorem dX11_optionOf_5 : decode cX11_optionOf 5 = .ok (.aload_n 0, 1) := by decide +kernel
theorem dX11_optionOf_6 : decode cX11_optionOf 6 = .ok (.getfield 35, 3) := by decide +kernel
theorem dX11_optionOf_9 : decode cX11_optionOf 9 = .ok (.iload_n 2, 1) := by decide +kernel
theorem dX11_optionOf_10 : decode cX11_optionOf 10 = .ok (.ifCond .ne 12, 3) := by decide +kernel
theorem dX11_optionOf_13 : decode cX11_optionOf 13 = .ok (.aload_n 0, 1) := by decide +kernel
theorem dX11_optionOf_14 : decode cX11_optionOf 14 = .ok (.getfield 29, 3) := by decide +kernel
theorem dX11_optionOf_17 : decode cX11_optionOf 17 = .ok (.iload_n 1, 1) := by decide +kernel
theorem dX11_optionOf_18 : decode cX11_optionOf 18 = .ok (.iaload, 1) := by decide +kernel
theorem dX11_optionOf_19 : decode cX11_optionOf 19 = .ok (.goto 9, 3) := by decide +kernel
theorem dX11_optionOf_22 : decode cX11_optionOf 22 = .ok (.aload_n 0, 1) := by decide +kernel
theorem dX11_optionOf_23 : decode cX11_optionOf 23 = .ok (.getfield 26, 3) := by decide +kernel
theorem dX11_optionOf_26 : decode cX11_optionOf 26 = .ok (.iload_n 1, 1) := by decide +kernel
theorem dX11_optionOf_27 : decode cX11_optionOf 27 = .ok (.iaload, 1) := by decide +kernel
theorem dX11_optionOf_28 : decode cX11_optionOf 28 = .ok (.iload_n 3, 1) := by decide +kernel
theorem dX11_optionOf_29 : decode cX11_optionOf 29 = .ok (.iadd, 1) := by decide +kernel
theorem dX11_optionOf_30 : decode cX11_optionOf 30 = .ok (.iaload, 1) := by decide +kernel
theorem dX11_optionOf_31 : decode cX11_optionOf 31 = .ok (.ireturn, 1) := by decide +kernel
theorem dX11_options_0 : decode cX11_options 0 = .ok (.aload_n 0, 1) := by decide +kernel
theorem dX11_options_1 : decode cX11_options 1 = .ok (.getfield 422, 3) := by decide +kernel
theorem dX11_options_4 : decode cX11_options 4 = .ok (.ifCond .ge 11, 3) := by decide +kernel
theorem dX11_options_7 : decode cX11_options 7 = .ok (.aload_n 0, 1) := by decide +kernel
theorem dX11_options_8 : decode cX11_options 8 = .ok (.invokevirtual 419, 3) := by decide +kernel
theorem dX11_options_11 : decode cX11_options 11 = .ok (.iload_n 1, 1) := by decide +kernel
theorem dX11_options_12 : decode cX11_options 12 = .ok (.if_icmp .ne 4, 3) := by decide +kernel
theorem dX11_options_15 : decode cX11_options 15 = .ok (.return_, 1) := by decide +kernel
theorem dX11_options_16 : decode cX11_options 16 = .ok (.aload_n 0, 1) := by decide +kernel
theorem dX11_options_17 : decode cX11_options 17 = .ok (.aload_n 0, 1) := by decide +kernel
theorem dX11_options_18 : decode cX11_options 18 = .ok (.invokevirtual 450, 3) := by decide +kernel
theorem dX11_options_21 : decode cX11_options 21 = .ok (.invokevirtual 194, 3) := by decide +kernel
theorem dX11_options_24 : decode cX11_options 24 = .ok (.aload_n 0, 1) := by decide +kernel
theorem dX11_options_25 : decode cX11_options 25 = .ok (.getfield 422, 3) := by decide +kernel
theorem dX11_options_28 : decode cX11_options 28 = .ok (.ifCond .ge 33, 3) := by decide +kernel
theorem dX11_options_31 : decode cX11_options 31 = .ok (.aload_n 0, 1) := by decide +kernel
theorem dX11_options_32 : decode cX11_options 32 = .ok (.invokevirtual 419, 3) := by decide +kernel
theorem dX11_options_35 : decode cX11_options 35 = .ok (.bipush 44, 2) := by decide +kernel
theorem dX11_options_37 : decode cX11_options 37 = .ok (.if_icmp .ne 24, 3) := by decide +kernel
theorem dX11_options_40 : decode cX11_options 40 = .ok (.aload_n 0, 1) := by decide +kernel
theorem dX11_options_41 : decode cX11_options 41 = .ok (.dup, 1) := by decide +kernel
theorem dX11_options_42 : decode cX11_options 42 = .ok (.getfield 416, 3) := by decide +kernel
theorem dX11_options_45 : decode cX11_options 45 = .ok (.iconst 1, 1) := by decide +kernel
theorem dX11_options_46 : decode cX11_options 46 = .ok (.iadd, 1) := by decide +kernel
theorem dX11_options_47 : decode cX11_options 47 = .ok (.putfield 416, 3) := by decide +kernel
theorem dX11_options_50 : decode cX11_options 50 = .ok (.aload_n 0, 1) := by decide +kernel
theorem dX11_options_51 : decode cX11_options 51 = .ok (.aload_n 0, 1) := by decide +kernel
theorem dX11_options_52 : decode cX11_options 52 = .ok (.invokevirtual 450, 3) := by decide +kernel
theorem dX11_options_55 : decode cX11_options 55 = .ok (.invokevirtual 194, 3) := by decide +kernel
theorem dX11_options_58 : decode cX11_options 58 = .ok (.goto (-34), 3) := by decide +kernel
theorem dX11_options_61 : decode cX11_options 61 = .ok (.return_, 1) := by decide +kernel
theorem dX11_order_0 : decode cX11_order 0 = .ok (.iload_n 1, 1) := by decide +kernel
theorem dX11_order_1 : decode cX11_order 1 = .ok (.invokestatic 324, 3) := by decide +kernel
theorem dX11_order_4 : decode cX11_order 4 = .ok (.ifCond .eq 29, 3) := by decide +kernel
theorem dX11_order_7 : decode cX11_order 7 = .ok (.iload_n 2, 1) := by decide +kernel
theorem dX11_order_8 : decode cX11_order 8 = .ok (.invokestatic 324, 3) := by decide +kernel
theorem dX11_order_11 : decode cX11_order 11 = .ok (.ifCond .eq 22, 3) := by decide +kernel
theorem dX11_order_14 : decode cX11_order 14 = .ok (.aload_n 0, 1) := by decide +kernel
theorem dX11_order_15 : decode cX11_order 15 = .ok (.aload_n 0, 1) := by decide +kernel
theorem dX11_order_16 : decode cX11_order 16 = .ok (.getfield 264, 3) := by decide +kernel
theorem dX11_order_19 : decode cX11_order 19 = .ok (.iload_n 1, 1) := by decide +kernel
theorem dX11_order_20 : decode cX11_order 20 = .ok (.iaload, 1) := by decide +kernel
theorem dX11_order_21 : decode cX11_order 21 = .ok (.aload_n 0, 1) := by decide +kernel
theorem dX11_order_22 : decode cX11_order 22 = .ok (.getfield 264, 3) := by decide +kernel
theorem dX11_order_25 : decode cX11_order 25 = .ok (.iload_n 2, 1) := by decide +kernel
theorem dX11_order_26 : decode cX11_order 26 = .ok (.iaload, 1) := by decide +kernel
theorem dX11_order_27 : decode cX11_order 27 = .ok (.invokevirtual 330, 3) := by decide +kernel
theorem dX11_order_30 : decode cX11_order 30 = .ok (.goto 8, 3) := by decide +kernel
theorem dX11_order_33 : decode cX11_order 33 = .ok (.aload_n 0, 1) := by decide +kernel
theorem dX11_order_34 : decode cX11_order 34 = .ok (.iconst 1, 1) := by decide +kernel
theorem dX11_order_35 : decode cX11_order 35 = .ok (.invokevirtual 300, 3) := by decide +kernel
theorem dX11_order_38 : decode cX11_order 38 = .ok (.ireturn, 1) := by decide +kernel
theorem dX11_orderOf_0 : decode cX11_orderOf 0 = .ok (.iload_n 1, 1) := by decide +kernel
theorem dX11_orderOf_1 : decode cX11_orderOf 1 = .ok (.iload_n 2, 1) := by decide +kernel
theorem dX11_orderOf_2 : decode cX11_orderOf 2 = .ok (.if_icmp .ne 5, 3) := by decide +kernel
theorem dX11_orderOf_5 : decode cX11_orderOf 5 = .ok (.iconst 0, 1) := by decide +kernel
theorem dX11_orderOf_6 : decode cX11_orderOf 6 = .ok (.ireturn, 1) := by decide +kernel
theorem dX11_orderOf_7 : decode cX11_orderOf 7 = .ok (.aload_n 0, 1) := by decide +kernel
theorem dX11_orderOf_8 : decode cX11_orderOf 8 = .ok (.iload_n 1, 1) := by decide +kernel
theorem dX11_orderOf_9 : decode cX11_orderOf 9 = .ok (.iload_n 2, 1) := by decide +kernel
theorem dX11_orderOf_10 : decode cX11_orderOf 10 = .ok (.invokevirtual 114, 3) := by decide +kernel
theorem dX11_orderOf_13 : decode cX11_orderOf 13 = .ok (.ifCond .eq 7, 3) := by decide +kernel
theorem dX11_orderOf_16 : decode cX11_orderOf 16 = .ok (.iconst (-1), 1) := by decide +kernel
theorem dX11_orderOf_17 : decode cX11_orderOf 17 = .ok (.goto 17, 3) := by decide +kernel
theorem dX11_orderOf_20 : decode cX11_orderOf 20 = .ok (.aload_n 0, 1) := by decide +kernel
theorem dX11_orderOf_21 : decode cX11_orderOf 21 = .ok (.iload_n 2, 1) := by decide +kernel
theorem dX11_orderOf_22 : decode cX11_orderOf 22 = .ok (.iload_n 1, 1) := by decide +kernel
theorem dX11_orderOf_23 : decode cX11_orderOf 23 = .ok (.invokevirtual 114, 3) := by decide +kernel
theorem dX11_orderOf_26 : decode cX11_orderOf 26 = .ok (.ifCond .eq 7, 3) := by decide +kernel
theorem dX11_orderOf_29 : decode cX11_orderOf 29 = .ok (.iconst 1, 1) := by decide +kernel
theorem dX11_orderOf_30 : decode cX11_orderOf 30 = .ok (.goto 4, 3) := by decide +kernel
theorem dX11_orderOf_33 : decode cX11_orderOf 33 = .ok (.iconst 2, 1) := by decide +kernel
theorem dX11_orderOf_34 : decode cX11_orderOf 34 = .ok (.ireturn, 1) := by decide +kernel
theorem dX11_outcome_0 : decode cX11_outcome 0 = .ok (.iload_n 1, 1) := by decide +kernel
theorem dX11_outcome_1 : decode cX11_outcome 1 = .ok (.invokestatic 324, 3) := by decide +kernel
theorem dX11_outcome_4 : decode cX11_outcome 4 = .ok (.ifCond .eq 10, 3) := by decide +kernel
theorem dX11_outcome_7 : decode cX11_outcome 7 = .ok (.iload_n 2, 1) := by decide +kernel
theorem dX11_outcome_8 : decode cX11_outcome 8 = .ok (.invokestatic 324, 3) := by decide +kernel
theorem dX11_outcome_11 : decode cX11_outcome 11 = .ok (.ifCond .ne 9, 3) := by decide +kernel
theorem dX11_outcome_14 : decode cX11_outcome 14 = .ok (.aload_n 0, 1) := by decide +kernel
theorem dX11_outcome_15 : decode cX11_outcome 15 = .ok (.iconst 1, 1) := by decide +kernel
theorem dX11_outcome_16 : decode cX11_outcome 16 = .ok (.invokevirtual 300, 3) := by decide +kernel
theorem dX11_outcome_19 : decode cX11_outcome 19 = .ok (.ireturn, 1) := by decide +kernel
theorem dX11_outcome_20 : decode cX11_outcome 20 = .ok (.aload_n 0, 1) := by decide +kernel
theorem dX11_outcome_21 : decode cX11_outcome 21 = .ok (.invokevirtual 333, 3) := by decide +kernel
theorem dX11_outcome_24 : decode cX11_outcome 24 = .ok (.aload_n 0, 1) := by decide +kernel
theorem dX11_outcome_25 : decode cX11_outcome 25 = .ok (.aload_n 0, 1) := by decide +kernel
theorem dX11_outcome_26 : decode cX11_outcome 26 = .ok (.aload_n 0, 1) := by decide +kernel
theorem dX11_outcome_27 : decode cX11_outcome 27 = .ok (.getfield 264, 3) := by decide +kernel
theorem dX11_outcome_30 : decode cX11_outcome 30 = .ok (.iload_n 1, 1) := by decide +kernel
theorem dX11_outcome_31 : decode cX11_outcome 31 = .ok (.iaload, 1) := by decide +kernel
theorem dX11_outcome_32 : decode cX11_outcome 32 = .ok (.aload_n 0, 1) := by decide +kernel
theorem dX11_outcome_33 : decode cX11_outcome 33 = .ok (.getfield 264, 3) := by decide +kernel
theorem dX11_outcome_36 : decode cX11_outcome 36 = .ok (.iload_n 2, 1) := by decide +kernel
theorem dX11_outcome_37 : decode cX11_outcome 37 = .ok (.iaload, 1) := by decide +kernel
theorem dX11_outcome_38 : decode cX11_outcome 38 = .ok (.invokevirtual 191, 3) := by decide +kernel
theorem dX11_outcome_41 : decode cX11_outcome 41 = .ok (.iconst 0, 1) := by decide +kernel
theorem dX11_outcome_42 : decode cX11_outcome 42 = .ok (.invokevirtual 330, 3) := by decide +kernel
theorem dX11_outcome_45 : decode cX11_outcome 45 = .ok (.ireturn, 1) := by decide +kernel
theorem dX11_place_0 : decode cX11_place 0 = .ok (.iload_n 1, 1) := by decide +kernel
theorem dX11_place_1 : decode cX11_place 1 = .ok (.iconst 0, 1) := by decide +kernel
theorem dX11_place_2 : decode cX11_place 2 = .ok (.iconst 3, 1) := by decide +kernel
theorem dX11_place_3 : decode cX11_place 3 = .ok (.invokestatic 106, 3) := by decide +kernel
theorem dX11_place_6 : decode cX11_place 6 = .ok (.ifCond .eq 10, 3) := by decide +kernel
theorem dX11_place_9 : decode cX11_place 9 = .ok (.iload_n 2, 1) := by decide +kernel
theorem dX11_place_10 : decode cX11_place 10 = .ok (.invokestatic 324, 3) := by decide +kernel
theorem dX11_place_13 : decode cX11_place 13 = .ok (.ifCond .ne 9, 3) := by decide +kernel
theorem dX11_place_16 : decode cX11_place 16 = .ok (.aload_n 0, 1) := by decide +kernel
theorem dX11_place_17 : decode cX11_place 17 = .ok (.iconst 1, 1) := by decide +kernel
theorem dX11_place_18 : decode cX11_place 18 = .ok (.invokevirtual 300, 3) := by decide +kernel
theorem dX11_place_21 : decode cX11_place 21 = .ok (.ireturn, 1) := by decide +kernel
theorem dX11_place_22 : decode cX11_place 22 = .ok (.aload_n 0, 1) := by decide +kernel
theorem dX11_place_23 : decode cX11_place 23 = .ok (.invokevirtual 402, 3) := by decide +kernel
theorem dX11_place_26 : decode cX11_place 26 = .ok (.iconst 0, 1) := by decide +kernel
theorem dX11_place_27 : decode cX11_place 27 = .ok (.istore_n 3, 1) := by decide +kernel
theorem dX11_place_28 : decode cX11_place 28 = .ok (.iload_n 3, 1) := by decide +kernel
theorem dX11_place_29 : decode cX11_place 29 = .ok (.aload_n 0, 1) := by decide +kernel
theorem dX11_place_30 : decode cX11_place 30 = .ok (.iload_n 1, 1) := by decide +kernel
theorem dX11_place_31 : decode cX11_place 31 = .ok (.invokevirtual 405, 3) := by decide +kernel
theorem dX11_place_34 : decode cX11_place 34 = .ok (.if_icmp .ge 26, 3) := by decide +kernel
theorem dX11_place_37 : decode cX11_place 37 = .ok (.aload_n 0, 1) := by decide +kernel
theorem dX11_place_38 : decode cX11_place 38 = .ok (.iload_n 1, 1) := by decide +kernel
theorem dX11_place_39 : decode cX11_place 39 = .ok (.iload_n 3, 1) := by decide +kernel
theorem dX11_place_40 : decode cX11_place 40 = .ok (.invokevirtual 408, 3) := by decide +kernel
theorem dX11_place_43 : decode cX11_place 43 = .ok (.aload_n 0, 1) := by decide +kernel
theorem dX11_place_44 : decode cX11_place 44 = .ok (.getfield 264, 3) := by decide +kernel
theorem dX11_place_47 : decode cX11_place 47 = .ok (.iload_n 2, 1) := by decide +kernel
theorem dX11_place_48 : decode cX11_place 48 = .ok (.iaload, 1) := by decide +kernel
theorem dX11_place_49 : decode cX11_place 49 = .ok (.if_icmp .ne 5, 3) := by decide +kernel
theorem dX11_place_52 : decode cX11_place 52 = .ok (.iload_n 3, 1) := by decide +kernel
theorem dX11_place_53 : decode cX11_place 53 = .ok (.ireturn, 1) := by decide +kernel
theorem dX11_place_54 : decode cX11_place 54 = .ok (.iinc 3 1, 3) := by decide +kernel
theorem dX11_place_57 : decode cX11_place 57 = .ok (.goto (-29), 3) := by decide +kernel
theorem dX11_place_60 : decode cX11_place 60 = .ok (.aload_n 0, 1) := by decide +kernel
theorem dX11_place_61 : decode cX11_place 61 = .ok (.iconst 2, 1) := by decide +kernel
theorem dX11_place_62 : decode cX11_place 62 = .ok (.invokevirtual 300, 3) := by decide +kernel
theorem dX11_place_65 : decode cX11_place 65 = .ok (.ireturn, 1) := by decide +kernel
theorem dX11_plays_0 : decode cX11_plays 0 = .ok (.iload_n 1, 1) := by decide +kernel
theorem dX11_plays_1 : decode cX11_plays 1 = .ok (.invokestatic 383, 3) := by decide +kernel
theorem dX11_plays_4 : decode cX11_plays 4 = .ok (.ifCond .eq 19, 3) := by decide +kernel
theorem dX11_plays_7 : decode cX11_plays 7 = .ok (.iload_n 2, 1) := by decide +kernel
theorem dX11_plays_8 : decode cX11_plays 8 = .ok (.invokestatic 324, 3) := by decide +kernel
theorem dX11_plays_11 : decode cX11_plays 11 = .ok (.ifCond .eq 12, 3) := by decide +kernel
theorem dX11_plays_14 : decode cX11_plays 14 = .ok (.iload_n 3, 1) := by decide +kernel
theorem dX11_plays_15 : decode cX11_plays 15 = .ok (.iconst 0, 1) := by decide +kernel
theorem dX11_plays_16 : decode cX11_plays 16 = .ok (.iconst 1, 1) := by decide +kernel
theorem dX11_plays_17 : decode cX11_plays 17 = .ok (.invokestatic 106, 3) := by decide +kernel
theorem dX11_plays_20 : decode cX11_plays 20 = .ok (.ifCond .ne 9, 3) := by decide +kernel
theorem dX11_plays_23 : decode cX11_plays 23 = .ok (.aload_n 0, 1) := by decide +kernel
theorem dX11_plays_24 : decode cX11_plays 24 = .ok (.iconst 1, 1) := by decide +kernel
theorem dX11_plays_25 : decode cX11_plays 25 = .ok (.invokevirtual 300, 3) := by decide +kernel
theorem dX11_plays_28 : decode cX11_plays 28 = .ok (.ireturn, 1) := by decide +kernel
theorem dX11_plays_29 : decode cX11_plays 29 = .ok (.aload_n 0, 1) := by decide +kernel
theorem dX11_plays_30 : decode cX11_plays 30 = .ok (.getfield 288, 3) := by decide +kernel
theorem dX11_plays_33 : decode cX11_plays 33 = .ok (.iload_n 1, 1) := by decide +kernel
theorem dX11_plays_34 : decode cX11_plays 34 = .ok (.iaload, 1) := by decide +kernel
theorem dX11_plays_35 : decode cX11_plays 35 = .ok (.ifCond .ne 10, 3) := by decide +kernel
theorem dX11_plays_38 : decode cX11_plays 38 = .ok (.aload_n 0, 1) := by decide +kernel
theorem dX11_plays_39 : decode cX11_plays 39 = .ok (.bipush 6, 2) := by decide +kernel
theorem dX11_plays_41 : decode cX11_plays 41 = .ok (.invokevirtual 300, 3) := by decide +kernel
theorem dX11_plays_44 : decode cX11_plays 44 = .ok (.ireturn, 1) := by decide +kernel
theorem dX11_plays_45 : decode cX11_plays 45 = .ok (.aload_n 0, 1) := by decide +kernel
theorem dX11_plays_46 : decode cX11_plays 46 = .ok (.getfield 264, 3) := by decide +kernel
theorem dX11_plays_49 : decode cX11_plays 49 = .ok (.iload_n 2, 1) := by decide +kernel
theorem dX11_plays_50 : decode cX11_plays 50 = .ok (.iaload, 1) := by decide +kernel
theorem dX11_plays_51 : decode cX11_plays 51 = .ok (.istore 4, 2) := by decide +kernel
theorem dX11_plays_53 : decode cX11_plays 53 = .ok (.iconst 0, 1) := by decide +kernel
theorem dX11_plays_54 : decode cX11_plays 54 = .ok (.istore 5, 2) := by decide +kernel
theorem dX11_plays_56 : decode cX11_plays 56 = .ok (.iload 5, 2) := by decide +kernel
theorem dX11_plays_58 : decode cX11_plays 58 = .ok (.aload_n 0, 1) := by decide +kernel
theorem dX11_plays_59 : decode cX11_plays 59 = .ok (.getfield 291, 3) := by decide +kernel
theorem dX11_plays_62 : decode cX11_plays 62 = .ok (.iload_n 1, 1) := by decide +kernel
theorem dX11_plays_63 : decode cX11_plays 63 = .ok (.iaload, 1) := by decide +kernel
theorem dX11_plays_64 : decode cX11_plays 64 = .ok (.if_icmp .ge 64, 3) := by decide +kernel
theorem dX11_plays_67 : decode cX11_plays 67 = .ok (.aload_n 0, 1) := by decide +kernel
theorem dX11_plays_68 : decode cX11_plays 68 = .ok (.getfield 294, 3) := by decide +kernel
theorem dX11_plays_71 : decode cX11_plays 71 = .ok (.bipush 24, 2) := by decide +kernel
theorem dX11_plays_73 : decode cX11_plays 73 = .ok (.iload_n 1, 1) := by decide +kernel
theorem dX11_plays_74 : decode cX11_plays 74 = .ok (.imul, 1) := by decide +kernel
theorem dX11_plays_75 : decode cX11_plays 75 = .ok (.iload 5, 2) := by decide +kernel
theorem dX11_plays_77 : decode cX11_plays 77 = .ok (.iadd, 1) := by decide +kernel
theorem dX11_plays_78 : decode cX11_plays 78 = .ok (.iaload, 1) := by decide +kernel
theorem dX11_plays_79 : decode cX11_plays 79 = .ok (.iconst 0, 1) := by decide +kernel
theorem dX11_plays_80 : decode cX11_plays 80 = .ok (.aload_n 0, 1) := by decide +kernel
theorem dX11_plays_81 : decode cX11_plays 81 = .ok (.iload 4, 2) := by decide +kernel
theorem dX11_plays_83 : decode cX11_plays 83 = .ok (.iload 5, 2) := by decide +kernel
theorem dX11_plays_85 : decode cX11_plays 85 = .ok (.iconst 2, 1) := by decide +kernel
theorem dX11_plays_86 : decode cX11_plays 86 = .ok (.irem, 1) := by decide +kernel
theorem dX11_plays_87 : decode cX11_plays 87 = .ok (.invokevirtual 327, 3) := by decide +kernel
theorem dX11_plays_90 : decode cX11_plays 90 = .ok (.iconst 1, 1) := by decide +kernel
theorem dX11_plays_91 : decode cX11_plays 91 = .ok (.isub, 1) := by decide +kernel
theorem dX11_plays_92 : decode cX11_plays 92 = .ok (.invokestatic 106, 3) := by decide +kernel
theorem dX11_plays_95 : decode cX11_plays 95 = .ok (.ifCond .eq 33, 3) := by decide +kernel
theorem dX11_plays_98 : decode cX11_plays 98 = .ok (.aload_n 0, 1) := by decide +kernel
theorem dX11_plays_99 : decode cX11_plays 99 = .ok (.iload 4, 2) := by decide +kernel
theorem dX11_plays_101 : decode cX11_plays 101 = .ok (.iload 5, 2) := by decide +kernel
theorem dX11_plays_103 : decode cX11_plays 103 = .ok (.iconst 2, 1) := by decide +kernel
theorem dX11_plays_104 : decode cX11_plays 104 = .ok (.irem, 1) := by decide +kernel
theorem dX11_plays_105 : decode cX11_plays 105 = .ok (.aload_n 0, 1) := by decide +kernel
theorem dX11_plays_106 : decode cX11_plays 106 = .ok (.getfield 294, 3) := by decide +kernel
theorem dX11_plays_109 : decode cX11_plays 109 = .ok (.bipush 24, 2) := by decide +kernel
theorem dX11_plays_111 : decode cX11_plays 111 = .ok (.iload_n 1, 1) := by decide +kernel
theorem dX11_plays_112 : decode cX11_plays 112 = .ok (.imul, 1) := by decide +kernel
theorem dX11_plays_113 : decode cX11_plays 113 = .ok (.iload 5, 2) := by decide +kernel
theorem dX11_plays_115 : decode cX11_plays 115 = .ok (.iadd, 1) := by decide +kernel
theorem dX11_plays_116 : decode cX11_plays 116 = .ok (.iaload, 1) := by decide +kernel
theorem dX11_plays_117 : decode cX11_plays 117 = .ok (.invokevirtual 355, 3) := by decide +kernel
theorem dX11_plays_120 : decode cX11_plays 120 = .ok (.istore 4, 2) := by decide +kernel
theorem dX11_plays_122 : decode cX11_plays 122 = .ok (.iinc 5 1, 3) := by decide +kernel
theorem dX11_plays_125 : decode cX11_plays 125 = .ok (.goto (-69), 3) := by decide +kernel
theorem dX11_plays_128 : decode cX11_plays 128 = .ok (.iload_n 3, 1) := by decide +kernel
theorem dX11_plays_129 : decode cX11_plays 129 = .ok (.ifCond .ne 8, 3) := by decide +kernel
theorem dX11_plays_132 : decode cX11_plays 132 = .ok (.iload 5, 2) := by decide +kernel
theorem dX11_plays_134 : decode cX11_plays 134 = .ok (.goto 10, 3) := by decide +kernel
theorem dX11_plays_137 : decode cX11_plays 137 = .ok (.aload_n 0, 1) := by decide +kernel
theorem dX11_plays_138 : decode cX11_plays 138 = .ok (.iload 4, 2) := by decide +kernel
theorem dX11_plays_140 : decode cX11_plays 140 = .ok (.iconst 0, 1) := by decide +kernel
theorem dX11_plays_141 : decode cX11_plays 141 = .ok (.invokevirtual 330, 3) := by decide +kernel
theorem dX11_plays_144 : decode cX11_plays 144 = .ok (.ireturn, 1) := by decide +kernel
theorem dX11_plus_0 : decode cX11_plus 0 = .ok (.iload_n 1, 1) := by decide +kernel
theorem dX11_plus_1 : decode cX11_plus 1 = .ok (.invokestatic 324, 3) := by decide +kernel
theorem dX11_plus_4 : decode cX11_plus 4 = .ok (.ifCond .eq 17, 3) := by decide +kernel
theorem dX11_plus_7 : decode cX11_plus 7 = .ok (.iload_n 2, 1) := by decide +kernel
theorem dX11_plus_8 : decode cX11_plus 8 = .ok (.invokestatic 324, 3) := by decide +kernel
theorem dX11_plus_11 : decode cX11_plus 11 = .ok (.ifCond .eq 10, 3) := by decide +kernel
theorem dX11_plus_14 : decode cX11_plus 14 = .ok (.iload_n 3, 1) := by decide +kernel
theorem dX11_plus_15 : decode cX11_plus 15 = .ok (.invokestatic 324, 3) := by decide +kernel
theorem dX11_plus_18 : decode cX11_plus 18 = .ok (.ifCond .ne 9, 3) := by decide +kernel
theorem dX11_plus_21 : decode cX11_plus 21 = .ok (.aload_n 0, 1) := by decide +kernel
theorem dX11_plus_22 : decode cX11_plus 22 = .ok (.iconst 1, 1) := by decide +kernel
theorem dX11_plus_23 : decode cX11_plus 23 = .ok (.invokevirtual 300, 3) := by decide +kernel
theorem dX11_plus_26 : decode cX11_plus 26 = .ok (.ireturn, 1) := by decide +kernel
theorem dX11_plus_27 : decode cX11_plus 27 = .ok (.aload_n 0, 1) := by decide +kernel
theorem dX11_plus_28 : decode cX11_plus 28 = .ok (.invokevirtual 333, 3) := by decide +kernel
theorem dX11_plus_31 : decode cX11_plus 31 = .ok (.aload_n 0, 1) := by decide +kernel
theorem dX11_plus_32 : decode cX11_plus 32 = .ok (.iload_n 1, 1) := by decide +kernel
theorem dX11_plus_33 : decode cX11_plus 33 = .ok (.aload_n 0, 1) := by decide +kernel
theorem dX11_plus_34 : decode cX11_plus 34 = .ok (.aload_n 0, 1) := by decide +kernel
theorem dX11_plus_35 : decode cX11_plus 35 = .ok (.getfield 264, 3) := by decide +kernel
theorem dX11_plus_38 : decode cX11_plus 38 = .ok (.iload_n 2, 1) := by decide +kernel
theorem dX11_plus_39 : decode cX11_plus 39 = .ok (.iaload, 1) := by decide +kernel
theorem dX11_plus_40 : decode cX11_plus 40 = .ok (.aload_n 0, 1) := by decide +kernel
theorem dX11_plus_41 : decode cX11_plus 41 = .ok (.getfield 264, 3) := by decide +kernel
theorem dX11_plus_44 : decode cX11_plus 44 = .ok (.iload_n 3, 1) := by decide +kernel
theorem dX11_plus_45 : decode cX11_plus 45 = .ok (.iaload, 1) := by decide +kernel
theorem dX11_plus_46 : decode cX11_plus 46 = .ok (.invokevirtual 191, 3) := by decide +kernel
theorem dX11_plus_49 : decode cX11_plus 49 = .ok (.invokevirtual 339, 3) := by decide +kernel
theorem dX11_plus_52 : decode cX11_plus 52 = .ok (.ireturn, 1) := by decide +kernel
theorem dX11_put_0 : decode cX11_put 0 = .ok (.aload_n 0, 1) := by decide +kernel
theorem dX11_put_1 : decode cX11_put 1 = .ok (.iload_n 1, 1) := by decide +kernel
theorem dX11_put_2 : decode cX11_put 2 = .ok (.iload_n 2, 1) := by decide +kernel
theorem dX11_put_3 : decode cX11_put 3 = .ok (.invokevirtual 472, 3) := by decide +kernel
theorem dX11_put_6 : decode cX11_put 6 = .ok (.istore 4, 2) := by decide +kernel
theorem dX11_put_8 : decode cX11_put 8 = .ok (.iload 4, 2) := by decide +kernel
theorem dX11_put_10 : decode cX11_put 10 = .ok (.ifCond .eq 10, 3) := by decide +kernel
theorem dX11_put_13 : decode cX11_put 13 = .ok (.aload_n 0, 1) := by decide +kernel
theorem dX11_put_14 : decode cX11_put 14 = .ok (.iload 4, 2) := by decide +kernel
theorem dX11_put_16 : decode cX11_put 16 = .ok (.invokevirtual 300, 3) := by decide +kernel
theorem dX11_put_19 : decode cX11_put 19 = .ok (.ireturn, 1) := by decide +kernel
theorem dX11_put_20 : decode cX11_put 20 = .ok (.aload_n 0, 1) := by decide +kernel
theorem dX11_put_21 : decode cX11_put 21 = .ok (.getfield 294, 3) := by decide +kernel
theorem dX11_put_24 : decode cX11_put 24 = .ok (.bipush 24, 2) := by decide +kernel
theorem dX11_put_26 : decode cX11_put 26 = .ok (.iload_n 1, 1) := by decide +kernel
theorem dX11_put_27 : decode cX11_put 27 = .ok (.imul, 1) := by decide +kernel
theorem dX11_put_28 : decode cX11_put 28 = .ok (.iload_n 2, 1) := by decide +kernel
theorem dX11_put_29 : decode cX11_put 29 = .ok (.iadd, 1) := by decide +kernel
theorem dX11_put_30 : decode cX11_put 30 = .ok (.aload_n 0, 1) := by decide +kernel
theorem dX11_put_31 : decode cX11_put 31 = .ok (.getfield 288, 3) := by decide +kernel
theorem dX11_put_34 : decode cX11_put 34 = .ok (.iload_n 1, 1) := by decide +kernel
theorem dX11_put_35 : decode cX11_put 35 = .ok (.iaload, 1) := by decide +kernel
theorem dX11_put_36 : decode cX11_put 36 = .ok (.bipush 8, 2) := by decide +kernel
theorem dX11_put_38 : decode cX11_put 38 = .ok (.if_icmp .ne 8, 3) := by decide +kernel
theorem dX11_put_41 : decode cX11_put 41 = .ok (.iload_n 3, 1) := by decide +kernel
theorem dX11_put_42 : decode cX11_put 42 = .ok (.i2b, 1) := by decide +kernel
theorem dX11_put_43 : decode cX11_put 43 = .ok (.goto 20, 3) := by decide +kernel
theorem dX11_put_46 : decode cX11_put 46 = .ok (.aload_n 0, 1) := by decide +kernel
theorem dX11_put_47 : decode cX11_put 47 = .ok (.getfield 288, 3) := by decide +kernel
theorem dX11_put_50 : decode cX11_put 50 = .ok (.iload_n 1, 1) := by decide +kernel
theorem dX11_put_51 : decode cX11_put 51 = .ok (.iaload, 1) := by decide +kernel
theorem dX11_put_52 : decode cX11_put 52 = .ok (.bipush 16, 2) := by decide +kernel
theorem dX11_put_54 : decode cX11_put 54 = .ok (.if_icmp .ne 8, 3) := by decide +kernel
theorem dX11_put_57 : decode cX11_put 57 = .ok (.iload_n 3, 1) := by decide +kernel
theorem dX11_put_58 : decode cX11_put 58 = .ok (.i2s, 1) := by decide +kernel
theorem dX11_put_59 : decode cX11_put 59 = .ok (.goto 4, 3) := by decide +kernel
theorem dX11_put_62 : decode cX11_put 62 = .ok (.iload_n 3, 1) := by decide +kernel
theorem dX11_put_63 : decode cX11_put 63 = .ok (.iastore, 1) := by decide +kernel
theorem dX11_put_64 : decode cX11_put 64 = .ok (.iconst 1, 1) := by decide +kernel
theorem dX11_put_65 : decode cX11_put 65 = .ok (.ireturn, 1) := by decide +kernel
theorem dX11_putsLeft_0 : decode cX11_putsLeft 0 = .ok (.aload_n 0, 1) := by decide +kernel
theorem dX11_putsLeft_1 : decode cX11_putsLeft 1 = .ok (.getfield 13, 3) := by decide +kernel
theorem dX11_putsLeft_4 : decode cX11_putsLeft 4 = .ok (.iconst 0, 1) := by decide +kernel
theorem dX11_putsLeft_5 : decode cX11_putsLeft 5 = .ok (.aload_n 0, 1) := by decide +kernel
theorem dX11_putsLeft_6 : decode cX11_putsLeft 6 = .ok (.getfield 9, 3) := by decide +kernel
theorem dX11_putsLeft_9 : decode cX11_putsLeft 9 = .ok (.iload_n 1, 1) := by decide +kernel
theorem dX11_putsLeft_10 : decode cX11_putsLeft 10 = .ok (.invokestatic 38, 3) := by decide +kernel
theorem dX11_putsLeft_13 : decode cX11_putsLeft 13 = .ok (.ifCond .ne 23, 3) := by decide +kernel
theorem dX11_putsLeft_16 : decode cX11_putsLeft 16 = .ok (.aload_n 0, 1) := by decide +kernel
theorem dX11_putsLeft_17 : decode cX11_putsLeft 17 = .ok (.getfield 13, 3) := by decide +kernel
theorem dX11_putsLeft_20 : decode cX11_putsLeft 20 = .ok (.aload_n 0, 1) := by decide +kernel
theorem dX11_putsLeft_21 : decode cX11_putsLeft 21 = .ok (.getfield 9, 3) := by decide +kernel
theorem dX11_putsLeft_24 : decode cX11_putsLeft 24 = .ok (.iload_n 1, 1) := by decide +kernel
theorem dX11_putsLeft_25 : decode cX11_putsLeft 25 = .ok (.iastore, 1) := by decide +kernel
theorem dX11_putsLeft_26 : decode cX11_putsLeft 26 = .ok (.aload_n 0, 1) := by decide +kernel
theorem dX11_putsLeft_27 : decode cX11_putsLeft 27 = .ok (.dup, 1) := by decide +kernel
theorem dX11_putsLeft_28 : decode cX11_putsLeft 28 = .ok (.getfield 9, 3) := by decide +kernel
theorem dX11_putsLeft_31 : decode cX11_putsLeft 31 = .ok (.iconst 1, 1) := by decide +kernel
theorem dX11_putsLeft_32 : decode cX11_putsLeft 32 = .ok (.iadd, 1) := by decide +kernel
theorem dX11_putsLeft_33 : decode cX11_putsLeft 33 = .ok (.putfield 9, 3) := by decide +kernel
theorem dX11_putsLeft_36 : decode cX11_putsLeft 36 = .ok (.return_, 1) := by decide +kernel
theorem dX11_putsRight_0 : decode cX11_putsRight 0 = .ok (.aload_n 0, 1) := by decide +kernel
theorem dX11_putsRight_1 : decode cX11_putsRight 1 = .ok (.getfield 23, 3) := by decide +kernel
theorem dX11_putsRight_4 : decode cX11_putsRight 4 = .ok (.iconst 0, 1) := by decide +kernel
theorem dX11_putsRight_5 : decode cX11_putsRight 5 = .ok (.aload_n 0, 1) := by decide +kernel
theorem dX11_putsRight_6 : decode cX11_putsRight 6 = .ok (.getfield 20, 3) := by decide +kernel
theorem dX11_putsRight_9 : decode cX11_putsRight 9 = .ok (.iload_n 1, 1) := by decide +kernel
theorem dX11_putsRight_10 : decode cX11_putsRight 10 = .ok (.invokestatic 38, 3) := by decide +kernel
theorem dX11_putsRight_13 : decode cX11_putsRight 13 = .ok (.ifCond .ne 23, 3) := by decide +kernel
theorem dX11_putsRight_16 : decode cX11_putsRight 16 = .ok (.aload_n 0, 1) := by decide +kernel
theorem dX11_putsRight_17 : decode cX11_putsRight 17 = .ok (.getfield 23, 3) := by decide +kernel
theorem dX11_putsRight_20 : decode cX11_putsRight 20 = .ok (.aload_n 0, 1) := by decide +kernel
theorem dX11_putsRight_21 : decode cX11_putsRight 21 = .ok (.getfield 20, 3) := by decide +kernel
theorem dX11_putsRight_24 : decode cX11_putsRight 24 = .ok (.iload_n 1, 1) := by decide +kernel
theorem dX11_putsRight_25 : decode cX11_putsRight 25 = .ok (.iastore, 1) := by decide +kernel
theorem dX11_putsRight_26 : decode cX11_putsRight 26 = .ok (.aload_n 0, 1) := by decide +kernel
theorem dX11_putsRight_27 : decode cX11_putsRight 27 = .ok (.dup, 1) := by decide +kernel
theorem dX11_putsRight_28 : decode cX11_putsRight 28 = .ok (.getfield 20, 3) := by decide +kernel
theorem dX11_putsRight_31 : decode cX11_putsRight 31 = .ok (.iconst 1, 1) := by decide +kernel
theorem dX11_putsRight_32 : decode cX11_putsRight 32 = .ok (.iadd, 1) := by decide +kernel
theorem dX11_putsRight_33 : decode cX11_putsRight 33 = .ok (.putfield 20, 3) := by decide +kernel
theorem dX11_putsRight_36 : decode cX11_putsRight 36 = .ok (.return_, 1) := by decide +kernel
theorem dX11_reads_0 : decode cX11_reads 0 = .ok (.aload_n 0, 1) := by decide +kernel
theorem dX11_reads_1 : decode cX11_reads 1 = .ok (.iload_n 1, 1) := by decide +kernel
theorem dX11_reads_2 : decode cX11_reads 2 = .ok (.putfield 444, 3) := by decide +kernel
theorem dX11_reads_5 : decode cX11_reads 5 = .ok (.aload_n 0, 1) := by decide +kernel
theorem dX11_reads_6 : decode cX11_reads 6 = .ok (.iconst 0, 1) := by decide +kernel
theorem dX11_reads_7 : decode cX11_reads 7 = .ok (.putfield 416, 3) := by decide +kernel
theorem dX11_reads_10 : decode cX11_reads 10 = .ok (.aload_n 0, 1) := by decide +kernel
theorem dX11_reads_11 : decode cX11_reads 11 = .ok (.iconst (-1), 1) := by decide +kernel
theorem dX11_reads_12 : decode cX11_reads 12 = .ok (.putfield 422, 3) := by decide +kernel
theorem dX11_reads_15 : decode cX11_reads 15 = .ok (.aload_n 0, 1) := by decide +kernel
theorem dX11_reads_16 : decode cX11_reads 16 = .ok (.iconst 0, 1) := by decide +kernel
theorem dX11_reads_17 : decode cX11_reads 17 = .ok (.putfield 435, 3) := by decide +kernel
theorem dX11_reads_20 : decode cX11_reads 20 = .ok (.aload_n 0, 1) := by decide +kernel
theorem dX11_reads_21 : decode cX11_reads 21 = .ok (.iconst 0, 1) := by decide +kernel
theorem dX11_reads_22 : decode cX11_reads 22 = .ok (.putfield 432, 3) := by decide +kernel
theorem dX11_reads_25 : decode cX11_reads 25 = .ok (.aload_n 0, 1) := by decide +kernel
theorem dX11_reads_26 : decode cX11_reads 26 = .ok (.invokevirtual 450, 3) := by decide +kernel
theorem dX11_reads_29 : decode cX11_reads 29 = .ok (.istore_n 2, 1) := by decide +kernel
theorem dX11_reads_30 : decode cX11_reads 30 = .ok (.aload_n 0, 1) := by decide +kernel
theorem dX11_reads_31 : decode cX11_reads 31 = .ok (.getfield 416, 3) := by decide +kernel
theorem dX11_reads_34 : decode cX11_reads 34 = .ok (.aload_n 0, 1) := by decide +kernel
theorem dX11_reads_35 : decode cX11_reads 35 = .ok (.getfield 411, 3) := by decide +kernel
theorem dX11_reads_38 : decode cX11_reads 38 = .ok (.if_icmp .ge 11, 3) := by decide +kernel
theorem dX11_reads_41 : decode cX11_reads 41 = .ok (.aload_n 0, 1) := by decide +kernel
theorem dX11_reads_42 : decode cX11_reads 42 = .ok (.aload_n 0, 1) := by decide +kernel
theorem dX11_reads_43 : decode cX11_reads 43 = .ok (.getfield 416, 3) := by decide +kernel
theorem dX11_reads_46 : decode cX11_reads 46 = .ok (.invokevirtual 425, 3) := by decide +kernel
theorem dX11_reads_49 : decode cX11_reads 49 = .ok (.iload_n 2, 1) := by decide +kernel
theorem dX11_reads_50 : decode cX11_reads 50 = .ok (.ireturn, 1) := by decide +kernel
theorem dX11_removesWorse_0 : decode cX11_removesWorse 0 = .ok (.iconst 0, 1) := by decide +kernel
theorem dX11_removesWorse_1 : decode cX11_removesWorse 1 = .ok (.istore_n 1, 1) := by decide +kernel
theorem dX11_removesWorse_2 : decode cX11_removesWorse 2 = .ok (.iload_n 1, 1) := by decide +kernel
theorem dX11_removesWorse_3 : decode cX11_removesWorse 3 = .ok (.aload_n 0, 1) := by decide +kernel
theorem dX11_removesWorse_4 : decode cX11_removesWorse 4 = .ok (.getfield 9, 3) := by decide +kernel
theorem dX11_removesWorse_7 : decode cX11_removesWorse 7 = .ok (.if_icmp .ge 54, 3) := by decide +kernel
theorem dX11_removesWorse_10 : decode cX11_removesWorse 10 = .ok (.aload_n 0, 1) := by decide +kernel
theorem dX11_removesWorse_11 : decode cX11_removesWorse 11 = .ok (.aload_n 0, 1) := by decide +kernel
theorem dX11_removesWorse_12 : decode cX11_removesWorse 12 = .ok (.getfield 13, 3) := by decide +kernel
theorem dX11_removesWorse_15 : decode cX11_removesWorse 15 = .ok (.aload_n 0, 1) := by decide +kernel
theorem dX11_removesWorse_16 : decode cX11_removesWorse 16 = .ok (.getfield 9, 3) := by decide +kernel
theorem dX11_removesWorse_19 : decode cX11_removesWorse 19 = .ok (.iload_n 1, 1) := by decide +kernel
theorem dX11_removesWorse_20 : decode cX11_removesWorse 20 = .ok (.iconst 1, 1) := by decide +kernel
theorem dX11_removesWorse_21 : decode cX11_removesWorse 21 = .ok (.invokevirtual 155, 3) := by decide +kernel
theorem dX11_removesWorse_24 : decode cX11_removesWorse 24 = .ok (.ifCond .eq 31, 3) := by decide +kernel
theorem dX11_removesWorse_27 : decode cX11_removesWorse 27 = .ok (.aload_n 0, 1) := by decide +kernel
theorem dX11_removesWorse_28 : decode cX11_removesWorse 28 = .ok (.dup, 1) := by decide +kernel
theorem dX11_removesWorse_29 : decode cX11_removesWorse 29 = .ok (.getfield 9, 3) := by decide +kernel
theorem dX11_removesWorse_32 : decode cX11_removesWorse 32 = .ok (.iconst 1, 1) := by decide +kernel
theorem dX11_removesWorse_33 : decode cX11_removesWorse 33 = .ok (.isub, 1) := by decide +kernel
theorem dX11_removesWorse_34 : decode cX11_removesWorse 34 = .ok (.putfield 9, 3) := by decide +kernel
theorem dX11_removesWorse_37 : decode cX11_removesWorse 37 = .ok (.aload_n 0, 1) := by decide +kernel
theorem dX11_removesWorse_38 : decode cX11_removesWorse 38 = .ok (.getfield 13, 3) := by decide +kernel
theorem dX11_removesWorse_41 : decode cX11_removesWorse 41 = .ok (.iload_n 1, 1) := by decide +kernel
theorem dX11_removesWorse_42 : decode cX11_removesWorse 42 = .ok (.aload_n 0, 1) := by decide +kernel
theorem dX11_removesWorse_43 : decode cX11_removesWorse 43 = .ok (.getfield 13, 3) := by decide +kernel
theorem dX11_removesWorse_46 : decode cX11_removesWorse 46 = .ok (.aload_n 0, 1) := by decide +kernel
theorem dX11_removesWorse_47 : decode cX11_removesWorse 47 = .ok (.getfield 9, 3) := by decide +kernel
theorem dX11_removesWorse_50 : decode cX11_removesWorse 50 = .ok (.iaload, 1) := by decide +kernel
theorem dX11_removesWorse_51 : decode cX11_removesWorse 51 = .ok (.iastore, 1) := by decide +kernel
theorem dX11_removesWorse_52 : decode cX11_removesWorse 52 = .ok (.goto (-50), 3) := by decide +kernel
theorem dX11_removesWorse_55 : decode cX11_removesWorse 55 = .ok (.iinc 1 1, 3) := by decide +kernel
theorem dX11_removesWorse_58 : decode cX11_removesWorse 58 = .ok (.goto (-56), 3) := by decide +kernel
theorem dX11_removesWorse_61 : decode cX11_removesWorse 61 = .ok (.iconst 0, 1) := by decide +kernel
theorem dX11_removesWorse_62 : decode cX11_removesWorse 62 = .ok (.istore_n 1, 1) := by decide +kernel
theorem dX11_removesWorse_63 : decode cX11_removesWorse 63 = .ok (.iload_n 1, 1) := by decide +kernel
theorem dX11_removesWorse_64 : decode cX11_removesWorse 64 = .ok (.aload_n 0, 1) := by decide +kernel
theorem dX11_removesWorse_65 : decode cX11_removesWorse 65 = .ok (.getfield 20, 3) := by decide +kernel
theorem dX11_removesWorse_68 : decode cX11_removesWorse 68 = .ok (.if_icmp .ge 54, 3) := by decide +kernel
theorem dX11_removesWorse_71 : decode cX11_removesWorse 71 = .ok (.aload_n 0, 1) := by decide +kernel
theorem dX11_removesWorse_72 : decode cX11_removesWorse 72 = .ok (.aload_n 0, 1) := by decide +kernel
theorem dX11_removesWorse_73 : decode cX11_removesWorse 73 = .ok (.getfield 23, 3) := by decide +kernel
theorem dX11_removesWorse_76 : decode cX11_removesWorse 76 = .ok (.aload_n 0, 1) := by decide +kernel
theorem dX11_removesWorse_77 : decode cX11_removesWorse 77 = .ok (.getfield 20, 3) := by decide +kernel
theorem dX11_removesWorse_80 : decode cX11_removesWorse 80 = .ok (.iload_n 1, 1) := by decide +kernel
theorem dX11_removesWorse_81 : decode cX11_removesWorse 81 = .ok (.iconst 0, 1) := by decide +kernel
theorem dX11_removesWorse_82 : decode cX11_removesWorse 82 = .ok (.invokevirtual 155, 3) := by decide +kernel
theorem dX11_removesWorse_85 : decode cX11_removesWorse 85 = .ok (.ifCond .eq 31, 3) := by decide +kernel
theorem dX11_removesWorse_88 : decode cX11_removesWorse 88 = .ok (.aload_n 0, 1) := by decide +kernel
theorem dX11_removesWorse_89 : decode cX11_removesWorse 89 = .ok (.dup, 1) := by decide +kernel
theorem dX11_removesWorse_90 : decode cX11_removesWorse 90 = .ok (.getfield 20, 3) := by decide +kernel
theorem dX11_removesWorse_93 : decode cX11_removesWorse 93 = .ok (.iconst 1, 1) := by decide +kernel
theorem dX11_removesWorse_94 : decode cX11_removesWorse 94 = .ok (.isub, 1) := by decide +kernel
theorem dX11_removesWorse_95 : decode cX11_removesWorse 95 = .ok (.putfield 20, 3) := by decide +kernel
theorem dX11_removesWorse_98 : decode cX11_removesWorse 98 = .ok (.aload_n 0, 1) := by decide +kernel
theorem dX11_removesWorse_99 : decode cX11_removesWorse 99 = .ok (.getfield 23, 3) := by decide +kernel
theorem dX11_removesWorse_102 : decode cX11_removesWorse 102 = .ok (.iload_n 1, 1) := by decide +kernel
theorem dX11_removesWorse_103 : decode cX11_removesWorse 103 = .ok (.aload_n 0, 1) := by decide +kernel
theorem dX11_removesWorse_104 : decode cX11_removesWorse 104 = .ok (.getfield 23, 3) := by decide +kernel
theorem dX11_removesWorse_107 : decode cX11_removesWorse 107 = .ok (.aload_n 0, 1) := by decide +kernel
theorem dX11_removesWorse_108 : decode cX11_removesWorse 108 = .ok (.getfield 20, 3) := by decide +kernel
theorem dX11_removesWorse_111 : decode cX11_removesWorse 111 = .ok (.iaload, 1) := by decide +kernel
theorem dX11_removesWorse_112 : decode cX11_removesWorse 112 = .ok (.iastore, 1) := by decide +kernel
theorem dX11_removesWorse_113 : decode cX11_removesWorse 113 = .ok (.goto (-50), 3) := by decide +kernel
theorem dX11_removesWorse_116 : decode cX11_removesWorse 116 = .ok (.iinc 1 1, 3) := by decide +kernel
theorem dX11_removesWorse_119 : decode cX11_removesWorse 119 = .ok (.goto (-56), 3) := by decide +kernel
theorem dX11_removesWorse_122 : decode cX11_removesWorse 122 = .ok (.return_, 1) := by decide +kernel
theorem dX11_reply_0 : decode cX11_reply 0 = .ok (.iload_n 1, 1) := by decide +kernel
theorem dX11_reply_1 : decode cX11_reply 1 = .ok (.invokestatic 324, 3) := by decide +kernel
theorem dX11_reply_4 : decode cX11_reply 4 = .ok (.ifCond .eq 27, 3) := by decide +kernel
theorem dX11_reply_7 : decode cX11_reply 7 = .ok (.iload_n 2, 1) := by decide +kernel
theorem dX11_reply_8 : decode cX11_reply 8 = .ok (.invokestatic 324, 3) := by decide +kernel
theorem dX11_reply_11 : decode cX11_reply 11 = .ok (.ifCond .eq 20, 3) := by decide +kernel
theorem dX11_reply_14 : decode cX11_reply 14 = .ok (.iload_n 3, 1) := by decide +kernel
theorem dX11_reply_15 : decode cX11_reply 15 = .ok (.invokestatic 352, 3) := by decide +kernel
theorem dX11_reply_18 : decode cX11_reply 18 = .ok (.ifCond .eq 13, 3) := by decide +kernel
theorem dX11_reply_21 : decode cX11_reply 21 = .ok (.iload 4, 2) := by decide +kernel
theorem dX11_reply_23 : decode cX11_reply 23 = .ok (.iconst 0, 1) := by decide +kernel
theorem dX11_reply_24 : decode cX11_reply 24 = .ok (.iconst 1, 1) := by decide +kernel
theorem dX11_reply_25 : decode cX11_reply 25 = .ok (.invokestatic 106, 3) := by decide +kernel
theorem dX11_reply_28 : decode cX11_reply 28 = .ok (.ifCond .ne 9, 3) := by decide +kernel
theorem dX11_reply_31 : decode cX11_reply 31 = .ok (.aload_n 0, 1) := by decide +kernel
theorem dX11_reply_32 : decode cX11_reply 32 = .ok (.iconst 1, 1) := by decide +kernel
theorem dX11_reply_33 : decode cX11_reply 33 = .ok (.invokevirtual 300, 3) := by decide +kernel
theorem dX11_reply_36 : decode cX11_reply 36 = .ok (.ireturn, 1) := by decide +kernel
theorem dX11_reply_37 : decode cX11_reply 37 = .ok (.aload_n 0, 1) := by decide +kernel
theorem dX11_reply_38 : decode cX11_reply 38 = .ok (.invokevirtual 333, 3) := by decide +kernel
theorem dX11_reply_41 : decode cX11_reply 41 = .ok (.aload_n 0, 1) := by decide +kernel
theorem dX11_reply_42 : decode cX11_reply 42 = .ok (.aload_n 0, 1) := by decide +kernel
theorem dX11_reply_43 : decode cX11_reply 43 = .ok (.getfield 264, 3) := by decide +kernel
theorem dX11_reply_46 : decode cX11_reply 46 = .ok (.iload_n 1, 1) := by decide +kernel
theorem dX11_reply_47 : decode cX11_reply 47 = .ok (.iaload, 1) := by decide +kernel
theorem dX11_reply_48 : decode cX11_reply 48 = .ok (.aload_n 0, 1) := by decide +kernel
theorem dX11_reply_49 : decode cX11_reply 49 = .ok (.getfield 264, 3) := by decide +kernel
theorem dX11_reply_52 : decode cX11_reply 52 = .ok (.iload_n 2, 1) := by decide +kernel
theorem dX11_reply_53 : decode cX11_reply 53 = .ok (.iaload, 1) := by decide +kernel
theorem dX11_reply_54 : decode cX11_reply 54 = .ok (.iload_n 3, 1) := by decide +kernel
theorem dX11_reply_55 : decode cX11_reply 55 = .ok (.invokevirtual 380, 3) := by decide +kernel
theorem dX11_reply_58 : decode cX11_reply 58 = .ok (.istore 5, 2) := by decide +kernel
theorem dX11_reply_60 : decode cX11_reply 60 = .ok (.aload_n 0, 1) := by decide +kernel
theorem dX11_reply_61 : decode cX11_reply 61 = .ok (.aload_n 0, 1) := by decide +kernel
theorem dX11_reply_62 : decode cX11_reply 62 = .ok (.getfield 264, 3) := by decide +kernel
theorem dX11_reply_65 : decode cX11_reply 65 = .ok (.iload_n 1, 1) := by decide +kernel
theorem dX11_reply_66 : decode cX11_reply 66 = .ok (.iaload, 1) := by decide +kernel
theorem dX11_reply_67 : decode cX11_reply 67 = .ok (.iload_n 3, 1) := by decide +kernel
theorem dX11_reply_68 : decode cX11_reply 68 = .ok (.invokevirtual 327, 3) := by decide +kernel
theorem dX11_reply_71 : decode cX11_reply 71 = .ok (.istore 6, 2) := by decide +kernel
theorem dX11_reply_73 : decode cX11_reply 73 = .ok (.iload 5, 2) := by decide +kernel
theorem dX11_reply_75 : decode cX11_reply 75 = .ok (.ifCond .ge 9, 3) := by decide +kernel
theorem dX11_reply_78 : decode cX11_reply 78 = .ok (.aload_n 0, 1) := by decide +kernel
theorem dX11_reply_79 : decode cX11_reply 79 = .ok (.iconst 2, 1) := by decide +kernel
theorem dX11_reply_80 : decode cX11_reply 80 = .ok (.invokevirtual 300, 3) := by decide +kernel
theorem dX11_reply_83 : decode cX11_reply 83 = .ok (.ireturn, 1) := by decide +kernel
theorem dX11_reply_84 : decode cX11_reply 84 = .ok (.iload 4, 2) := by decide +kernel
theorem dX11_reply_86 : decode cX11_reply 86 = .ok (.ifCond .ne 18, 3) := by decide +kernel
theorem dX11_reply_89 : decode cX11_reply 89 = .ok (.iload 5, 2) := by decide +kernel
theorem dX11_reply_91 : decode cX11_reply 91 = .ok (.iload 6, 2) := by decide +kernel
theorem dX11_reply_93 : decode cX11_reply 93 = .ok (.if_icmp .ge 7, 3) := by decide +kernel
theorem dX11_reply_96 : decode cX11_reply 96 = .ok (.iconst 0, 1) := by decide +kernel
theorem dX11_reply_97 : decode cX11_reply 97 = .ok (.goto 24, 3) := by decide +kernel
theorem dX11_reply_100 : decode cX11_reply 100 = .ok (.iconst 1, 1) := by decide +kernel
theorem dX11_reply_101 : decode cX11_reply 101 = .ok (.goto 20, 3) := by decide +kernel
theorem dX11_reply_104 : decode cX11_reply 104 = .ok (.iload 5, 2) := by decide +kernel
theorem dX11_reply_106 : decode cX11_reply 106 = .ok (.iload 6, 2) := by decide +kernel
theorem dX11_reply_108 : decode cX11_reply 108 = .ok (.if_icmp .ge 8, 3) := by decide +kernel
theorem dX11_reply_111 : decode cX11_reply 111 = .ok (.iload 5, 2) := by decide +kernel
theorem dX11_reply_113 : decode cX11_reply 113 = .ok (.goto 8, 3) := by decide +kernel
theorem dX11_reply_116 : decode cX11_reply 116 = .ok (.iload 5, 2) := by decide +kernel
theorem dX11_reply_118 : decode cX11_reply 118 = .ok (.iload 6, 2) := by decide +kernel
theorem dX11_reply_120 : decode cX11_reply 120 = .ok (.isub, 1) := by decide +kernel
theorem dX11_reply_121 : decode cX11_reply 121 = .ok (.ireturn, 1) := by decide +kernel
theorem dX11_replyIn_0 : decode cX11_replyIn 0 = .ok (.aload_n 0, 1) := by decide +kernel
theorem dX11_replyIn_1 : decode cX11_replyIn 1 = .ok (.iload_n 1, 1) := by decide +kernel
theorem dX11_replyIn_2 : decode cX11_replyIn 2 = .ok (.iload_n 3, 1) := by decide +kernel
theorem dX11_replyIn_3 : decode cX11_replyIn 3 = .ok (.invokevirtual 327, 3) := by decide +kernel
theorem dX11_replyIn_6 : decode cX11_replyIn 6 = .ok (.istore 4, 2) := by decide +kernel
theorem dX11_replyIn_8 : decode cX11_replyIn 8 = .ok (.iload 4, 2) := by decide +kernel
theorem dX11_replyIn_10 : decode cX11_replyIn 10 = .ok (.aload_n 0, 1) := by decide +kernel
theorem dX11_replyIn_11 : decode cX11_replyIn 11 = .ok (.iload_n 2, 1) := by decide +kernel
theorem dX11_replyIn_12 : decode cX11_replyIn 12 = .ok (.iload_n 3, 1) := by decide +kernel
theorem dX11_replyIn_13 : decode cX11_replyIn 13 = .ok (.invokevirtual 327, 3) := by decide +kernel
theorem dX11_replyIn_16 : decode cX11_replyIn 16 = .ok (.iadd, 1) := by decide +kernel
theorem dX11_replyIn_17 : decode cX11_replyIn 17 = .ok (.istore 5, 2) := by decide +kernel
theorem dX11_replyIn_19 : decode cX11_replyIn 19 = .ok (.iconst 0, 1) := by decide +kernel
theorem dX11_replyIn_20 : decode cX11_replyIn 20 = .ok (.istore 6, 2) := by decide +kernel
theorem dX11_replyIn_22 : decode cX11_replyIn 22 = .ok (.iload 6, 2) := by decide +kernel
theorem dX11_replyIn_24 : decode cX11_replyIn 24 = .ok (.iload 5, 2) := by decide +kernel
theorem dX11_replyIn_26 : decode cX11_replyIn 26 = .ok (.if_icmp .ge 65, 3) := by decide +kernel
theorem dX11_replyIn_29 : decode cX11_replyIn 29 = .ok (.iload 6, 2) := by decide +kernel
theorem dX11_replyIn_31 : decode cX11_replyIn 31 = .ok (.iload 4, 2) := by decide +kernel
theorem dX11_replyIn_33 : decode cX11_replyIn 33 = .ok (.if_icmp .ge 19, 3) := by decide +kernel
theorem dX11_replyIn_36 : decode cX11_replyIn 36 = .ok (.aload_n 0, 1) := by decide +kernel
theorem dX11_replyIn_37 : decode cX11_replyIn 37 = .ok (.aload_n 0, 1) := by decide +kernel
theorem dX11_replyIn_38 : decode cX11_replyIn 38 = .ok (.iload_n 1, 1) := by decide +kernel
theorem dX11_replyIn_39 : decode cX11_replyIn 39 = .ok (.iload_n 3, 1) := by decide +kernel
theorem dX11_replyIn_40 : decode cX11_replyIn 40 = .ok (.iload 6, 2) := by decide +kernel
theorem dX11_replyIn_42 : decode cX11_replyIn 42 = .ok (.invokevirtual 355, 3) := by decide +kernel
theorem dX11_replyIn_45 : decode cX11_replyIn 45 = .ok (.iload_n 2, 1) := by decide +kernel
theorem dX11_replyIn_46 : decode cX11_replyIn 46 = .ok (.invokevirtual 191, 3) := by decide +kernel
theorem dX11_replyIn_49 : decode cX11_replyIn 49 = .ok (.goto 19, 3) := by decide +kernel
theorem dX11_replyIn_52 : decode cX11_replyIn 52 = .ok (.aload_n 0, 1) := by decide +kernel
theorem dX11_replyIn_53 : decode cX11_replyIn 53 = .ok (.iload_n 1, 1) := by decide +kernel
theorem dX11_replyIn_54 : decode cX11_replyIn 54 = .ok (.aload_n 0, 1) := by decide +kernel
theorem dX11_replyIn_55 : decode cX11_replyIn 55 = .ok (.iload_n 2, 1) := by decide +kernel
theorem dX11_replyIn_56 : decode cX11_replyIn 56 = .ok (.iload_n 3, 1) := by decide +kernel
theorem dX11_replyIn_57 : decode cX11_replyIn 57 = .ok (.iload 6, 2) := by decide +kernel
theorem dX11_replyIn_59 : decode cX11_replyIn 59 = .ok (.iload 4, 2) := by decide +kernel
theorem dX11_replyIn_61 : decode cX11_replyIn 61 = .ok (.isub, 1) := by decide +kernel
theorem dX11_replyIn_62 : decode cX11_replyIn 62 = .ok (.invokevirtual 355, 3) := by decide +kernel
theorem dX11_replyIn_65 : decode cX11_replyIn 65 = .ok (.invokevirtual 191, 3) := by decide +kernel
theorem dX11_replyIn_68 : decode cX11_replyIn 68 = .ok (.istore 7, 2) := by decide +kernel
theorem dX11_replyIn_70 : decode cX11_replyIn 70 = .ok (.aload_n 0, 1) := by decide +kernel
theorem dX11_replyIn_71 : decode cX11_replyIn 71 = .ok (.iload 7, 2) := by decide +kernel
theorem dX11_replyIn_73 : decode cX11_replyIn 73 = .ok (.iconst 1, 1) := by decide +kernel
theorem dX11_replyIn_74 : decode cX11_replyIn 74 = .ok (.iload_n 3, 1) := by decide +kernel
theorem dX11_replyIn_75 : decode cX11_replyIn 75 = .ok (.isub, 1) := by decide +kernel
theorem dX11_replyIn_76 : decode cX11_replyIn 76 = .ok (.invokevirtual 377, 3) := by decide +kernel
theorem dX11_replyIn_79 : decode cX11_replyIn 79 = .ok (.ifCond .ne 6, 3) := by decide +kernel
theorem dX11_replyIn_82 : decode cX11_replyIn 82 = .ok (.iload 6, 2) := by decide +kernel
theorem dX11_replyIn_84 : decode cX11_replyIn 84 = .ok (.ireturn, 1) := by decide +kernel
theorem dX11_replyIn_85 : decode cX11_replyIn 85 = .ok (.iinc 6 1, 3) := by decide +kernel
theorem dX11_replyIn_88 : decode cX11_replyIn 88 = .ok (.goto (-66), 3) := by decide +kernel
theorem dX11_replyIn_91 : decode cX11_replyIn 91 = .ok (.iconst (-1), 1) := by decide +kernel
theorem dX11_replyIn_92 : decode cX11_replyIn 92 = .ok (.ireturn, 1) := by decide +kernel
theorem dX11_restore_0 : decode cX11_restore 0 = .ok (.aload_n 0, 1) := by decide +kernel
theorem dX11_restore_1 : decode cX11_restore 1 = .ok (.getfield 475, 3) := by decide +kernel
theorem dX11_restore_4 : decode cX11_restore 4 = .ok (.ifCond .ne 9, 3) := by decide +kernel
theorem dX11_restore_7 : decode cX11_restore 7 = .ok (.aload_n 0, 1) := by decide +kernel
theorem dX11_restore_8 : decode cX11_restore 8 = .ok (.iconst 2, 1) := by decide +kernel
theorem dX11_restore_9 : decode cX11_restore 9 = .ok (.invokevirtual 300, 3) := by decide +kernel
theorem dX11_restore_12 : decode cX11_restore 12 = .ok (.ireturn, 1) := by decide +kernel
theorem dX11_restore_13 : decode cX11_restore 13 = .ok (.iconst 0, 1) := by decide +kernel
theorem dX11_restore_14 : decode cX11_restore 14 = .ok (.istore_n 1, 1) := by decide +kernel
theorem dX11_restore_15 : decode cX11_restore 15 = .ok (.iload_n 1, 1) := by decide +kernel
theorem dX11_restore_16 : decode cX11_restore 16 = .ok (.bipush 8, 2) := by decide +kernel
theorem dX11_restore_18 : decode cX11_restore 18 = .ok (.if_icmp .ge 21, 3) := by decide +kernel
theorem dX11_restore_21 : decode cX11_restore 21 = .ok (.aload_n 0, 1) := by decide +kernel
theorem dX11_restore_22 : decode cX11_restore 22 = .ok (.getfield 264, 3) := by decide +kernel
theorem dX11_restore_25 : decode cX11_restore 25 = .ok (.iload_n 1, 1) := by decide +kernel
theorem dX11_restore_26 : decode cX11_restore 26 = .ok (.aload_n 0, 1) := by decide +kernel
theorem dX11_restore_27 : decode cX11_restore 27 = .ok (.getfield 273, 3) := by decide +kernel
theorem dX11_restore_30 : decode cX11_restore 30 = .ok (.iload_n 1, 1) := by decide +kernel
theorem dX11_restore_31 : decode cX11_restore 31 = .ok (.iaload, 1) := by decide +kernel
theorem dX11_restore_32 : decode cX11_restore 32 = .ok (.iastore, 1) := by decide +kernel
theorem dX11_restore_33 : decode cX11_restore 33 = .ok (.iinc 1 1, 3) := by decide +kernel
theorem dX11_restore_36 : decode cX11_restore 36 = .ok (.goto (-21), 3) := by decide +kernel
theorem dX11_restore_39 : decode cX11_restore 39 = .ok (.aload_n 0, 1) := by decide +kernel
theorem dX11_restore_40 : decode cX11_restore 40 = .ok (.iconst 0, 1) := by decide +kernel
theorem dX11_restore_41 : decode cX11_restore 41 = .ok (.putfield 303, 3) := by decide +kernel
theorem dX11_restore_44 : decode cX11_restore 44 = .ok (.aload_n 0, 1) := by decide +kernel
theorem dX11_restore_45 : decode cX11_restore 45 = .ok (.invokevirtual 478, 3) := by decide +kernel
theorem dX11_restore_48 : decode cX11_restore 48 = .ok (.ireturn, 1) := by decide +kernel
theorem dX11_rightBack_0 : decode cX11_rightBack 0 = .ok (.aload_n 0, 1) := by decide +kernel
theorem dX11_rightBack_1 : decode cX11_rightBack 1 = .ok (.getfield 29, 3) := by decide +kernel
theorem dX11_rightBack_4 : decode cX11_rightBack 4 = .ok (.iload_n 1, 1) := by decide +kernel
theorem dX11_rightBack_5 : decode cX11_rightBack 5 = .ok (.iaload, 1) := by decide +kernel
theorem dX11_rightBack_6 : decode cX11_rightBack 6 = .ok (.istore_n 2, 1) := by decide +kernel
theorem dX11_rightBack_7 : decode cX11_rightBack 7 = .ok (.iload_n 2, 1) := by decide +kernel
theorem dX11_rightBack_8 : decode cX11_rightBack 8 = .ok (.aload_n 0, 1) := by decide +kernel
theorem dX11_rightBack_9 : decode cX11_rightBack 9 = .ok (.getfield 26, 3) := by decide +kernel
theorem dX11_rightBack_12 : decode cX11_rightBack 12 = .ok (.iload_n 1, 1) := by decide +kernel
theorem dX11_rightBack_13 : decode cX11_rightBack 13 = .ok (.iaload, 1) := by decide +kernel
theorem dX11_rightBack_14 : decode cX11_rightBack 14 = .ok (.if_icmp .ge 29, 3) := by decide +kernel
theorem dX11_rightBack_17 : decode cX11_rightBack 17 = .ok (.aload_n 0, 1) := by decide +kernel
theorem dX11_rightBack_18 : decode cX11_rightBack 18 = .ok (.aload_n 0, 1) := by decide +kernel
theorem dX11_rightBack_19 : decode cX11_rightBack 19 = .ok (.getfield 35, 3) := by decide +kernel
theorem dX11_rightBack_22 : decode cX11_rightBack 22 = .ok (.iload_n 2, 1) := by decide +kernel
theorem dX11_rightBack_23 : decode cX11_rightBack 23 = .ok (.iaload, 1) := by decide +kernel
theorem dX11_rightBack_24 : decode cX11_rightBack 24 = .ok (.invokevirtual 134, 3) := by decide +kernel
theorem dX11_rightBack_27 : decode cX11_rightBack 27 = .ok (.ifCond .eq 10, 3) := by decide +kernel
theorem dX11_rightBack_30 : decode cX11_rightBack 30 = .ok (.aload_n 0, 1) := by decide +kernel
theorem dX11_rightBack_31 : decode cX11_rightBack 31 = .ok (.getfield 35, 3) := by decide +kernel
theorem dX11_rightBack_34 : decode cX11_rightBack 34 = .ok (.iload_n 2, 1) := by decide +kernel
theorem dX11_rightBack_35 : decode cX11_rightBack 35 = .ok (.iaload, 1) := by decide +kernel
theorem dX11_rightBack_36 : decode cX11_rightBack 36 = .ok (.ireturn, 1) := by decide +kernel
theorem dX11_rightBack_37 : decode cX11_rightBack 37 = .ok (.iinc 2 1, 3) := by decide +kernel
theorem dX11_rightBack_40 : decode cX11_rightBack 40 = .ok (.goto (-33), 3) := by decide +kernel
theorem dX11_rightBack_43 : decode cX11_rightBack 43 = .ok (.iconst (-1), 1) := by decide +kernel
theorem dX11_rightBack_44 : decode cX11_rightBack 44 = .ok (.ireturn, 1) := by decide +kernel
theorem dX11_sheet_0 : decode cX11_sheet 0 = .ok (.iload_n 1, 1) := by decide +kernel
theorem dX11_sheet_1 : decode cX11_sheet 1 = .ok (.invokestatic 383, 3) := by decide +kernel
theorem dX11_sheet_4 : decode cX11_sheet 4 = .ok (.ifCond .eq 25, 3) := by decide +kernel
theorem dX11_sheet_7 : decode cX11_sheet 7 = .ok (.iload_n 2, 1) := by decide +kernel
theorem dX11_sheet_8 : decode cX11_sheet 8 = .ok (.ifCond .eq 27, 3) := by decide +kernel
theorem dX11_sheet_11 : decode cX11_sheet 11 = .ok (.iload_n 2, 1) := by decide +kernel
theorem dX11_sheet_12 : decode cX11_sheet 12 = .ok (.bipush 8, 2) := by decide +kernel
theorem dX11_sheet_14 : decode cX11_sheet 14 = .ok (.if_icmp .eq 21, 3) := by decide +kernel
theorem dX11_sheet_17 : decode cX11_sheet 17 = .ok (.iload_n 2, 1) := by decide +kernel
theorem dX11_sheet_18 : decode cX11_sheet 18 = .ok (.bipush 16, 2) := by decide +kernel
theorem dX11_sheet_20 : decode cX11_sheet 20 = .ok (.if_icmp .eq 15, 3) := by decide +kernel
theorem dX11_sheet_23 : decode cX11_sheet 23 = .ok (.iload_n 2, 1) := by decide +kernel
theorem dX11_sheet_24 : decode cX11_sheet 24 = .ok (.bipush 32, 2) := by decide +kernel
theorem dX11_sheet_26 : decode cX11_sheet 26 = .ok (.if_icmp .eq 9, 3) := by decide +kernel
theorem dX11_sheet_29 : decode cX11_sheet 29 = .ok (.aload_n 0, 1) := by decide +kernel
theorem dX11_sheet_30 : decode cX11_sheet 30 = .ok (.iconst 1, 1) := by decide +kernel
theorem dX11_sheet_31 : decode cX11_sheet 31 = .ok (.invokevirtual 300, 3) := by decide +kernel
theorem dX11_sheet_34 : decode cX11_sheet 34 = .ok (.ireturn, 1) := by decide +kernel
theorem dX11_sheet_35 : decode cX11_sheet 35 = .ok (.iload_n 2, 1) := by decide +kernel
theorem dX11_sheet_36 : decode cX11_sheet 36 = .ok (.ifCond .eq 13, 3) := by decide +kernel
theorem dX11_sheet_39 : decode cX11_sheet 39 = .ok (.iload_n 3, 1) := by decide +kernel
theorem dX11_sheet_40 : decode cX11_sheet 40 = .ok (.ifCond .ge 9, 3) := by decide +kernel
theorem dX11_sheet_43 : decode cX11_sheet 43 = .ok (.aload_n 0, 1) := by decide +kernel
theorem dX11_sheet_44 : decode cX11_sheet 44 = .ok (.iconst 3, 1) := by decide +kernel
theorem dX11_sheet_45 : decode cX11_sheet 45 = .ok (.invokevirtual 300, 3) := by decide +kernel
theorem dX11_sheet_48 : decode cX11_sheet 48 = .ok (.ireturn, 1) := by decide +kernel
theorem dX11_sheet_49 : decode cX11_sheet 49 = .ok (.iload_n 2, 1) := by decide +kernel
theorem dX11_sheet_50 : decode cX11_sheet 50 = .ok (.ifCond .eq 15, 3) := by decide +kernel
theorem dX11_sheet_53 : decode cX11_sheet 53 = .ok (.iload_n 3, 1) := by decide +kernel
theorem dX11_sheet_54 : decode cX11_sheet 54 = .ok (.bipush 24, 2) := by decide +kernel
theorem dX11_sheet_56 : decode cX11_sheet 56 = .ok (.if_icmp .le 9, 3) := by decide +kernel
theorem dX11_sheet_59 : decode cX11_sheet 59 = .ok (.aload_n 0, 1) := by decide +kernel
theorem dX11_sheet_60 : decode cX11_sheet 60 = .ok (.iconst 1, 1) := by decide +kernel
theorem dX11_sheet_61 : decode cX11_sheet 61 = .ok (.invokevirtual 300, 3) := by decide +kernel
theorem dX11_sheet_64 : decode cX11_sheet 64 = .ok (.ireturn, 1) := by decide +kernel
theorem dX11_sheet_65 : decode cX11_sheet 65 = .ok (.aload_n 0, 1) := by decide +kernel
theorem dX11_sheet_66 : decode cX11_sheet 66 = .ok (.getfield 288, 3) := by decide +kernel
theorem dX11_sheet_69 : decode cX11_sheet 69 = .ok (.iload_n 1, 1) := by decide +kernel
theorem dX11_sheet_70 : decode cX11_sheet 70 = .ok (.iload_n 2, 1) := by decide +kernel
theorem dX11_sheet_71 : decode cX11_sheet 71 = .ok (.iastore, 1) := by decide +kernel
theorem dX11_sheet_72 : decode cX11_sheet 72 = .ok (.aload_n 0, 1) := by decide +kernel
theorem dX11_sheet_73 : decode cX11_sheet 73 = .ok (.getfield 291, 3) := by decide +kernel
theorem dX11_sheet_76 : decode cX11_sheet 76 = .ok (.iload_n 1, 1) := by decide +kernel
theorem dX11_sheet_77 : decode cX11_sheet 77 = .ok (.iload_n 2, 1) := by decide +kernel
theorem dX11_sheet_78 : decode cX11_sheet 78 = .ok (.ifCond .ne 7, 3) := by decide +kernel
theorem dX11_sheet_81 : decode cX11_sheet 81 = .ok (.iconst 0, 1) := by decide +kernel
theorem dX11_sheet_82 : decode cX11_sheet 82 = .ok (.goto 4, 3) := by decide +kernel
theorem dX11_sheet_85 : decode cX11_sheet 85 = .ok (.iload_n 3, 1) := by decide +kernel
theorem dX11_sheet_86 : decode cX11_sheet 86 = .ok (.iastore, 1) := by decide +kernel
theorem dX11_sheet_87 : decode cX11_sheet 87 = .ok (.iconst 0, 1) := by decide +kernel
theorem dX11_sheet_88 : decode cX11_sheet 88 = .ok (.istore 4, 2) := by decide +kernel
theorem dX11_sheet_90 : decode cX11_sheet 90 = .ok (.iload 4, 2) := by decide +kernel
theorem dX11_sheet_92 : decode cX11_sheet 92 = .ok (.bipush 24, 2) := by decide +kernel
theorem dX11_sheet_94 : decode cX11_sheet 94 = .ok (.if_icmp .ge 22, 3) := by decide +kernel
theorem dX11_sheet_97 : decode cX11_sheet 97 = .ok (.aload_n 0, 1) := by decide +kernel
theorem dX11_sheet_98 : decode cX11_sheet 98 = .ok (.getfield 294, 3) := by decide +kernel
theorem dX11_sheet_101 : decode cX11_sheet 101 = .ok (.bipush 24, 2) := by decide +kernel
theorem dX11_sheet_103 : decode cX11_sheet 103 = .ok (.iload_n 1, 1) := by decide +kernel
theorem dX11_sheet_104 : decode cX11_sheet 104 = .ok (.imul, 1) := by decide +kernel
theorem dX11_sheet_105 : decode cX11_sheet 105 = .ok (.iload 4, 2) := by decide +kernel
theorem dX11_sheet_107 : decode cX11_sheet 107 = .ok (.iadd, 1) := by decide +kernel
theorem dX11_sheet_108 : decode cX11_sheet 108 = .ok (.iconst 0, 1) := by decide +kernel
theorem dX11_sheet_109 : decode cX11_sheet 109 = .ok (.iastore, 1) := by decide +kernel
theorem dX11_sheet_110 : decode cX11_sheet 110 = .ok (.iinc 4 1, 3) := by decide +kernel
theorem dX11_sheet_113 : decode cX11_sheet 113 = .ok (.goto (-23), 3) := by decide +kernel
theorem dX11_sheet_116 : decode cX11_sheet 116 = .ok (.iconst 1, 1) := by decide +kernel
theorem dX11_sheet_117 : decode cX11_sheet 117 = .ok (.ireturn, 1) := by decide +kernel
theorem dX11_sheetsThere_0 : decode cX11_sheetsThere 0 = .ok (.iconst 0, 1) := by decide +kernel
theorem dX11_sheetsThere_1 : decode cX11_sheetsThere 1 = .ok (.istore_n 1, 1) := by decide +kernel
theorem dX11_sheetsThere_2 : decode cX11_sheetsThere 2 = .ok (.iconst 0, 1) := by decide +kernel
theorem dX11_sheetsThere_3 : decode cX11_sheetsThere 3 = .ok (.istore_n 2, 1) := by decide +kernel
theorem dX11_sheetsThere_4 : decode cX11_sheetsThere 4 = .ok (.iload_n 2, 1) := by decide +kernel
theorem dX11_sheetsThere_5 : decode cX11_sheetsThere 5 = .ok (.iconst 4, 1) := by decide +kernel
theorem dX11_sheetsThere_6 : decode cX11_sheetsThere 6 = .ok (.if_icmp .ge 26, 3) := by decide +kernel
theorem dX11_sheetsThere_9 : decode cX11_sheetsThere 9 = .ok (.iload_n 1, 1) := by decide +kernel
theorem dX11_sheetsThere_10 : decode cX11_sheetsThere 10 = .ok (.aload_n 0, 1) := by decide +kernel
theorem dX11_sheetsThere_11 : decode cX11_sheetsThere 11 = .ok (.getfield 288, 3) := by decide +kernel
theorem dX11_sheetsThere_14 : decode cX11_sheetsThere 14 = .ok (.iload_n 2, 1) := by decide +kernel
theorem dX11_sheetsThere_15 : decode cX11_sheetsThere 15 = .ok (.iaload, 1) := by decide +kernel
theorem dX11_sheetsThere_16 : decode cX11_sheetsThere 16 = .ok (.ifCond .ne 7, 3) := by decide +kernel
theorem dX11_sheetsThere_19 : decode cX11_sheetsThere 19 = .ok (.iconst 0, 1) := by decide +kernel
theorem dX11_sheetsThere_20 : decode cX11_sheetsThere 20 = .ok (.goto 4, 3) := by decide +kernel
theorem dX11_sheetsThere_23 : decode cX11_sheetsThere 23 = .ok (.iconst 1, 1) := by decide +kernel
theorem dX11_sheetsThere_24 : decode cX11_sheetsThere 24 = .ok (.iadd, 1) := by decide +kernel
theorem dX11_sheetsThere_25 : decode cX11_sheetsThere 25 = .ok (.istore_n 1, 1) := by decide +kernel
theorem dX11_sheetsThere_26 : decode cX11_sheetsThere 26 = .ok (.iinc 2 1, 3) := by decide +kernel
theorem dX11_sheetsThere_29 : decode cX11_sheetsThere 29 = .ok (.goto (-25), 3) := by decide +kernel
theorem dX11_sheetsThere_32 : decode cX11_sheetsThere 32 = .ok (.iload_n 1, 1) := by decide +kernel
theorem dX11_sheetsThere_33 : decode cX11_sheetsThere 33 = .ok (.ireturn, 1) := by decide +kernel
theorem dX11_slot_0 : decode cX11_slot 0 = .ok (.iload_n 1, 1) := by decide +kernel
theorem dX11_slot_1 : decode cX11_slot 1 = .ok (.invokestatic 324, 3) := by decide +kernel
theorem dX11_slot_4 : decode cX11_slot 4 = .ok (.ifCond .eq 13, 3) := by decide +kernel
theorem dX11_slot_7 : decode cX11_slot 7 = .ok (.iload_n 2, 1) := by decide +kernel
theorem dX11_slot_8 : decode cX11_slot 8 = .ok (.iconst 0, 1) := by decide +kernel
theorem dX11_slot_9 : decode cX11_slot 9 = .ok (.bipush 8, 2) := by decide +kernel
theorem dX11_slot_11 : decode cX11_slot 11 = .ok (.invokestatic 106, 3) := by decide +kernel
theorem dX11_slot_14 : decode cX11_slot 14 = .ok (.ifCond .ne 9, 3) := by decide +kernel
theorem dX11_slot_17 : decode cX11_slot 17 = .ok (.aload_n 0, 1) := by decide +kernel
theorem dX11_slot_18 : decode cX11_slot 18 = .ok (.iconst 1, 1) := by decide +kernel
theorem dX11_slot_19 : decode cX11_slot 19 = .ok (.invokevirtual 300, 3) := by decide +kernel
theorem dX11_slot_22 : decode cX11_slot 22 = .ok (.ireturn, 1) := by decide +kernel
theorem dX11_slot_23 : decode cX11_slot 23 = .ok (.aload_n 0, 1) := by decide +kernel
theorem dX11_slot_24 : decode cX11_slot 24 = .ok (.getfield 264, 3) := by decide +kernel
theorem dX11_slot_27 : decode cX11_slot 27 = .ok (.iload_n 1, 1) := by decide +kernel
theorem dX11_slot_28 : decode cX11_slot 28 = .ok (.iaload, 1) := by decide +kernel
theorem dX11_slot_29 : decode cX11_slot 29 = .ok (.istore_n 3, 1) := by decide +kernel
theorem dX11_slot_30 : decode cX11_slot 30 = .ok (.iload_n 2, 1) := by decide +kernel
theorem dX11_slot_31 : decode cX11_slot 31 = .ok (.tableswitch 103 0 7 #[45, 51, 58, 58, 67, 74, 89, 96], 45) := by decide +kernel
theorem dX11_slot_76 : decode cX11_slot 76 = .ok (.aload_n 0, 1) := by decide +kernel
theorem dX11_slot_77 : decode cX11_slot 77 = .ok (.iload_n 3, 1) := by decide +kernel
theorem dX11_slot_78 : decode cX11_slot 78 = .ok (.invokevirtual 218, 3) := by decide +kernel
theorem dX11_slot_81 : decode cX11_slot 81 = .ok (.ireturn, 1) := by decide +kernel
theorem dX11_slot_82 : decode cX11_slot 82 = .ok (.aload_n 0, 1) := by decide +kernel
theorem dX11_slot_83 : decode cX11_slot 83 = .ok (.getfield 103, 3) := by decide +kernel
theorem dX11_slot_86 : decode cX11_slot 86 = .ok (.iload_n 3, 1) := by decide +kernel
theorem dX11_slot_87 : decode cX11_slot 87 = .ok (.iaload, 1) := by decide +kernel
theorem dX11_slot_88 : decode cX11_slot 88 = .ok (.ireturn, 1) := by decide +kernel
theorem dX11_slot_89 : decode cX11_slot 89 = .ok (.aload_n 0, 1) := by decide +kernel
theorem dX11_slot_90 : decode cX11_slot 90 = .ok (.iload_n 3, 1) := by decide +kernel
theorem dX11_slot_91 : decode cX11_slot 91 = .ok (.iload_n 2, 1) := by decide +kernel
theorem dX11_slot_92 : decode cX11_slot 92 = .ok (.iconst 2, 1) := by decide +kernel
theorem dX11_slot_93 : decode cX11_slot 93 = .ok (.isub, 1) := by decide +kernel
theorem dX11_slot_94 : decode cX11_slot 94 = .ok (.invokevirtual 327, 3) := by decide +kernel
theorem dX11_slot_97 : decode cX11_slot 97 = .ok (.ireturn, 1) := by decide +kernel
theorem dX11_slot_98 : decode cX11_slot 98 = .ok (.aload_n 0, 1) := by decide +kernel
theorem dX11_slot_99 : decode cX11_slot 99 = .ok (.iload_n 3, 1) := by decide +kernel
theorem dX11_slot_100 : decode cX11_slot 100 = .ok (.iconst 0, 1) := by decide +kernel
theorem dX11_slot_101 : decode cX11_slot 101 = .ok (.invokevirtual 330, 3) := by decide +kernel
theorem dX11_slot_104 : decode cX11_slot 104 = .ok (.ireturn, 1) := by decide +kernel
theorem dX11_slot_105 : decode cX11_slot 105 = .ok (.aload_n 0, 1) := by decide +kernel
theorem dX11_slot_106 : decode cX11_slot 106 = .ok (.getfield 91, 3) := by decide +kernel
theorem dX11_slot_109 : decode cX11_slot 109 = .ok (.iload_n 3, 1) := by decide +kernel
theorem dX11_slot_110 : decode cX11_slot 110 = .ok (.baload, 1) := by decide +kernel
theorem dX11_slot_111 : decode cX11_slot 111 = .ok (.ifCond .eq 7, 3) := by decide +kernel
theorem dX11_slot_114 : decode cX11_slot 114 = .ok (.iconst 1, 1) := by decide +kernel
theorem dX11_slot_115 : decode cX11_slot 115 = .ok (.goto 4, 3) := by decide +kernel
theorem dX11_slot_118 : decode cX11_slot 118 = .ok (.iconst 0, 1) := by decide +kernel
theorem dX11_slot_119 : decode cX11_slot 119 = .ok (.ireturn, 1) := by decide +kernel
theorem dX11_slot_120 : decode cX11_slot 120 = .ok (.aload_n 0, 1) := by decide +kernel
theorem dX11_slot_121 : decode cX11_slot 121 = .ok (.getfield 97, 3) := by decide +kernel
theorem dX11_slot_124 : decode cX11_slot 124 = .ok (.iload_n 3, 1) := by decide +kernel
theorem dX11_slot_125 : decode cX11_slot 125 = .ok (.iaload, 1) := by decide +kernel
theorem dX11_slot_126 : decode cX11_slot 126 = .ok (.ireturn, 1) := by decide +kernel
theorem dX11_slot_127 : decode cX11_slot 127 = .ok (.aload_n 0, 1) := by decide +kernel
theorem dX11_slot_128 : decode cX11_slot 128 = .ok (.getfield 85, 3) := by decide +kernel
theorem dX11_slot_131 : decode cX11_slot 131 = .ok (.iload_n 3, 1) := by decide +kernel
theorem dX11_slot_132 : decode cX11_slot 132 = .ok (.iaload, 1) := by decide +kernel
theorem dX11_slot_133 : decode cX11_slot 133 = .ok (.ireturn, 1) := by decide +kernel
theorem dX11_slot_134 : decode cX11_slot 134 = .ok (.aload_n 0, 1) := by decide +kernel
theorem dX11_slot_135 : decode cX11_slot 135 = .ok (.getfield 79, 3) := by decide +kernel
theorem dX11_slot_138 : decode cX11_slot 138 = .ok (.iload_n 3, 1) := by decide +kernel
theorem dX11_slot_139 : decode cX11_slot 139 = .ok (.iaload, 1) := by decide +kernel
theorem dX11_slot_140 : decode cX11_slot 140 = .ok (.sipush (-1000), 3) := by decide +kernel
theorem dX11_slot_143 : decode cX11_slot 143 = .ok (.if_icmp .ne 7, 3) := by decide +kernel
theorem dX11_slot_146 : decode cX11_slot 146 = .ok (.iconst 0, 1) := by decide +kernel
theorem dX11_slot_147 : decode cX11_slot 147 = .ok (.goto 4, 3) := by decide +kernel
theorem dX11_slot_150 : decode cX11_slot 150 = .ok (.iconst 1, 1) := by decide +kernel
theorem dX11_slot_151 : decode cX11_slot 151 = .ok (.ireturn, 1) := by decide +kernel
theorem dX11_smallSlots_0 : decode cX11_smallSlots 0 = .ok (.iconst 0, 1) := by decide +kernel
theorem dX11_smallSlots_1 : decode cX11_smallSlots 1 = .ok (.istore_n 1, 1) := by decide +kernel
theorem dX11_smallSlots_2 : decode cX11_smallSlots 2 = .ok (.iconst 0, 1) := by decide +kernel
theorem dX11_smallSlots_3 : decode cX11_smallSlots 3 = .ok (.istore_n 2, 1) := by decide +kernel
theorem dX11_smallSlots_4 : decode cX11_smallSlots 4 = .ok (.iload_n 2, 1) := by decide +kernel
theorem dX11_smallSlots_5 : decode cX11_smallSlots 5 = .ok (.bipush 8, 2) := by decide +kernel
theorem dX11_smallSlots_7 : decode cX11_smallSlots 7 = .ok (.if_icmp .ge 31, 3) := by decide +kernel
theorem dX11_smallSlots_10 : decode cX11_smallSlots 10 = .ok (.iload_n 1, 1) := by decide +kernel
theorem dX11_smallSlots_11 : decode cX11_smallSlots 11 = .ok (.aload_n 0, 1) := by decide +kernel
theorem dX11_smallSlots_12 : decode cX11_smallSlots 12 = .ok (.getfield 91, 3) := by decide +kernel
theorem dX11_smallSlots_15 : decode cX11_smallSlots 15 = .ok (.aload_n 0, 1) := by decide +kernel
theorem dX11_smallSlots_16 : decode cX11_smallSlots 16 = .ok (.getfield 264, 3) := by decide +kernel
theorem dX11_smallSlots_19 : decode cX11_smallSlots 19 = .ok (.iload_n 2, 1) := by decide +kernel
theorem dX11_smallSlots_20 : decode cX11_smallSlots 20 = .ok (.iaload, 1) := by decide +kernel
theorem dX11_smallSlots_21 : decode cX11_smallSlots 21 = .ok (.baload, 1) := by decide +kernel
theorem dX11_smallSlots_22 : decode cX11_smallSlots 22 = .ok (.ifCond .eq 7, 3) := by decide +kernel
theorem dX11_smallSlots_25 : decode cX11_smallSlots 25 = .ok (.iconst 1, 1) := by decide +kernel
theorem dX11_smallSlots_26 : decode cX11_smallSlots 26 = .ok (.goto 4, 3) := by decide +kernel
theorem dX11_smallSlots_29 : decode cX11_smallSlots 29 = .ok (.iconst 0, 1) := by decide +kernel
theorem dX11_smallSlots_30 : decode cX11_smallSlots 30 = .ok (.iadd, 1) := by decide +kernel
theorem dX11_smallSlots_31 : decode cX11_smallSlots 31 = .ok (.istore_n 1, 1) := by decide +kernel
theorem dX11_smallSlots_32 : decode cX11_smallSlots 32 = .ok (.iinc 2 1, 3) := by decide +kernel
theorem dX11_smallSlots_35 : decode cX11_smallSlots 35 = .ok (.goto (-31), 3) := by decide +kernel
theorem dX11_smallSlots_38 : decode cX11_smallSlots 38 = .ok (.iload_n 1, 1) := by decide +kernel
theorem dX11_smallSlots_39 : decode cX11_smallSlots 39 = .ok (.ireturn, 1) := by decide +kernel
theorem dX11_sorts_0 : decode cX11_sorts 0 = .ok (.aload_n 0, 1) := by decide +kernel
theorem dX11_sorts_1 : decode cX11_sorts 1 = .ok (.getfield 71, 3) := by decide +kernel
theorem dX11_sorts_4 : decode cX11_sorts 4 = .ok (.iload_n 1, 1) := by decide +kernel
theorem dX11_sorts_5 : decode cX11_sorts 5 = .ok (.baload, 1) := by decide +kernel
theorem dX11_sorts_6 : decode cX11_sorts 6 = .ok (.ifCond .eq 4, 3) := by decide +kernel
theorem dX11_sorts_9 : decode cX11_sorts 9 = .ok (.return_, 1) := by decide +kernel
theorem dX11_sorts_10 : decode cX11_sorts 10 = .ok (.aload_n 0, 1) := by decide +kernel
theorem dX11_sorts_11 : decode cX11_sorts 11 = .ok (.getfield 29, 3) := by decide +kernel
theorem dX11_sorts_14 : decode cX11_sorts 14 = .ok (.iload_n 1, 1) := by decide +kernel
theorem dX11_sorts_15 : decode cX11_sorts 15 = .ok (.iaload, 1) := by decide +kernel
theorem dX11_sorts_16 : decode cX11_sorts 16 = .ok (.istore_n 2, 1) := by decide +kernel
theorem dX11_sorts_17 : decode cX11_sorts 17 = .ok (.iload_n 2, 1) := by decide +kernel
theorem dX11_sorts_18 : decode cX11_sorts 18 = .ok (.aload_n 0, 1) := by decide +kernel
theorem dX11_sorts_19 : decode cX11_sorts 19 = .ok (.getfield 32, 3) := by decide +kernel
theorem dX11_sorts_22 : decode cX11_sorts 22 = .ok (.iload_n 1, 1) := by decide +kernel
theorem dX11_sorts_23 : decode cX11_sorts 23 = .ok (.iaload, 1) := by decide +kernel
theorem dX11_sorts_24 : decode cX11_sorts 24 = .ok (.if_icmp .ge 19, 3) := by decide +kernel
theorem dX11_sorts_27 : decode cX11_sorts 27 = .ok (.aload_n 0, 1) := by decide +kernel
theorem dX11_sorts_28 : decode cX11_sorts 28 = .ok (.aload_n 0, 1) := by decide +kernel
theorem dX11_sorts_29 : decode cX11_sorts 29 = .ok (.getfield 35, 3) := by decide +kernel
theorem dX11_sorts_32 : decode cX11_sorts 32 = .ok (.iload_n 2, 1) := by decide +kernel
theorem dX11_sorts_33 : decode cX11_sorts 33 = .ok (.iaload, 1) := by decide +kernel
theorem dX11_sorts_34 : decode cX11_sorts 34 = .ok (.invokevirtual 249, 3) := by decide +kernel
theorem dX11_sorts_37 : decode cX11_sorts 37 = .ok (.iinc 2 1, 3) := by decide +kernel
theorem dX11_sorts_40 : decode cX11_sorts 40 = .ok (.goto (-23), 3) := by decide +kernel
theorem dX11_sorts_43 : decode cX11_sorts 43 = .ok (.aload_n 0, 1) := by decide +kernel
theorem dX11_sorts_44 : decode cX11_sorts 44 = .ok (.aload_n 0, 1) := by decide +kernel
theorem dX11_sorts_45 : decode cX11_sorts 45 = .ok (.getfield 35, 3) := by decide +kernel
theorem dX11_sorts_48 : decode cX11_sorts 48 = .ok (.aload_n 0, 1) := by decide +kernel
theorem dX11_sorts_49 : decode cX11_sorts 49 = .ok (.getfield 29, 3) := by decide +kernel
theorem dX11_sorts_52 : decode cX11_sorts 52 = .ok (.iload_n 1, 1) := by decide +kernel
theorem dX11_sorts_53 : decode cX11_sorts 53 = .ok (.iaload, 1) := by decide +kernel
theorem dX11_sorts_54 : decode cX11_sorts 54 = .ok (.aload_n 0, 1) := by decide +kernel
theorem dX11_sorts_55 : decode cX11_sorts 55 = .ok (.getfield 26, 3) := by decide +kernel
theorem dX11_sorts_58 : decode cX11_sorts 58 = .ok (.iload_n 1, 1) := by decide +kernel
theorem dX11_sorts_59 : decode cX11_sorts 59 = .ok (.iaload, 1) := by decide +kernel
theorem dX11_sorts_60 : decode cX11_sorts 60 = .ok (.invokevirtual 252, 3) := by decide +kernel
theorem dX11_sorts_63 : decode cX11_sorts 63 = .ok (.aload_n 0, 1) := by decide +kernel
theorem dX11_sorts_64 : decode cX11_sorts 64 = .ok (.aload_n 0, 1) := by decide +kernel
theorem dX11_sorts_65 : decode cX11_sorts 65 = .ok (.getfield 35, 3) := by decide +kernel
theorem dX11_sorts_68 : decode cX11_sorts 68 = .ok (.aload_n 0, 1) := by decide +kernel
theorem dX11_sorts_69 : decode cX11_sorts 69 = .ok (.getfield 26, 3) := by decide +kernel
theorem dX11_sorts_72 : decode cX11_sorts 72 = .ok (.iload_n 1, 1) := by decide +kernel
theorem dX11_sorts_73 : decode cX11_sorts 73 = .ok (.iaload, 1) := by decide +kernel
theorem dX11_sorts_74 : decode cX11_sorts 74 = .ok (.aload_n 0, 1) := by decide +kernel
theorem dX11_sorts_75 : decode cX11_sorts 75 = .ok (.getfield 32, 3) := by decide +kernel
theorem dX11_sorts_78 : decode cX11_sorts 78 = .ok (.iload_n 1, 1) := by decide +kernel
theorem dX11_sorts_79 : decode cX11_sorts 79 = .ok (.iaload, 1) := by decide +kernel
theorem dX11_sorts_80 : decode cX11_sorts 80 = .ok (.invokevirtual 252, 3) := by decide +kernel
theorem dX11_sorts_83 : decode cX11_sorts 83 = .ok (.aload_n 0, 1) := by decide +kernel
theorem dX11_sorts_84 : decode cX11_sorts 84 = .ok (.getfield 71, 3) := by decide +kernel
theorem dX11_sorts_87 : decode cX11_sorts 87 = .ok (.iload_n 1, 1) := by decide +kernel
theorem dX11_sorts_88 : decode cX11_sorts 88 = .ok (.iconst 1, 1) := by decide +kernel
theorem dX11_sorts_89 : decode cX11_sorts 89 = .ok (.bastore, 1) := by decide +kernel
theorem dX11_sorts_90 : decode cX11_sorts 90 = .ok (.return_, 1) := by decide +kernel
theorem dX11_sortsRow_0 : decode cX11_sortsRow 0 = .ok (.iload_n 2, 1) := by decide +kernel
theorem dX11_sortsRow_1 : decode cX11_sortsRow 1 = .ok (.iconst 1, 1) := by decide +kernel
theorem dX11_sortsRow_2 : decode cX11_sortsRow 2 = .ok (.iadd, 1) := by decide +kernel
theorem dX11_sortsRow_3 : decode cX11_sortsRow 3 = .ok (.istore 4, 2) := by decide +kernel
theorem dX11_sortsRow_5 : decode cX11_sortsRow 5 = .ok (.iload 4, 2) := by decide +kernel
theorem dX11_sortsRow_7 : decode cX11_sortsRow 7 = .ok (.iload_n 3, 1) := by decide +kernel
theorem dX11_sortsRow_8 : decode cX11_sortsRow 8 = .ok (.if_icmp .ge 62, 3) := by decide +kernel
theorem dX11_sortsRow_11 : decode cX11_sortsRow 11 = .ok (.aload_n 1, 1) := by decide +kernel
theorem dX11_sortsRow_12 : decode cX11_sortsRow 12 = .ok (.iload 4, 2) := by decide +kernel
theorem dX11_sortsRow_14 : decode cX11_sortsRow 14 = .ok (.iaload, 1) := by decide +kernel
theorem dX11_sortsRow_15 : decode cX11_sortsRow 15 = .ok (.istore 5, 2) := by decide +kernel
theorem dX11_sortsRow_17 : decode cX11_sortsRow 17 = .ok (.iload 4, 2) := by decide +kernel
theorem dX11_sortsRow_19 : decode cX11_sortsRow 19 = .ok (.istore 6, 2) := by decide +kernel
theorem dX11_sortsRow_21 : decode cX11_sortsRow 21 = .ok (.iload 6, 2) := by decide +kernel
theorem dX11_sortsRow_23 : decode cX11_sortsRow 23 = .ok (.iload_n 2, 1) := by decide +kernel
theorem dX11_sortsRow_24 : decode cX11_sortsRow 24 = .ok (.if_icmp .le 34, 3) := by decide +kernel
theorem dX11_sortsRow_27 : decode cX11_sortsRow 27 = .ok (.aload_n 0, 1) := by decide +kernel
theorem dX11_sortsRow_28 : decode cX11_sortsRow 28 = .ok (.iload 5, 2) := by decide +kernel
theorem dX11_sortsRow_30 : decode cX11_sortsRow 30 = .ok (.aload_n 1, 1) := by decide +kernel
theorem dX11_sortsRow_31 : decode cX11_sortsRow 31 = .ok (.iload 6, 2) := by decide +kernel
theorem dX11_sortsRow_33 : decode cX11_sortsRow 33 = .ok (.iconst 1, 1) := by decide +kernel
theorem dX11_sortsRow_34 : decode cX11_sortsRow 34 = .ok (.isub, 1) := by decide +kernel
theorem dX11_sortsRow_35 : decode cX11_sortsRow 35 = .ok (.iaload, 1) := by decide +kernel
theorem dX11_sortsRow_36 : decode cX11_sortsRow 36 = .ok (.invokevirtual 246, 3) := by decide +kernel
theorem dX11_sortsRow_39 : decode cX11_sortsRow 39 = .ok (.ifCond .eq 19, 3) := by decide +kernel
theorem dX11_sortsRow_42 : decode cX11_sortsRow 42 = .ok (.aload_n 1, 1) := by decide +kernel
theorem dX11_sortsRow_43 : decode cX11_sortsRow 43 = .ok (.iload 6, 2) := by decide +kernel
theorem dX11_sortsRow_45 : decode cX11_sortsRow 45 = .ok (.aload_n 1, 1) := by decide +kernel
theorem dX11_sortsRow_46 : decode cX11_sortsRow 46 = .ok (.iload 6, 2) := by decide +kernel
theorem dX11_sortsRow_48 : decode cX11_sortsRow 48 = .ok (.iconst 1, 1) := by decide +kernel
theorem dX11_sortsRow_49 : decode cX11_sortsRow 49 = .ok (.isub, 1) := by decide +kernel
theorem dX11_sortsRow_50 : decode cX11_sortsRow 50 = .ok (.iaload, 1) := by decide +kernel
theorem dX11_sortsRow_51 : decode cX11_sortsRow 51 = .ok (.iastore, 1) := by decide +kernel
theorem dX11_sortsRow_52 : decode cX11_sortsRow 52 = .ok (.iinc 6 (-1), 3) := by decide +kernel
theorem dX11_sortsRow_55 : decode cX11_sortsRow 55 = .ok (.goto (-34), 3) := by decide +kernel
theorem dX11_sortsRow_58 : decode cX11_sortsRow 58 = .ok (.aload_n 1, 1) := by decide +kernel
theorem dX11_sortsRow_59 : decode cX11_sortsRow 59 = .ok (.iload 6, 2) := by decide +kernel
theorem dX11_sortsRow_61 : decode cX11_sortsRow 61 = .ok (.iload 5, 2) := by decide +kernel
theorem dX11_sortsRow_63 : decode cX11_sortsRow 63 = .ok (.iastore, 1) := by decide +kernel
theorem dX11_sortsRow_64 : decode cX11_sortsRow 64 = .ok (.iinc 4 1, 3) := by decide +kernel
theorem dX11_sortsRow_67 : decode cX11_sortsRow 67 = .ok (.goto (-62), 3) := by decide +kernel
theorem dX11_sortsRow_70 : decode cX11_sortsRow 70 = .ok (.return_, 1) := by decide +kernel
theorem dX11_spells_0 : decode cX11_spells 0 = .ok (.aload_n 0, 1) := by decide +kernel
theorem dX11_spells_1 : decode cX11_spells 1 = .ok (.iconst 0, 1) := by decide +kernel
theorem dX11_spells_2 : decode cX11_spells 2 = .ok (.putfield 224, 3) := by decide +kernel
theorem dX11_spells_5 : decode cX11_spells 5 = .ok (.aload_n 0, 1) := by decide +kernel
theorem dX11_spells_6 : decode cX11_spells 6 = .ok (.iload_n 1, 1) := by decide +kernel
theorem dX11_spells_7 : decode cX11_spells 7 = .ok (.invokevirtual 230, 3) := by decide +kernel
theorem dX11_spells_10 : decode cX11_spells 10 = .ok (.return_, 1) := by decide +kernel
theorem dX11_spread_0 : decode cX11_spread 0 = .ok (.iload_n 0, 1) := by decide +kernel
theorem dX11_spread_1 : decode cX11_spread 1 = .ok (.ldc 8, 2) := by decide +kernel
theorem dX11_spread_3 : decode cX11_spread 3 = .ok (.imul, 1) := by decide +kernel
theorem dX11_spread_4 : decode cX11_spread 4 = .ok (.istore_n 1, 1) := by decide +kernel
theorem dX11_spread_5 : decode cX11_spread 5 = .ok (.iload_n 1, 1) := by decide +kernel
theorem dX11_spread_6 : decode cX11_spread 6 = .ok (.iload_n 1, 1) := by decide +kernel
theorem dX11_spread_7 : decode cX11_spread 7 = .ok (.bipush 15, 2) := by decide +kernel
theorem dX11_spread_9 : decode cX11_spread 9 = .ok (.iushr, 1) := by decide +kernel
theorem dX11_spread_10 : decode cX11_spread 10 = .ok (.ixor, 1) := by decide +kernel
theorem dX11_spread_11 : decode cX11_spread 11 = .ok (.ireturn, 1) := by decide +kernel
theorem dX11_sum_0 : decode cX11_sum 0 = .ok (.iload_n 1, 1) := by decide +kernel
theorem dX11_sum_1 : decode cX11_sum 1 = .ok (.ifCond .eq 7, 3) := by decide +kernel
theorem dX11_sum_4 : decode cX11_sum 4 = .ok (.iload_n 2, 1) := by decide +kernel
theorem dX11_sum_5 : decode cX11_sum 5 = .ok (.ifCond .ne 7, 3) := by decide +kernel
theorem dX11_sum_8 : decode cX11_sum 8 = .ok (.iload_n 1, 1) := by decide +kernel
theorem dX11_sum_9 : decode cX11_sum 9 = .ok (.iload_n 2, 1) := by decide +kernel
theorem dX11_sum_10 : decode cX11_sum 10 = .ok (.iadd, 1) := by decide +kernel
theorem dX11_sum_11 : decode cX11_sum 11 = .ok (.ireturn, 1) := by decide +kernel
theorem dX11_sum_12 : decode cX11_sum 12 = .ok (.iload_n 1, 1) := by decide +kernel
theorem dX11_sum_13 : decode cX11_sum 13 = .ok (.iload_n 2, 1) := by decide +kernel
theorem dX11_sum_14 : decode cX11_sum 14 = .ok (.if_icmp .ge 7, 3) := by decide +kernel
theorem dX11_sum_17 : decode cX11_sum 17 = .ok (.iload_n 1, 1) := by decide +kernel
theorem dX11_sum_18 : decode cX11_sum 18 = .ok (.goto 4, 3) := by decide +kernel
theorem dX11_sum_21 : decode cX11_sum 21 = .ok (.iload_n 2, 1) := by decide +kernel
theorem dX11_sum_22 : decode cX11_sum 22 = .ok (.istore_n 3, 1) := by decide +kernel
theorem dX11_sum_23 : decode cX11_sum 23 = .ok (.iload_n 1, 1) := by decide +kernel
theorem dX11_sum_24 : decode cX11_sum 24 = .ok (.iload_n 2, 1) := by decide +kernel
theorem dX11_sum_25 : decode cX11_sum 25 = .ok (.iadd, 1) := by decide +kernel
theorem dX11_sum_26 : decode cX11_sum 26 = .ok (.iload_n 3, 1) := by decide +kernel
theorem dX11_sum_27 : decode cX11_sum 27 = .ok (.isub, 1) := by decide +kernel
theorem dX11_sum_28 : decode cX11_sum 28 = .ok (.istore 4, 2) := by decide +kernel
theorem dX11_sum_30 : decode cX11_sum 30 = .ok (.iload_n 3, 1) := by decide +kernel
theorem dX11_sum_31 : decode cX11_sum 31 = .ok (.sipush 16000, 3) := by decide +kernel
theorem dX11_sum_34 : decode cX11_sum 34 = .ok (.imul, 1) := by decide +kernel
theorem dX11_sum_35 : decode cX11_sum 35 = .ok (.iload 4, 2) := by decide +kernel
theorem dX11_sum_37 : decode cX11_sum 37 = .ok (.iadd, 1) := by decide +kernel
theorem dX11_sum_38 : decode cX11_sum 38 = .ok (.iconst 1, 1) := by decide +kernel
theorem dX11_sum_39 : decode cX11_sum 39 = .ok (.iadd, 1) := by decide +kernel
theorem dX11_sum_40 : decode cX11_sum 40 = .ok (.istore 5, 2) := by decide +kernel
theorem dX11_sum_42 : decode cX11_sum 42 = .ok (.iload 5, 2) := by decide +kernel
theorem dX11_sum_44 : decode cX11_sum 44 = .ok (.invokestatic 16, 3) := by decide +kernel
theorem dX11_sum_47 : decode cX11_sum 47 = .ok (.sipush 32767, 3) := by decide +kernel
theorem dX11_sum_50 : decode cX11_sum 50 = .ok (.iand, 1) := by decide +kernel
theorem dX11_sum_51 : decode cX11_sum 51 = .ok (.istore 6, 2) := by decide +kernel
theorem dX11_sum_53 : decode cX11_sum 53 = .ok (.aload_n 0, 1) := by decide +kernel
theorem dX11_sum_54 : decode cX11_sum 54 = .ok (.getfield 181, 3) := by decide +kernel
theorem dX11_sum_57 : decode cX11_sum 57 = .ok (.iload 6, 2) := by decide +kernel
theorem dX11_sum_59 : decode cX11_sum 59 = .ok (.iaload, 1) := by decide +kernel
theorem dX11_sum_60 : decode cX11_sum 60 = .ok (.iload 5, 2) := by decide +kernel
theorem dX11_sum_62 : decode cX11_sum 62 = .ok (.if_icmp .ne 11, 3) := by decide +kernel
theorem dX11_sum_65 : decode cX11_sum 65 = .ok (.aload_n 0, 1) := by decide +kernel
theorem dX11_sum_66 : decode cX11_sum 66 = .ok (.getfield 184, 3) := by decide +kernel
theorem dX11_sum_69 : decode cX11_sum 69 = .ok (.iload 6, 2) := by decide +kernel
theorem dX11_sum_71 : decode cX11_sum 71 = .ok (.iaload, 1) := by decide +kernel
theorem dX11_sum_72 : decode cX11_sum 72 = .ok (.ireturn, 1) := by decide +kernel
theorem dX11_sum_73 : decode cX11_sum 73 = .ok (.aload_n 0, 1) := by decide +kernel
theorem dX11_sum_74 : decode cX11_sum 74 = .ok (.iload_n 3, 1) := by decide +kernel
theorem dX11_sum_75 : decode cX11_sum 75 = .ok (.iload 4, 2) := by decide +kernel
theorem dX11_sum_77 : decode cX11_sum 77 = .ok (.invokevirtual 187, 3) := by decide +kernel
theorem dX11_sum_80 : decode cX11_sum 80 = .ok (.istore 7, 2) := by decide +kernel
theorem dX11_sum_82 : decode cX11_sum 82 = .ok (.aload_n 0, 1) := by decide +kernel
theorem dX11_sum_83 : decode cX11_sum 83 = .ok (.getfield 181, 3) := by decide +kernel
theorem dX11_sum_86 : decode cX11_sum 86 = .ok (.iload 6, 2) := by decide +kernel
theorem dX11_sum_88 : decode cX11_sum 88 = .ok (.iload 5, 2) := by decide +kernel
theorem dX11_sum_90 : decode cX11_sum 90 = .ok (.iastore, 1) := by decide +kernel
theorem dX11_sum_91 : decode cX11_sum 91 = .ok (.aload_n 0, 1) := by decide +kernel
theorem dX11_sum_92 : decode cX11_sum 92 = .ok (.getfield 184, 3) := by decide +kernel
theorem dX11_sum_95 : decode cX11_sum 95 = .ok (.iload 6, 2) := by decide +kernel
theorem dX11_sum_97 : decode cX11_sum 97 = .ok (.iload 7, 2) := by decide +kernel
theorem dX11_sum_99 : decode cX11_sum 99 = .ok (.iastore, 1) := by decide +kernel
theorem dX11_sum_100 : decode cX11_sum 100 = .ok (.iload 7, 2) := by decide +kernel
theorem dX11_sum_102 : decode cX11_sum 102 = .ok (.ireturn, 1) := by decide +kernel
theorem dX11_sumOf_0 : decode cX11_sumOf 0 = .ok (.aload_n 0, 1) := by decide +kernel
theorem dX11_sumOf_1 : decode cX11_sumOf 1 = .ok (.getfield 175, 3) := by decide +kernel
theorem dX11_sumOf_4 : decode cX11_sumOf 4 = .ok (.istore_n 3, 1) := by decide +kernel
theorem dX11_sumOf_5 : decode cX11_sumOf 5 = .ok (.aload_n 0, 1) := by decide +kernel
theorem dX11_sumOf_6 : decode cX11_sumOf 6 = .ok (.getfield 29, 3) := by decide +kernel
theorem dX11_sumOf_9 : decode cX11_sumOf 9 = .ok (.iload_n 1, 1) := by decide +kernel
theorem dX11_sumOf_10 : decode cX11_sumOf 10 = .ok (.iaload, 1) := by decide +kernel
theorem dX11_sumOf_11 : decode cX11_sumOf 11 = .ok (.istore 4, 2) := by decide +kernel
theorem dX11_sumOf_13 : decode cX11_sumOf 13 = .ok (.iload 4, 2) := by decide +kernel
theorem dX11_sumOf_15 : decode cX11_sumOf 15 = .ok (.aload_n 0, 1) := by decide +kernel
theorem dX11_sumOf_16 : decode cX11_sumOf 16 = .ok (.getfield 26, 3) := by decide +kernel
theorem dX11_sumOf_19 : decode cX11_sumOf 19 = .ok (.iload_n 1, 1) := by decide +kernel
theorem dX11_sumOf_20 : decode cX11_sumOf 20 = .ok (.iaload, 1) := by decide +kernel
theorem dX11_sumOf_21 : decode cX11_sumOf 21 = .ok (.if_icmp .ge 25, 3) := by decide +kernel
theorem dX11_sumOf_24 : decode cX11_sumOf 24 = .ok (.aload_n 0, 1) := by decide +kernel
theorem dX11_sumOf_25 : decode cX11_sumOf 25 = .ok (.aload_n 0, 1) := by decide +kernel
theorem dX11_sumOf_26 : decode cX11_sumOf 26 = .ok (.aload_n 0, 1) := by decide +kernel
theorem dX11_sumOf_27 : decode cX11_sumOf 27 = .ok (.getfield 35, 3) := by decide +kernel
theorem dX11_sumOf_30 : decode cX11_sumOf 30 = .ok (.iload 4, 2) := by decide +kernel
theorem dX11_sumOf_32 : decode cX11_sumOf 32 = .ok (.iaload, 1) := by decide +kernel
theorem dX11_sumOf_33 : decode cX11_sumOf 33 = .ok (.iload_n 2, 1) := by decide +kernel
theorem dX11_sumOf_34 : decode cX11_sumOf 34 = .ok (.invokevirtual 191, 3) := by decide +kernel
theorem dX11_sumOf_37 : decode cX11_sumOf 37 = .ok (.invokevirtual 194, 3) := by decide +kernel
theorem dX11_sumOf_40 : decode cX11_sumOf 40 = .ok (.iinc 4 1, 3) := by decide +kernel
theorem dX11_sumOf_43 : decode cX11_sumOf 43 = .ok (.goto (-30), 3) := by decide +kernel
theorem dX11_sumOf_46 : decode cX11_sumOf 46 = .ok (.aload_n 0, 1) := by decide +kernel
theorem dX11_sumOf_47 : decode cX11_sumOf 47 = .ok (.getfield 29, 3) := by decide +kernel
theorem dX11_sumOf_50 : decode cX11_sumOf 50 = .ok (.iload_n 2, 1) := by decide +kernel
theorem dX11_sumOf_51 : decode cX11_sumOf 51 = .ok (.iaload, 1) := by decide +kernel
theorem dX11_sumOf_52 : decode cX11_sumOf 52 = .ok (.istore 4, 2) := by decide +kernel
theorem dX11_sumOf_54 : decode cX11_sumOf 54 = .ok (.iload 4, 2) := by decide +kernel
theorem dX11_sumOf_56 : decode cX11_sumOf 56 = .ok (.aload_n 0, 1) := by decide +kernel
theorem dX11_sumOf_57 : decode cX11_sumOf 57 = .ok (.getfield 26, 3) := by decide +kernel
theorem dX11_sumOf_60 : decode cX11_sumOf 60 = .ok (.iload_n 2, 1) := by decide +kernel
theorem dX11_sumOf_61 : decode cX11_sumOf 61 = .ok (.iaload, 1) := by decide +kernel
theorem dX11_sumOf_62 : decode cX11_sumOf 62 = .ok (.if_icmp .ge 25, 3) := by decide +kernel
theorem dX11_sumOf_65 : decode cX11_sumOf 65 = .ok (.aload_n 0, 1) := by decide +kernel
theorem dX11_sumOf_66 : decode cX11_sumOf 66 = .ok (.aload_n 0, 1) := by decide +kernel
theorem dX11_sumOf_67 : decode cX11_sumOf 67 = .ok (.iload_n 1, 1) := by decide +kernel
theorem dX11_sumOf_68 : decode cX11_sumOf 68 = .ok (.aload_n 0, 1) := by decide +kernel
theorem dX11_sumOf_69 : decode cX11_sumOf 69 = .ok (.getfield 35, 3) := by decide +kernel
theorem dX11_sumOf_72 : decode cX11_sumOf 72 = .ok (.iload 4, 2) := by decide +kernel
theorem dX11_sumOf_74 : decode cX11_sumOf 74 = .ok (.iaload, 1) := by decide +kernel
theorem dX11_sumOf_75 : decode cX11_sumOf 75 = .ok (.invokevirtual 191, 3) := by decide +kernel
theorem dX11_sumOf_78 : decode cX11_sumOf 78 = .ok (.invokevirtual 194, 3) := by decide +kernel
theorem dX11_sumOf_81 : decode cX11_sumOf 81 = .ok (.iinc 4 1, 3) := by decide +kernel
theorem dX11_sumOf_84 : decode cX11_sumOf 84 = .ok (.goto (-30), 3) := by decide +kernel
theorem dX11_sumOf_87 : decode cX11_sumOf 87 = .ok (.aload_n 0, 1) := by decide +kernel
theorem dX11_sumOf_88 : decode cX11_sumOf 88 = .ok (.getfield 175, 3) := by decide +kernel
theorem dX11_sumOf_91 : decode cX11_sumOf 91 = .ok (.istore 4, 2) := by decide +kernel
theorem dX11_sumOf_93 : decode cX11_sumOf 93 = .ok (.aload_n 0, 1) := by decide +kernel
theorem dX11_sumOf_94 : decode cX11_sumOf 94 = .ok (.getfield 26, 3) := by decide +kernel
theorem dX11_sumOf_97 : decode cX11_sumOf 97 = .ok (.iload_n 1, 1) := by decide +kernel
theorem dX11_sumOf_98 : decode cX11_sumOf 98 = .ok (.iaload, 1) := by decide +kernel
theorem dX11_sumOf_99 : decode cX11_sumOf 99 = .ok (.istore 5, 2) := by decide +kernel
theorem dX11_sumOf_101 : decode cX11_sumOf 101 = .ok (.iload 5, 2) := by decide +kernel
theorem dX11_sumOf_103 : decode cX11_sumOf 103 = .ok (.aload_n 0, 1) := by decide +kernel
theorem dX11_sumOf_104 : decode cX11_sumOf 104 = .ok (.getfield 32, 3) := by decide +kernel
theorem dX11_sumOf_107 : decode cX11_sumOf 107 = .ok (.iload_n 1, 1) := by decide +kernel
theorem dX11_sumOf_108 : decode cX11_sumOf 108 = .ok (.iaload, 1) := by decide +kernel
theorem dX11_sumOf_109 : decode cX11_sumOf 109 = .ok (.if_icmp .ge 25, 3) := by decide +kernel
theorem dX11_sumOf_112 : decode cX11_sumOf 112 = .ok (.aload_n 0, 1) := by decide +kernel
theorem dX11_sumOf_113 : decode cX11_sumOf 113 = .ok (.aload_n 0, 1) := by decide +kernel
theorem dX11_sumOf_114 : decode cX11_sumOf 114 = .ok (.aload_n 0, 1) := by decide +kernel
theorem dX11_sumOf_115 : decode cX11_sumOf 115 = .ok (.getfield 35, 3) := by decide +kernel
theorem dX11_sumOf_118 : decode cX11_sumOf 118 = .ok (.iload 5, 2) := by decide +kernel
theorem dX11_sumOf_120 : decode cX11_sumOf 120 = .ok (.iaload, 1) := by decide +kernel
theorem dX11_sumOf_121 : decode cX11_sumOf 121 = .ok (.iload_n 2, 1) := by decide +kernel
theorem dX11_sumOf_122 : decode cX11_sumOf 122 = .ok (.invokevirtual 191, 3) := by decide +kernel
theorem dX11_sumOf_125 : decode cX11_sumOf 125 = .ok (.invokevirtual 194, 3) := by decide +kernel
theorem dX11_sumOf_128 : decode cX11_sumOf 128 = .ok (.iinc 5 1, 3) := by decide +kernel
theorem dX11_sumOf_131 : decode cX11_sumOf 131 = .ok (.goto (-30), 3) := by decide +kernel
theorem dX11_sumOf_134 : decode cX11_sumOf 134 = .ok (.aload_n 0, 1) := by decide +kernel
theorem dX11_sumOf_135 : decode cX11_sumOf 135 = .ok (.getfield 26, 3) := by decide +kernel
theorem dX11_sumOf_138 : decode cX11_sumOf 138 = .ok (.iload_n 2, 1) := by decide +kernel
theorem dX11_sumOf_139 : decode cX11_sumOf 139 = .ok (.iaload, 1) := by decide +kernel
theorem dX11_sumOf_140 : decode cX11_sumOf 140 = .ok (.istore 5, 2) := by decide +kernel
theorem dX11_sumOf_142 : decode cX11_sumOf 142 = .ok (.iload 5, 2) := by decide +kernel
theorem dX11_sumOf_144 : decode cX11_sumOf 144 = .ok (.aload_n 0, 1) := by decide +kernel
theorem dX11_sumOf_145 : decode cX11_sumOf 145 = .ok (.getfield 32, 3) := by decide +kernel
theorem dX11_sumOf_148 : decode cX11_sumOf 148 = .ok (.iload_n 2, 1) := by decide +kernel
theorem dX11_sumOf_149 : decode cX11_sumOf 149 = .ok (.iaload, 1) := by decide +kernel
theorem dX11_sumOf_150 : decode cX11_sumOf 150 = .ok (.if_icmp .ge 25, 3) := by decide +kernel
theorem dX11_sumOf_153 : decode cX11_sumOf 153 = .ok (.aload_n 0, 1) := by decide +kernel
theorem dX11_sumOf_154 : decode cX11_sumOf 154 = .ok (.aload_n 0, 1) := by decide +kernel
theorem dX11_sumOf_155 : decode cX11_sumOf 155 = .ok (.iload_n 1, 1) := by decide +kernel
theorem dX11_sumOf_156 : decode cX11_sumOf 156 = .ok (.aload_n 0, 1) := by decide +kernel
theorem dX11_sumOf_157 : decode cX11_sumOf 157 = .ok (.getfield 35, 3) := by decide +kernel
theorem dX11_sumOf_160 : decode cX11_sumOf 160 = .ok (.iload 5, 2) := by decide +kernel
theorem dX11_sumOf_162 : decode cX11_sumOf 162 = .ok (.iaload, 1) := by decide +kernel
theorem dX11_sumOf_163 : decode cX11_sumOf 163 = .ok (.invokevirtual 191, 3) := by decide +kernel
theorem dX11_sumOf_166 : decode cX11_sumOf 166 = .ok (.invokevirtual 194, 3) := by decide +kernel
theorem dX11_sumOf_169 : decode cX11_sumOf 169 = .ok (.iinc 5 1, 3) := by decide +kernel
theorem dX11_sumOf_172 : decode cX11_sumOf 172 = .ok (.goto (-30), 3) := by decide +kernel
theorem dX11_sumOf_175 : decode cX11_sumOf 175 = .ok (.aload_n 0, 1) := by decide +kernel
theorem dX11_sumOf_176 : decode cX11_sumOf 176 = .ok (.iload_n 3, 1) := by decide +kernel
theorem dX11_sumOf_177 : decode cX11_sumOf 177 = .ok (.iload 4, 2) := by decide +kernel
theorem dX11_sumOf_179 : decode cX11_sumOf 179 = .ok (.invokevirtual 197, 3) := by decide +kernel
theorem dX11_sumOf_182 : decode cX11_sumOf 182 = .ok (.ireturn, 1) := by decide +kernel
theorem dX11_sumRead_0 : decode cX11_sumRead 0 = .ok (.aload_n 0, 1) := by decide +kernel
theorem dX11_sumRead_1 : decode cX11_sumRead 1 = .ok (.invokevirtual 441, 3) := by decide +kernel
theorem dX11_sumRead_4 : decode cX11_sumRead 4 = .ok (.istore_n 1, 1) := by decide +kernel
theorem dX11_sumRead_5 : decode cX11_sumRead 5 = .ok (.aload_n 0, 1) := by decide +kernel
theorem dX11_sumRead_6 : decode cX11_sumRead 6 = .ok (.getfield 422, 3) := by decide +kernel
theorem dX11_sumRead_9 : decode cX11_sumRead 9 = .ok (.ifCond .ge 52, 3) := by decide +kernel
theorem dX11_sumRead_12 : decode cX11_sumRead 12 = .ok (.aload_n 0, 1) := by decide +kernel
theorem dX11_sumRead_13 : decode cX11_sumRead 13 = .ok (.invokevirtual 419, 3) := by decide +kernel
theorem dX11_sumRead_16 : decode cX11_sumRead 16 = .ok (.bipush 43, 2) := by decide +kernel
theorem dX11_sumRead_18 : decode cX11_sumRead 18 = .ok (.if_icmp .ne 43, 3) := by decide +kernel
theorem dX11_sumRead_21 : decode cX11_sumRead 21 = .ok (.aload_n 0, 1) := by decide +kernel
theorem dX11_sumRead_22 : decode cX11_sumRead 22 = .ok (.dup, 1) := by decide +kernel
theorem dX11_sumRead_23 : decode cX11_sumRead 23 = .ok (.getfield 416, 3) := by decide +kernel
theorem dX11_sumRead_26 : decode cX11_sumRead 26 = .ok (.iconst 1, 1) := by decide +kernel
theorem dX11_sumRead_27 : decode cX11_sumRead 27 = .ok (.iadd, 1) := by decide +kernel
theorem dX11_sumRead_28 : decode cX11_sumRead 28 = .ok (.putfield 416, 3) := by decide +kernel
theorem dX11_sumRead_31 : decode cX11_sumRead 31 = .ok (.aload_n 0, 1) := by decide +kernel
theorem dX11_sumRead_32 : decode cX11_sumRead 32 = .ok (.invokevirtual 441, 3) := by decide +kernel
theorem dX11_sumRead_35 : decode cX11_sumRead 35 = .ok (.istore_n 2, 1) := by decide +kernel
theorem dX11_sumRead_36 : decode cX11_sumRead 36 = .ok (.aload_n 0, 1) := by decide +kernel
theorem dX11_sumRead_37 : decode cX11_sumRead 37 = .ok (.getfield 444, 3) := by decide +kernel
theorem dX11_sumRead_40 : decode cX11_sumRead 40 = .ok (.ifCond .eq 16, 3) := by decide +kernel
theorem dX11_sumRead_43 : decode cX11_sumRead 43 = .ok (.aload_n 0, 1) := by decide +kernel
theorem dX11_sumRead_44 : decode cX11_sumRead 44 = .ok (.aload_n 0, 1) := by decide +kernel
theorem dX11_sumRead_45 : decode cX11_sumRead 45 = .ok (.iload_n 1, 1) := by decide +kernel
theorem dX11_sumRead_46 : decode cX11_sumRead 46 = .ok (.iload_n 2, 1) := by decide +kernel
theorem dX11_sumRead_47 : decode cX11_sumRead 47 = .ok (.invokevirtual 191, 3) := by decide +kernel
theorem dX11_sumRead_50 : decode cX11_sumRead 50 = .ok (.invokevirtual 447, 3) := by decide +kernel
theorem dX11_sumRead_53 : decode cX11_sumRead 53 = .ok (.goto 4, 3) := by decide +kernel
theorem dX11_sumRead_56 : decode cX11_sumRead 56 = .ok (.iconst 0, 1) := by decide +kernel
theorem dX11_sumRead_57 : decode cX11_sumRead 57 = .ok (.istore_n 1, 1) := by decide +kernel
theorem dX11_sumRead_58 : decode cX11_sumRead 58 = .ok (.goto (-53), 3) := by decide +kernel
theorem dX11_sumRead_61 : decode cX11_sumRead 61 = .ok (.iload_n 1, 1) := by decide +kernel
theorem dX11_sumRead_62 : decode cX11_sumRead 62 = .ok (.ireturn, 1) := by decide +kernel
theorem dX11_tellsBirthday_0 : decode cX11_tellsBirthday 0 = .ok (.iconst (-1), 1) := by decide +kernel
theorem dX11_tellsBirthday_1 : decode cX11_tellsBirthday 1 = .ok (.istore_n 2, 1) := by decide +kernel
theorem dX11_tellsBirthday_2 : decode cX11_tellsBirthday 2 = .ok (.aload_n 0, 1) := by decide +kernel
theorem dX11_tellsBirthday_3 : decode cX11_tellsBirthday 3 = .ok (.getfield 29, 3) := by decide +kernel
theorem dX11_tellsBirthday_6 : decode cX11_tellsBirthday 6 = .ok (.iload_n 1, 1) := by decide +kernel
theorem dX11_tellsBirthday_7 : decode cX11_tellsBirthday 7 = .ok (.iaload, 1) := by decide +kernel
theorem dX11_tellsBirthday_8 : decode cX11_tellsBirthday 8 = .ok (.istore_n 3, 1) := by decide +kernel
theorem dX11_tellsBirthday_9 : decode cX11_tellsBirthday 9 = .ok (.iload_n 3, 1) := by decide +kernel
theorem dX11_tellsBirthday_10 : decode cX11_tellsBirthday 10 = .ok (.aload_n 0, 1) := by decide +kernel
theorem dX11_tellsBirthday_11 : decode cX11_tellsBirthday 11 = .ok (.getfield 32, 3) := by decide +kernel
theorem dX11_tellsBirthday_14 : decode cX11_tellsBirthday 14 = .ok (.iload_n 1, 1) := by decide +kernel
theorem dX11_tellsBirthday_15 : decode cX11_tellsBirthday 15 = .ok (.iaload, 1) := by decide +kernel
theorem dX11_tellsBirthday_16 : decode cX11_tellsBirthday 16 = .ok (.if_icmp .ge 40, 3) := by decide +kernel
theorem dX11_tellsBirthday_19 : decode cX11_tellsBirthday 19 = .ok (.aload_n 0, 1) := by decide +kernel
theorem dX11_tellsBirthday_20 : decode cX11_tellsBirthday 20 = .ok (.getfield 103, 3) := by decide +kernel
theorem dX11_tellsBirthday_23 : decode cX11_tellsBirthday 23 = .ok (.aload_n 0, 1) := by decide +kernel
theorem dX11_tellsBirthday_24 : decode cX11_tellsBirthday 24 = .ok (.getfield 35, 3) := by decide +kernel
theorem dX11_tellsBirthday_27 : decode cX11_tellsBirthday 27 = .ok (.iload_n 3, 1) := by decide +kernel
theorem dX11_tellsBirthday_28 : decode cX11_tellsBirthday 28 = .ok (.iaload, 1) := by decide +kernel
theorem dX11_tellsBirthday_29 : decode cX11_tellsBirthday 29 = .ok (.iaload, 1) := by decide +kernel
theorem dX11_tellsBirthday_30 : decode cX11_tellsBirthday 30 = .ok (.iload_n 2, 1) := by decide +kernel
theorem dX11_tellsBirthday_31 : decode cX11_tellsBirthday 31 = .ok (.if_icmp .le 17, 3) := by decide +kernel
theorem dX11_tellsBirthday_34 : decode cX11_tellsBirthday 34 = .ok (.aload_n 0, 1) := by decide +kernel
theorem dX11_tellsBirthday_35 : decode cX11_tellsBirthday 35 = .ok (.getfield 103, 3) := by decide +kernel
theorem dX11_tellsBirthday_38 : decode cX11_tellsBirthday 38 = .ok (.aload_n 0, 1) := by decide +kernel
theorem dX11_tellsBirthday_39 : decode cX11_tellsBirthday 39 = .ok (.getfield 35, 3) := by decide +kernel
theorem dX11_tellsBirthday_42 : decode cX11_tellsBirthday 42 = .ok (.iload_n 3, 1) := by decide +kernel
theorem dX11_tellsBirthday_43 : decode cX11_tellsBirthday 43 = .ok (.iaload, 1) := by decide +kernel
theorem dX11_tellsBirthday_44 : decode cX11_tellsBirthday 44 = .ok (.iaload, 1) := by decide +kernel
theorem dX11_tellsBirthday_45 : decode cX11_tellsBirthday 45 = .ok (.goto 4, 3) := by decide +kernel
theorem dX11_tellsBirthday_48 : decode cX11_tellsBirthday 48 = .ok (.iload_n 2, 1) := by decide +kernel
theorem dX11_tellsBirthday_49 : decode cX11_tellsBirthday 49 = .ok (.istore_n 2, 1) := by decide +kernel
theorem dX11_tellsBirthday_50 : decode cX11_tellsBirthday 50 = .ok (.iinc 3 1, 3) := by decide +kernel
theorem dX11_tellsBirthday_53 : decode cX11_tellsBirthday 53 = .ok (.goto (-44), 3) := by decide +kernel
theorem dX11_tellsBirthday_56 : decode cX11_tellsBirthday 56 = .ok (.aload_n 0, 1) := by decide +kernel
theorem dX11_tellsBirthday_57 : decode cX11_tellsBirthday 57 = .ok (.getfield 103, 3) := by decide +kernel
theorem dX11_tellsBirthday_60 : decode cX11_tellsBirthday 60 = .ok (.iload_n 1, 1) := by decide +kernel
theorem dX11_tellsBirthday_61 : decode cX11_tellsBirthday 61 = .ok (.iload_n 2, 1) := by decide +kernel
theorem dX11_tellsBirthday_62 : decode cX11_tellsBirthday 62 = .ok (.iconst 1, 1) := by decide +kernel
theorem dX11_tellsBirthday_63 : decode cX11_tellsBirthday 63 = .ok (.iadd, 1) := by decide +kernel
theorem dX11_tellsBirthday_64 : decode cX11_tellsBirthday 64 = .ok (.iastore, 1) := by decide +kernel
theorem dX11_tellsBirthday_65 : decode cX11_tellsBirthday 65 = .ok (.return_, 1) := by decide +kernel
theorem dX11_told_0 : decode cX11_told 0 = .ok (.iload_n 1, 1) := by decide +kernel
theorem dX11_told_1 : decode cX11_told 1 = .ok (.iconst 1, 1) := by decide +kernel
theorem dX11_told_2 : decode cX11_told 2 = .ok (.bipush 6, 2) := by decide +kernel
theorem dX11_told_4 : decode cX11_told 4 = .ok (.invokestatic 106, 3) := by decide +kernel
theorem dX11_told_7 : decode cX11_told 7 = .ok (.ifCond .eq 12, 3) := by decide +kernel
theorem dX11_told_10 : decode cX11_told 10 = .ok (.aload_n 0, 1) := by decide +kernel
theorem dX11_told_11 : decode cX11_told 11 = .ok (.getfield 1, 3) := by decide +kernel
theorem dX11_told_14 : decode cX11_told 14 = .ok (.iload_n 1, 1) := by decide +kernel
theorem dX11_told_15 : decode cX11_told 15 = .ok (.iaload, 1) := by decide +kernel
theorem dX11_told_16 : decode cX11_told 16 = .ok (.goto 8, 3) := by decide +kernel
theorem dX11_told_19 : decode cX11_told 19 = .ok (.aload_n 0, 1) := by decide +kernel
theorem dX11_told_20 : decode cX11_told 20 = .ok (.iconst 1, 1) := by decide +kernel
theorem dX11_told_21 : decode cX11_told 21 = .ok (.invokevirtual 300, 3) := by decide +kernel
theorem dX11_told_24 : decode cX11_told 24 = .ok (.ireturn, 1) := by decide +kernel
theorem dX11_undo_0 : decode cX11_undo 0 = .ok (.aload_n 0, 1) := by decide +kernel
theorem dX11_undo_1 : decode cX11_undo 1 = .ok (.getfield 303, 3) := by decide +kernel
theorem dX11_undo_4 : decode cX11_undo 4 = .ok (.ifCond .ne 9, 3) := by decide +kernel
theorem dX11_undo_7 : decode cX11_undo 7 = .ok (.aload_n 0, 1) := by decide +kernel
theorem dX11_undo_8 : decode cX11_undo 8 = .ok (.iconst 2, 1) := by decide +kernel
theorem dX11_undo_9 : decode cX11_undo 9 = .ok (.invokevirtual 300, 3) := by decide +kernel
theorem dX11_undo_12 : decode cX11_undo 12 = .ok (.ireturn, 1) := by decide +kernel
theorem dX11_undo_13 : decode cX11_undo 13 = .ok (.aload_n 0, 1) := by decide +kernel
theorem dX11_undo_14 : decode cX11_undo 14 = .ok (.dup, 1) := by decide +kernel
theorem dX11_undo_15 : decode cX11_undo 15 = .ok (.getfield 303, 3) := by decide +kernel
theorem dX11_undo_18 : decode cX11_undo 18 = .ok (.iconst 1, 1) := by decide +kernel
theorem dX11_undo_19 : decode cX11_undo 19 = .ok (.isub, 1) := by decide +kernel
theorem dX11_undo_20 : decode cX11_undo 20 = .ok (.putfield 303, 3) := by decide +kernel
theorem dX11_undo_23 : decode cX11_undo 23 = .ok (.aload_n 0, 1) := by decide +kernel
theorem dX11_undo_24 : decode cX11_undo 24 = .ok (.getfield 264, 3) := by decide +kernel
theorem dX11_undo_27 : decode cX11_undo 27 = .ok (.aload_n 0, 1) := by decide +kernel
theorem dX11_undo_28 : decode cX11_undo 28 = .ok (.getfield 267, 3) := by decide +kernel
theorem dX11_undo_31 : decode cX11_undo 31 = .ok (.aload_n 0, 1) := by decide +kernel
theorem dX11_undo_32 : decode cX11_undo 32 = .ok (.getfield 303, 3) := by decide +kernel
theorem dX11_undo_35 : decode cX11_undo 35 = .ok (.iaload, 1) := by decide +kernel
theorem dX11_undo_36 : decode cX11_undo 36 = .ok (.aload_n 0, 1) := by decide +kernel
theorem dX11_undo_37 : decode cX11_undo 37 = .ok (.getfield 270, 3) := by decide +kernel
theorem dX11_undo_40 : decode cX11_undo 40 = .ok (.aload_n 0, 1) := by decide +kernel
theorem dX11_undo_41 : decode cX11_undo 41 = .ok (.getfield 303, 3) := by decide +kernel
theorem dX11_undo_44 : decode cX11_undo 44 = .ok (.iaload, 1) := by decide +kernel
theorem dX11_undo_45 : decode cX11_undo 45 = .ok (.iastore, 1) := by decide +kernel
theorem dX11_undo_46 : decode cX11_undo 46 = .ok (.aload_n 0, 1) := by decide +kernel
theorem dX11_undo_47 : decode cX11_undo 47 = .ok (.getfield 303, 3) := by decide +kernel
theorem dX11_undo_50 : decode cX11_undo 50 = .ok (.ireturn, 1) := by decide +kernel
theorem dX11_unit_0 : decode cX11_unit 0 = .ok (.aload_n 0, 1) := by decide +kernel
theorem dX11_unit_1 : decode cX11_unit 1 = .ok (.getfield 422, 3) := by decide +kernel
theorem dX11_unit_4 : decode cX11_unit 4 = .ok (.ifCond .lt 5, 3) := by decide +kernel
theorem dX11_unit_7 : decode cX11_unit 7 = .ok (.iconst 0, 1) := by decide +kernel
theorem dX11_unit_8 : decode cX11_unit 8 = .ok (.ireturn, 1) := by decide +kernel
theorem dX11_unit_9 : decode cX11_unit 9 = .ok (.aload_n 0, 1) := by decide +kernel
theorem dX11_unit_10 : decode cX11_unit 10 = .ok (.invokevirtual 428, 3) := by decide +kernel
theorem dX11_unit_13 : decode cX11_unit 13 = .ok (.ifCond .eq 29, 3) := by decide +kernel
theorem dX11_unit_16 : decode cX11_unit 16 = .ok (.aload_n 0, 1) := by decide +kernel
theorem dX11_unit_17 : decode cX11_unit 17 = .ok (.invokevirtual 459, 3) := by decide +kernel
theorem dX11_unit_20 : decode cX11_unit 20 = .ok (.istore_n 1, 1) := by decide +kernel
theorem dX11_unit_21 : decode cX11_unit 21 = .ok (.aload_n 0, 1) := by decide +kernel
theorem dX11_unit_22 : decode cX11_unit 22 = .ok (.getfield 444, 3) := by decide +kernel
theorem dX11_unit_25 : decode cX11_unit 25 = .ok (.ifCond .eq 15, 3) := by decide +kernel
theorem dX11_unit_28 : decode cX11_unit 28 = .ok (.aload_n 0, 1) := by decide +kernel
theorem dX11_unit_29 : decode cX11_unit 29 = .ok (.aload_n 0, 1) := by decide +kernel
theorem dX11_unit_30 : decode cX11_unit 30 = .ok (.iload_n 1, 1) := by decide +kernel
theorem dX11_unit_31 : decode cX11_unit 31 = .ok (.invokevirtual 336, 3) := by decide +kernel
theorem dX11_unit_34 : decode cX11_unit 34 = .ok (.invokevirtual 447, 3) := by decide +kernel
theorem dX11_unit_37 : decode cX11_unit 37 = .ok (.goto 4, 3) := by decide +kernel
theorem dX11_unit_40 : decode cX11_unit 40 = .ok (.iconst 0, 1) := by decide +kernel
theorem dX11_unit_41 : decode cX11_unit 41 = .ok (.ireturn, 1) := by decide +kernel
theorem dX11_unit_42 : decode cX11_unit 42 = .ok (.aload_n 0, 1) := by decide +kernel
theorem dX11_unit_43 : decode cX11_unit 43 = .ok (.invokevirtual 419, 3) := by decide +kernel
theorem dX11_unit_46 : decode cX11_unit 46 = .ok (.lookupswitch 129 #[(42, 42), (45, 119), (94, 89), (123, 124)], 42) := by decide +kernel
theorem dX11_unit_88 : decode cX11_unit 88 = .ok (.aload_n 0, 1) := by decide +kernel
theorem dX11_unit_89 : decode cX11_unit 89 = .ok (.dup, 1) := by decide +kernel
theorem dX11_unit_90 : decode cX11_unit 90 = .ok (.getfield 416, 3) := by decide +kernel
theorem dX11_unit_93 : decode cX11_unit 93 = .ok (.iconst 1, 1) := by decide +kernel
theorem dX11_unit_94 : decode cX11_unit 94 = .ok (.iadd, 1) := by decide +kernel
theorem dX11_unit_95 : decode cX11_unit 95 = .ok (.putfield 416, 3) := by decide +kernel
theorem dX11_unit_98 : decode cX11_unit 98 = .ok (.aload_n 0, 1) := by decide +kernel
theorem dX11_unit_99 : decode cX11_unit 99 = .ok (.invokevirtual 428, 3) := by decide +kernel
theorem dX11_unit_102 : decode cX11_unit 102 = .ok (.ifCond .eq 10, 3) := by decide +kernel
theorem dX11_unit_105 : decode cX11_unit 105 = .ok (.aload_n 0, 1) := by decide +kernel
theorem dX11_unit_106 : decode cX11_unit 106 = .ok (.invokevirtual 459, 3) := by decide +kernel
theorem dX11_unit_109 : decode cX11_unit 109 = .ok (.goto 4, 3) := by decide +kernel
theorem dX11_unit_112 : decode cX11_unit 112 = .ok (.iconst 1, 1) := by decide +kernel
theorem dX11_unit_113 : decode cX11_unit 113 = .ok (.istore_n 1, 1) := by decide +kernel
theorem dX11_unit_114 : decode cX11_unit 114 = .ok (.aload_n 0, 1) := by decide +kernel
theorem dX11_unit_115 : decode cX11_unit 115 = .ok (.getfield 444, 3) := by decide +kernel
theorem dX11_unit_118 : decode cX11_unit 118 = .ok (.ifCond .eq 15, 3) := by decide +kernel
theorem dX11_unit_121 : decode cX11_unit 121 = .ok (.aload_n 0, 1) := by decide +kernel
theorem dX11_unit_122 : decode cX11_unit 122 = .ok (.aload_n 0, 1) := by decide +kernel
theorem dX11_unit_123 : decode cX11_unit 123 = .ok (.iload_n 1, 1) := by decide +kernel
theorem dX11_unit_124 : decode cX11_unit 124 = .ok (.invokevirtual 206, 3) := by decide +kernel
theorem dX11_unit_127 : decode cX11_unit 127 = .ok (.invokevirtual 447, 3) := by decide +kernel
theorem dX11_unit_130 : decode cX11_unit 130 = .ok (.goto 4, 3) := by decide +kernel
theorem dX11_unit_133 : decode cX11_unit 133 = .ok (.iconst 0, 1) := by decide +kernel
theorem dX11_unit_134 : decode cX11_unit 134 = .ok (.ireturn, 1) := by decide +kernel
theorem dX11_unit_135 : decode cX11_unit 135 = .ok (.aload_n 0, 1) := by decide +kernel
theorem dX11_unit_136 : decode cX11_unit 136 = .ok (.dup, 1) := by decide +kernel
theorem dX11_unit_137 : decode cX11_unit 137 = .ok (.getfield 416, 3) := by decide +kernel
theorem dX11_unit_140 : decode cX11_unit 140 = .ok (.iconst 1, 1) := by decide +kernel
theorem dX11_unit_141 : decode cX11_unit 141 = .ok (.iadd, 1) := by decide +kernel
theorem dX11_unit_142 : decode cX11_unit 142 = .ok (.putfield 416, 3) := by decide +kernel
theorem dX11_unit_145 : decode cX11_unit 145 = .ok (.aload_n 0, 1) := by decide +kernel
theorem dX11_unit_146 : decode cX11_unit 146 = .ok (.getfield 444, 3) := by decide +kernel
theorem dX11_unit_149 : decode cX11_unit 149 = .ok (.ifCond .eq 14, 3) := by decide +kernel
theorem dX11_unit_152 : decode cX11_unit 152 = .ok (.aload_n 0, 1) := by decide +kernel
theorem dX11_unit_153 : decode cX11_unit 153 = .ok (.aload_n 0, 1) := by decide +kernel
theorem dX11_unit_154 : decode cX11_unit 154 = .ok (.invokevirtual 342, 3) := by decide +kernel
theorem dX11_unit_157 : decode cX11_unit 157 = .ok (.invokevirtual 447, 3) := by decide +kernel
theorem dX11_unit_160 : decode cX11_unit 160 = .ok (.goto 4, 3) := by decide +kernel
theorem dX11_unit_163 : decode cX11_unit 163 = .ok (.iconst 0, 1) := by decide +kernel
theorem dX11_unit_164 : decode cX11_unit 164 = .ok (.ireturn, 1) := by decide +kernel
theorem dX11_unit_165 : decode cX11_unit 165 = .ok (.aload_n 0, 1) := by decide +kernel
theorem dX11_unit_166 : decode cX11_unit 166 = .ok (.invokevirtual 462, 3) := by decide +kernel
theorem dX11_unit_169 : decode cX11_unit 169 = .ok (.ireturn, 1) := by decide +kernel
theorem dX11_unit_170 : decode cX11_unit 170 = .ok (.aload_n 0, 1) := by decide +kernel
theorem dX11_unit_171 : decode cX11_unit 171 = .ok (.invokevirtual 465, 3) := by decide +kernel
theorem dX11_unit_174 : decode cX11_unit 174 = .ok (.ireturn, 1) := by decide +kernel
theorem dX11_unit_175 : decode cX11_unit 175 = .ok (.aload_n 0, 1) := by decide +kernel
theorem dX11_unit_176 : decode cX11_unit 176 = .ok (.aload_n 0, 1) := by decide +kernel
theorem dX11_unit_177 : decode cX11_unit 177 = .ok (.getfield 416, 3) := by decide +kernel
theorem dX11_unit_180 : decode cX11_unit 180 = .ok (.invokevirtual 425, 3) := by decide +kernel
theorem dX11_unit_183 : decode cX11_unit 183 = .ok (.iconst 0, 1) := by decide +kernel
theorem dX11_unit_184 : decode cX11_unit 184 = .ok (.ireturn, 1) := by decide +kernel
theorem dX11_unlikeSlots_0 : decode cX11_unlikeSlots 0 = .ok (.iconst 0, 1) := by decide +kernel
theorem dX11_unlikeSlots_1 : decode cX11_unlikeSlots 1 = .ok (.istore_n 1, 1) := by decide +kernel
theorem dX11_unlikeSlots_2 : decode cX11_unlikeSlots 2 = .ok (.iconst 0, 1) := by decide +kernel
theorem dX11_unlikeSlots_3 : decode cX11_unlikeSlots 3 = .ok (.istore_n 2, 1) := by decide +kernel
theorem dX11_unlikeSlots_4 : decode cX11_unlikeSlots 4 = .ok (.iload_n 2, 1) := by decide +kernel
theorem dX11_unlikeSlots_5 : decode cX11_unlikeSlots 5 = .ok (.bipush 8, 2) := by decide +kernel
theorem dX11_unlikeSlots_7 : decode cX11_unlikeSlots 7 = .ok (.if_icmp .ge 35, 3) := by decide +kernel
theorem dX11_unlikeSlots_10 : decode cX11_unlikeSlots 10 = .ok (.iload_n 1, 1) := by decide +kernel
theorem dX11_unlikeSlots_11 : decode cX11_unlikeSlots 11 = .ok (.aload_n 0, 1) := by decide +kernel
theorem dX11_unlikeSlots_12 : decode cX11_unlikeSlots 12 = .ok (.getfield 264, 3) := by decide +kernel
theorem dX11_unlikeSlots_15 : decode cX11_unlikeSlots 15 = .ok (.iconst 0, 1) := by decide +kernel
theorem dX11_unlikeSlots_16 : decode cX11_unlikeSlots 16 = .ok (.iload_n 2, 1) := by decide +kernel
theorem dX11_unlikeSlots_17 : decode cX11_unlikeSlots 17 = .ok (.aload_n 0, 1) := by decide +kernel
theorem dX11_unlikeSlots_18 : decode cX11_unlikeSlots 18 = .ok (.getfield 264, 3) := by decide +kernel
theorem dX11_unlikeSlots_21 : decode cX11_unlikeSlots 21 = .ok (.iload_n 2, 1) := by decide +kernel
theorem dX11_unlikeSlots_22 : decode cX11_unlikeSlots 22 = .ok (.iaload, 1) := by decide +kernel
theorem dX11_unlikeSlots_23 : decode cX11_unlikeSlots 23 = .ok (.invokestatic 38, 3) := by decide +kernel
theorem dX11_unlikeSlots_26 : decode cX11_unlikeSlots 26 = .ok (.ifCond .eq 7, 3) := by decide +kernel
theorem dX11_unlikeSlots_29 : decode cX11_unlikeSlots 29 = .ok (.iconst 0, 1) := by decide +kernel
theorem dX11_unlikeSlots_30 : decode cX11_unlikeSlots 30 = .ok (.goto 4, 3) := by decide +kernel
theorem dX11_unlikeSlots_33 : decode cX11_unlikeSlots 33 = .ok (.iconst 1, 1) := by decide +kernel
theorem dX11_unlikeSlots_34 : decode cX11_unlikeSlots 34 = .ok (.iadd, 1) := by decide +kernel
theorem dX11_unlikeSlots_35 : decode cX11_unlikeSlots 35 = .ok (.istore_n 1, 1) := by decide +kernel
theorem dX11_unlikeSlots_36 : decode cX11_unlikeSlots 36 = .ok (.iinc 2 1, 3) := by decide +kernel
theorem dX11_unlikeSlots_39 : decode cX11_unlikeSlots 39 = .ok (.goto (-35), 3) := by decide +kernel
theorem dX11_unlikeSlots_42 : decode cX11_unlikeSlots 42 = .ok (.iload_n 1, 1) := by decide +kernel
theorem dX11_unlikeSlots_43 : decode cX11_unlikeSlots 43 = .ok (.ireturn, 1) := by decide +kernel
theorem dX11_up_0 : decode cX11_up 0 = .ok (.aload_n 0, 1) := by decide +kernel
theorem dX11_up_1 : decode cX11_up 1 = .ok (.iconst 1, 1) := by decide +kernel
theorem dX11_up_2 : decode cX11_up 2 = .ok (.invokevirtual 206, 3) := by decide +kernel
theorem dX11_up_5 : decode cX11_up 5 = .ok (.istore_n 1, 1) := by decide +kernel
theorem dX11_up_6 : decode cX11_up 6 = .ok (.aload_n 0, 1) := by decide +kernel
theorem dX11_up_7 : decode cX11_up 7 = .ok (.getfield 175, 3) := by decide +kernel
theorem dX11_up_10 : decode cX11_up 10 = .ok (.istore_n 2, 1) := by decide +kernel
theorem dX11_up_11 : decode cX11_up 11 = .ok (.aload_n 0, 1) := by decide +kernel
theorem dX11_up_12 : decode cX11_up 12 = .ok (.iconst 0, 1) := by decide +kernel
theorem dX11_up_13 : decode cX11_up 13 = .ok (.invokevirtual 194, 3) := by decide +kernel
theorem dX11_up_16 : decode cX11_up 16 = .ok (.aload_n 0, 1) := by decide +kernel
theorem dX11_up_17 : decode cX11_up 17 = .ok (.iload_n 1, 1) := by decide +kernel
theorem dX11_up_18 : decode cX11_up 18 = .ok (.invokevirtual 194, 3) := by decide +kernel
theorem dX11_up_21 : decode cX11_up 21 = .ok (.aload_n 0, 1) := by decide +kernel
theorem dX11_up_22 : decode cX11_up 22 = .ok (.iload_n 2, 1) := by decide +kernel
theorem dX11_up_23 : decode cX11_up 23 = .ok (.iload_n 2, 1) := by decide +kernel
theorem dX11_up_24 : decode cX11_up 24 = .ok (.iconst 1, 1) := by decide +kernel
theorem dX11_up_25 : decode cX11_up 25 = .ok (.iadd, 1) := by decide +kernel
theorem dX11_up_26 : decode cX11_up 26 = .ok (.invokevirtual 197, 3) := by decide +kernel
theorem dX11_up_29 : decode cX11_up 29 = .ok (.ireturn, 1) := by decide +kernel
theorem dX11_ups_0 : decode cX11_ups 0 = .ok (.iload_n 1, 1) := by decide +kernel
theorem dX11_ups_1 : decode cX11_ups 1 = .ok (.invokestatic 324, 3) := by decide +kernel
theorem dX11_ups_4 : decode cX11_ups 4 = .ok (.ifCond .eq 22, 3) := by decide +kernel
theorem dX11_ups_7 : decode cX11_ups 7 = .ok (.iload_n 2, 1) := by decide +kernel
theorem dX11_ups_8 : decode cX11_ups 8 = .ok (.bipush (-4), 2) := by decide +kernel
theorem dX11_ups_10 : decode cX11_ups 10 = .ok (.iconst 4, 1) := by decide +kernel
theorem dX11_ups_11 : decode cX11_ups 11 = .ok (.invokestatic 106, 3) := by decide +kernel
theorem dX11_ups_14 : decode cX11_ups 14 = .ok (.ifCond .eq 12, 3) := by decide +kernel
theorem dX11_ups_17 : decode cX11_ups 17 = .ok (.iload_n 3, 1) := by decide +kernel
theorem dX11_ups_18 : decode cX11_ups 18 = .ok (.iconst 0, 1) := by decide +kernel
theorem dX11_ups_19 : decode cX11_ups 19 = .ok (.iconst 5, 1) := by decide +kernel
theorem dX11_ups_20 : decode cX11_ups 20 = .ok (.invokestatic 106, 3) := by decide +kernel
theorem dX11_ups_23 : decode cX11_ups 23 = .ok (.ifCond .ne 9, 3) := by decide +kernel
theorem dX11_ups_26 : decode cX11_ups 26 = .ok (.aload_n 0, 1) := by decide +kernel
theorem dX11_ups_27 : decode cX11_ups 27 = .ok (.iconst 1, 1) := by decide +kernel
theorem dX11_ups_28 : decode cX11_ups 28 = .ok (.invokevirtual 300, 3) := by decide +kernel
theorem dX11_ups_31 : decode cX11_ups 31 = .ok (.ireturn, 1) := by decide +kernel
theorem dX11_ups_32 : decode cX11_ups 32 = .ok (.aload_n 0, 1) := by decide +kernel
theorem dX11_ups_33 : decode cX11_ups 33 = .ok (.invokevirtual 333, 3) := by decide +kernel
theorem dX11_ups_36 : decode cX11_ups 36 = .ok (.aload_n 0, 1) := by decide +kernel
theorem dX11_ups_37 : decode cX11_ups 37 = .ok (.iload_n 3, 1) := by decide +kernel
theorem dX11_ups_38 : decode cX11_ups 38 = .ok (.invokevirtual 206, 3) := by decide +kernel
theorem dX11_ups_41 : decode cX11_ups 41 = .ok (.istore 4, 2) := by decide +kernel
theorem dX11_ups_43 : decode cX11_ups 43 = .ok (.iload_n 2, 1) := by decide +kernel
theorem dX11_ups_44 : decode cX11_ups 44 = .ok (.ifCond .ge 14, 3) := by decide +kernel
theorem dX11_ups_47 : decode cX11_ups 47 = .ok (.aload_n 0, 1) := by decide +kernel
theorem dX11_ups_48 : decode cX11_ups 48 = .ok (.aload_n 0, 1) := by decide +kernel
theorem dX11_ups_49 : decode cX11_ups 49 = .ok (.invokevirtual 342, 3) := by decide +kernel
theorem dX11_ups_52 : decode cX11_ups 52 = .ok (.invokevirtual 200, 3) := by decide +kernel
theorem dX11_ups_55 : decode cX11_ups 55 = .ok (.goto 7, 3) := by decide +kernel
theorem dX11_ups_58 : decode cX11_ups 58 = .ok (.aload_n 0, 1) := by decide +kernel
theorem dX11_ups_59 : decode cX11_ups 59 = .ok (.invokevirtual 342, 3) := by decide +kernel
theorem dX11_ups_62 : decode cX11_ups 62 = .ok (.istore 5, 2) := by decide +kernel
theorem dX11_ups_64 : decode cX11_ups 64 = .ok (.iconst 0, 1) := by decide +kernel
theorem dX11_ups_65 : decode cX11_ups 65 = .ok (.istore 6, 2) := by decide +kernel
theorem dX11_ups_67 : decode cX11_ups 67 = .ok (.iload 6, 2) := by decide +kernel
theorem dX11_ups_69 : decode cX11_ups 69 = .ok (.iload_n 2, 1) := by decide +kernel
theorem dX11_ups_70 : decode cX11_ups 70 = .ok (.if_icmp .lt 10, 3) := by decide +kernel
theorem dX11_ups_73 : decode cX11_ups 73 = .ok (.iload 6, 2) := by decide +kernel
theorem dX11_ups_75 : decode cX11_ups 75 = .ok (.iload_n 2, 1) := by decide +kernel
theorem dX11_ups_76 : decode cX11_ups 76 = .ok (.ineg, 1) := by decide +kernel
theorem dX11_ups_77 : decode cX11_ups 77 = .ok (.if_icmp .ge 19, 3) := by decide +kernel
theorem dX11_ups_80 : decode cX11_ups 80 = .ok (.aload_n 0, 1) := by decide +kernel
theorem dX11_ups_81 : decode cX11_ups 81 = .ok (.iload 4, 2) := by decide +kernel
theorem dX11_ups_83 : decode cX11_ups 83 = .ok (.iload 5, 2) := by decide +kernel
theorem dX11_ups_85 : decode cX11_ups 85 = .ok (.invokevirtual 191, 3) := by decide +kernel
theorem dX11_ups_88 : decode cX11_ups 88 = .ok (.istore 4, 2) := by decide +kernel
theorem dX11_ups_90 : decode cX11_ups 90 = .ok (.iinc 6 1, 3) := by decide +kernel
theorem dX11_ups_93 : decode cX11_ups 93 = .ok (.goto (-26), 3) := by decide +kernel
theorem dX11_ups_96 : decode cX11_ups 96 = .ok (.aload_n 0, 1) := by decide +kernel
theorem dX11_ups_97 : decode cX11_ups 97 = .ok (.iload_n 1, 1) := by decide +kernel
theorem dX11_ups_98 : decode cX11_ups 98 = .ok (.iload 4, 2) := by decide +kernel
theorem dX11_ups_100 : decode cX11_ups 100 = .ok (.invokevirtual 339, 3) := by decide +kernel
theorem dX11_ups_103 : decode cX11_ups 103 = .ok (.ireturn, 1) := by decide +kernel
theorem dX11_waits_0 : decode cX11_waits 0 = .ok (.aload_n 0, 1) := by decide +kernel
theorem dX11_waits_1 : decode cX11_waits 1 = .ok (.getfield 172, 3) := by decide +kernel
theorem dX11_waits_4 : decode cX11_waits 4 = .ok (.aload_n 0, 1) := by decide +kernel
theorem dX11_waits_5 : decode cX11_waits 5 = .ok (.getfield 175, 3) := by decide +kernel
theorem dX11_waits_8 : decode cX11_waits 8 = .ok (.iload_n 1, 1) := by decide +kernel
theorem dX11_waits_9 : decode cX11_waits 9 = .ok (.iastore, 1) := by decide +kernel
theorem dX11_waits_10 : decode cX11_waits 10 = .ok (.aload_n 0, 1) := by decide +kernel
theorem dX11_waits_11 : decode cX11_waits 11 = .ok (.dup, 1) := by decide +kernel
theorem dX11_waits_12 : decode cX11_waits 12 = .ok (.getfield 175, 3) := by decide +kernel
theorem dX11_waits_15 : decode cX11_waits 15 = .ok (.iconst 1, 1) := by decide +kernel
theorem dX11_waits_16 : decode cX11_waits 16 = .ok (.iadd, 1) := by decide +kernel
theorem dX11_waits_17 : decode cX11_waits 17 = .ok (.putfield 175, 3) := by decide +kernel
theorem dX11_waits_20 : decode cX11_waits 20 = .ok (.return_, 1) := by decide +kernel
theorem dX11_waitsBorn_0 : decode cX11_waitsBorn 0 = .ok (.iconst 0, 1) := by decide +kernel
theorem dX11_waitsBorn_1 : decode cX11_waitsBorn 1 = .ok (.istore_n 3, 1) := by decide +kernel
theorem dX11_waitsBorn_2 : decode cX11_waitsBorn 2 = .ok (.iload_n 3, 1) := by decide +kernel
theorem dX11_waitsBorn_3 : decode cX11_waitsBorn 3 = .ok (.iload_n 2, 1) := by decide +kernel
theorem dX11_waitsBorn_4 : decode cX11_waitsBorn 4 = .ok (.if_icmp .ge 28, 3) := by decide +kernel
theorem dX11_waitsBorn_7 : decode cX11_waitsBorn 7 = .ok (.iload_n 1, 1) := by decide +kernel
theorem dX11_waitsBorn_8 : decode cX11_waitsBorn 8 = .ok (.iload_n 3, 1) := by decide +kernel
theorem dX11_waitsBorn_9 : decode cX11_waitsBorn 9 = .ok (.ishr, 1) := by decide +kernel
theorem dX11_waitsBorn_10 : decode cX11_waitsBorn 10 = .ok (.iconst 1, 1) := by decide +kernel
theorem dX11_waitsBorn_11 : decode cX11_waitsBorn 11 = .ok (.iand, 1) := by decide +kernel
theorem dX11_waitsBorn_12 : decode cX11_waitsBorn 12 = .ok (.iconst 1, 1) := by decide +kernel
theorem dX11_waitsBorn_13 : decode cX11_waitsBorn 13 = .ok (.if_icmp .ne 13, 3) := by decide +kernel
theorem dX11_waitsBorn_16 : decode cX11_waitsBorn 16 = .ok (.aload_n 0, 1) := by decide +kernel
theorem dX11_waitsBorn_17 : decode cX11_waitsBorn 17 = .ok (.aload_n 0, 1) := by decide +kernel
theorem dX11_waitsBorn_18 : decode cX11_waitsBorn 18 = .ok (.getfield 279, 3) := by decide +kernel
theorem dX11_waitsBorn_21 : decode cX11_waitsBorn 21 = .ok (.iload_n 3, 1) := by decide +kernel
theorem dX11_waitsBorn_22 : decode cX11_waitsBorn 22 = .ok (.iaload, 1) := by decide +kernel
theorem dX11_waitsBorn_23 : decode cX11_waitsBorn 23 = .ok (.invokevirtual 194, 3) := by decide +kernel
theorem dX11_waitsBorn_26 : decode cX11_waitsBorn 26 = .ok (.iinc 3 1, 3) := by decide +kernel
theorem dX11_waitsBorn_29 : decode cX11_waitsBorn 29 = .ok (.goto (-27), 3) := by decide +kernel
theorem dX11_waitsBorn_32 : decode cX11_waitsBorn 32 = .ok (.return_, 1) := by decide +kernel
theorem dX11_waitsSet_0 : decode cX11_waitsSet 0 = .ok (.iconst 0, 1) := by decide +kernel
theorem dX11_waitsSet_1 : decode cX11_waitsSet 1 = .ok (.istore_n 2, 1) := by decide +kernel
theorem dX11_waitsSet_2 : decode cX11_waitsSet 2 = .ok (.iload_n 2, 1) := by decide +kernel
theorem dX11_waitsSet_3 : decode cX11_waitsSet 3 = .ok (.bipush 8, 2) := by decide +kernel
theorem dX11_waitsSet_5 : decode cX11_waitsSet 5 = .ok (.if_icmp .ge 28, 3) := by decide +kernel
theorem dX11_waitsSet_8 : decode cX11_waitsSet 8 = .ok (.iload_n 1, 1) := by decide +kernel
theorem dX11_waitsSet_9 : decode cX11_waitsSet 9 = .ok (.iload_n 2, 1) := by decide +kernel
theorem dX11_waitsSet_10 : decode cX11_waitsSet 10 = .ok (.ishr, 1) := by decide +kernel
theorem dX11_waitsSet_11 : decode cX11_waitsSet 11 = .ok (.iconst 1, 1) := by decide +kernel
theorem dX11_waitsSet_12 : decode cX11_waitsSet 12 = .ok (.iand, 1) := by decide +kernel
theorem dX11_waitsSet_13 : decode cX11_waitsSet 13 = .ok (.iconst 1, 1) := by decide +kernel
theorem dX11_waitsSet_14 : decode cX11_waitsSet 14 = .ok (.if_icmp .ne 13, 3) := by decide +kernel
theorem dX11_waitsSet_17 : decode cX11_waitsSet 17 = .ok (.aload_n 0, 1) := by decide +kernel
theorem dX11_waitsSet_18 : decode cX11_waitsSet 18 = .ok (.aload_n 0, 1) := by decide +kernel
theorem dX11_waitsSet_19 : decode cX11_waitsSet 19 = .ok (.getfield 264, 3) := by decide +kernel
theorem dX11_waitsSet_22 : decode cX11_waitsSet 22 = .ok (.iload_n 2, 1) := by decide +kernel
theorem dX11_waitsSet_23 : decode cX11_waitsSet 23 = .ok (.iaload, 1) := by decide +kernel
theorem dX11_waitsSet_24 : decode cX11_waitsSet 24 = .ok (.invokevirtual 194, 3) := by decide +kernel
theorem dX11_waitsSet_27 : decode cX11_waitsSet 27 = .ok (.iinc 2 1, 3) := by decide +kernel
theorem dX11_waitsSet_30 : decode cX11_waitsSet 30 = .ok (.goto (-28), 3) := by decide +kernel
theorem dX11_waitsSet_33 : decode cX11_waitsSet 33 = .ok (.return_, 1) := by decide +kernel
theorem dX11_wants_0 : decode cX11_wants 0 = .ok (.aload_n 0, 1) := by decide +kernel
theorem dX11_wants_1 : decode cX11_wants 1 = .ok (.getfield 422, 3) := by decide +kernel
theorem dX11_wants_4 : decode cX11_wants 4 = .ok (.ifCond .ge 24, 3) := by decide +kernel
theorem dX11_wants_7 : decode cX11_wants 7 = .ok (.aload_n 0, 1) := by decide +kernel
theorem dX11_wants_8 : decode cX11_wants 8 = .ok (.invokevirtual 419, 3) := by decide +kernel
theorem dX11_wants_11 : decode cX11_wants 11 = .ok (.iload_n 1, 1) := by decide +kernel
theorem dX11_wants_12 : decode cX11_wants 12 = .ok (.if_icmp .ne 16, 3) := by decide +kernel
theorem dX11_wants_15 : decode cX11_wants 15 = .ok (.aload_n 0, 1) := by decide +kernel
theorem dX11_wants_16 : decode cX11_wants 16 = .ok (.dup, 1) := by decide +kernel
theorem dX11_wants_17 : decode cX11_wants 17 = .ok (.getfield 416, 3) := by decide +kernel
theorem dX11_wants_20 : decode cX11_wants 20 = .ok (.iconst 1, 1) := by decide +kernel
theorem dX11_wants_21 : decode cX11_wants 21 = .ok (.iadd, 1) := by decide +kernel
theorem dX11_wants_22 : decode cX11_wants 22 = .ok (.putfield 416, 3) := by decide +kernel
theorem dX11_wants_25 : decode cX11_wants 25 = .ok (.goto 11, 3) := by decide +kernel
theorem dX11_wants_28 : decode cX11_wants 28 = .ok (.aload_n 0, 1) := by decide +kernel
theorem dX11_wants_29 : decode cX11_wants 29 = .ok (.aload_n 0, 1) := by decide +kernel
theorem dX11_wants_30 : decode cX11_wants 30 = .ok (.getfield 416, 3) := by decide +kernel
theorem dX11_wants_33 : decode cX11_wants 33 = .ok (.invokevirtual 425, 3) := by decide +kernel
theorem dX11_wants_36 : decode cX11_wants 36 = .ok (.return_, 1) := by decide +kernel
theorem dX11_weight_0 : decode cX11_weight 0 = .ok (.iload_n 1, 1) := by decide +kernel
theorem dX11_weight_1 : decode cX11_weight 1 = .ok (.invokestatic 324, 3) := by decide +kernel
theorem dX11_weight_4 : decode cX11_weight 4 = .ok (.ifCond .eq 11, 3) := by decide +kernel
theorem dX11_weight_7 : decode cX11_weight 7 = .ok (.aload_n 0, 1) := by decide +kernel
theorem dX11_weight_8 : decode cX11_weight 8 = .ok (.iload_n 2, 1) := by decide +kernel
theorem dX11_weight_9 : decode cX11_weight 9 = .ok (.invokevirtual 371, 3) := by decide +kernel
theorem dX11_weight_12 : decode cX11_weight 12 = .ok (.goto 4, 3) := by decide +kernel
theorem dX11_weight_15 : decode cX11_weight 15 = .ok (.iconst 1, 1) := by decide +kernel
theorem dX11_weight_16 : decode cX11_weight 16 = .ok (.istore_n 3, 1) := by decide +kernel
theorem dX11_weight_17 : decode cX11_weight 17 = .ok (.iload_n 3, 1) := by decide +kernel
theorem dX11_weight_18 : decode cX11_weight 18 = .ok (.ifCond .eq 9, 3) := by decide +kernel
theorem dX11_weight_21 : decode cX11_weight 21 = .ok (.aload_n 0, 1) := by decide +kernel
theorem dX11_weight_22 : decode cX11_weight 22 = .ok (.iload_n 3, 1) := by decide +kernel
theorem dX11_weight_23 : decode cX11_weight 23 = .ok (.invokevirtual 300, 3) := by decide +kernel
theorem dX11_weight_26 : decode cX11_weight 26 = .ok (.ireturn, 1) := by decide +kernel
theorem dX11_weight_27 : decode cX11_weight 27 = .ok (.aload_n 0, 1) := by decide +kernel
theorem dX11_weight_28 : decode cX11_weight 28 = .ok (.invokevirtual 333, 3) := by decide +kernel
theorem dX11_weight_31 : decode cX11_weight 31 = .ok (.aload_n 0, 1) := by decide +kernel
theorem dX11_weight_32 : decode cX11_weight 32 = .ok (.aload_n 0, 1) := by decide +kernel
theorem dX11_weight_33 : decode cX11_weight 33 = .ok (.getfield 264, 3) := by decide +kernel
theorem dX11_weight_36 : decode cX11_weight 36 = .ok (.iload_n 2, 1) := by decide +kernel
theorem dX11_weight_37 : decode cX11_weight 37 = .ok (.iaload, 1) := by decide +kernel
theorem dX11_weight_38 : decode cX11_weight 38 = .ok (.invokevirtual 364, 3) := by decide +kernel
theorem dX11_weight_41 : decode cX11_weight 41 = .ok (.istore 4, 2) := by decide +kernel
theorem dX11_weight_43 : decode cX11_weight 43 = .ok (.aload_n 0, 1) := by decide +kernel
theorem dX11_weight_44 : decode cX11_weight 44 = .ok (.iload_n 1, 1) := by decide +kernel
theorem dX11_weight_45 : decode cX11_weight 45 = .ok (.iload 4, 2) := by decide +kernel
theorem dX11_weight_47 : decode cX11_weight 47 = .ok (.invokevirtual 339, 3) := by decide +kernel
theorem dX11_weight_50 : decode cX11_weight 50 = .ok (.istore 5, 2) := by decide +kernel
theorem dX11_weight_52 : decode cX11_weight 52 = .ok (.iload 5, 2) := by decide +kernel
theorem dX11_weight_54 : decode cX11_weight 54 = .ok (.ifCond .ge 8, 3) := by decide +kernel
theorem dX11_weight_57 : decode cX11_weight 57 = .ok (.iload 5, 2) := by decide +kernel
theorem dX11_weight_59 : decode cX11_weight 59 = .ok (.goto 21, 3) := by decide +kernel
theorem dX11_weight_62 : decode cX11_weight 62 = .ok (.aload_n 0, 1) := by decide +kernel
theorem dX11_weight_63 : decode cX11_weight 63 = .ok (.getfield 79, 3) := by decide +kernel
theorem dX11_weight_66 : decode cX11_weight 66 = .ok (.iload 4, 2) := by decide +kernel
theorem dX11_weight_68 : decode cX11_weight 68 = .ok (.iaload, 1) := by decide +kernel
theorem dX11_weight_69 : decode cX11_weight 69 = .ok (.sipush (-1000), 3) := by decide +kernel
theorem dX11_weight_72 : decode cX11_weight 72 = .ok (.if_icmp .ne 7, 3) := by decide +kernel
theorem dX11_weight_75 : decode cX11_weight 75 = .ok (.iconst 0, 1) := by decide +kernel
theorem dX11_weight_76 : decode cX11_weight 76 = .ok (.goto 4, 3) := by decide +kernel
theorem dX11_weight_79 : decode cX11_weight 79 = .ok (.iconst 1, 1) := by decide +kernel
theorem dX11_weight_80 : decode cX11_weight 80 = .ok (.ireturn, 1) := by decide +kernel
theorem dX11_weightOf_0 : decode cX11_weightOf 0 = .ok (.iload_n 1, 1) := by decide +kernel
theorem dX11_weightOf_1 : decode cX11_weightOf 1 = .ok (.ifCond .ne 5, 3) := by decide +kernel
theorem dX11_weightOf_4 : decode cX11_weightOf 4 = .ok (.iconst 0, 1) := by decide +kernel
theorem dX11_weightOf_5 : decode cX11_weightOf 5 = .ok (.ireturn, 1) := by decide +kernel
theorem dX11_weightOf_6 : decode cX11_weightOf 6 = .ok (.aload_n 0, 1) := by decide +kernel
theorem dX11_weightOf_7 : decode cX11_weightOf 7 = .ok (.getfield 68, 3) := by decide +kernel
theorem dX11_weightOf_10 : decode cX11_weightOf 10 = .ok (.iload_n 1, 1) := by decide +kernel
theorem dX11_weightOf_11 : decode cX11_weightOf 11 = .ok (.iaload, 1) := by decide +kernel
theorem dX11_weightOf_12 : decode cX11_weightOf 12 = .ok (.ifCond .le 12, 3) := by decide +kernel
theorem dX11_weightOf_15 : decode cX11_weightOf 15 = .ok (.aload_n 0, 1) := by decide +kernel
theorem dX11_weightOf_16 : decode cX11_weightOf 16 = .ok (.getfield 68, 3) := by decide +kernel
theorem dX11_weightOf_19 : decode cX11_weightOf 19 = .ok (.iload_n 1, 1) := by decide +kernel
theorem dX11_weightOf_20 : decode cX11_weightOf 20 = .ok (.iaload, 1) := by decide +kernel
theorem dX11_weightOf_21 : decode cX11_weightOf 21 = .ok (.iconst 1, 1) := by decide +kernel
theorem dX11_weightOf_22 : decode cX11_weightOf 22 = .ok (.isub, 1) := by decide +kernel
theorem dX11_weightOf_23 : decode cX11_weightOf 23 = .ok (.ireturn, 1) := by decide +kernel
theorem dX11_weightOf_24 : decode cX11_weightOf 24 = .ok (.aload_n 0, 1) := by decide +kernel
theorem dX11_weightOf_25 : decode cX11_weightOf 25 = .ok (.getfield 175, 3) := by decide +kernel
theorem dX11_weightOf_28 : decode cX11_weightOf 28 = .ok (.istore_n 2, 1) := by decide +kernel
theorem dX11_weightOf_29 : decode cX11_weightOf 29 = .ok (.aload_n 0, 1) := by decide +kernel
theorem dX11_weightOf_30 : decode cX11_weightOf 30 = .ok (.getfield 29, 3) := by decide +kernel
theorem dX11_weightOf_33 : decode cX11_weightOf 33 = .ok (.iload_n 1, 1) := by decide +kernel
theorem dX11_weightOf_34 : decode cX11_weightOf 34 = .ok (.iaload, 1) := by decide +kernel
theorem dX11_weightOf_35 : decode cX11_weightOf 35 = .ok (.istore_n 3, 1) := by decide +kernel
theorem dX11_weightOf_36 : decode cX11_weightOf 36 = .ok (.iload_n 3, 1) := by decide +kernel
theorem dX11_weightOf_37 : decode cX11_weightOf 37 = .ok (.aload_n 0, 1) := by decide +kernel
theorem dX11_weightOf_38 : decode cX11_weightOf 38 = .ok (.getfield 26, 3) := by decide +kernel
theorem dX11_weightOf_41 : decode cX11_weightOf 41 = .ok (.iload_n 1, 1) := by decide +kernel
theorem dX11_weightOf_42 : decode cX11_weightOf 42 = .ok (.iaload, 1) := by decide +kernel
theorem dX11_weightOf_43 : decode cX11_weightOf 43 = .ok (.if_icmp .ge 33, 3) := by decide +kernel
theorem dX11_weightOf_46 : decode cX11_weightOf 46 = .ok (.aload_n 0, 1) := by decide +kernel
theorem dX11_weightOf_47 : decode cX11_weightOf 47 = .ok (.aload_n 0, 1) := by decide +kernel
theorem dX11_weightOf_48 : decode cX11_weightOf 48 = .ok (.aload_n 0, 1) := by decide +kernel
theorem dX11_weightOf_49 : decode cX11_weightOf 49 = .ok (.aload_n 0, 1) := by decide +kernel
theorem dX11_weightOf_50 : decode cX11_weightOf 50 = .ok (.getfield 35, 3) := by decide +kernel
theorem dX11_weightOf_53 : decode cX11_weightOf 53 = .ok (.iload_n 3, 1) := by decide +kernel
theorem dX11_weightOf_54 : decode cX11_weightOf 54 = .ok (.iaload, 1) := by decide +kernel
theorem dX11_weightOf_55 : decode cX11_weightOf 55 = .ok (.invokevirtual 364, 3) := by decide +kernel
theorem dX11_weightOf_58 : decode cX11_weightOf 58 = .ok (.aload_n 0, 1) := by decide +kernel
theorem dX11_weightOf_59 : decode cX11_weightOf 59 = .ok (.bipush (-2), 2) := by decide +kernel
theorem dX11_weightOf_61 : decode cX11_weightOf 61 = .ok (.invokevirtual 336, 3) := by decide +kernel
theorem dX11_weightOf_64 : decode cX11_weightOf 64 = .ok (.invokevirtual 191, 3) := by decide +kernel
theorem dX11_weightOf_67 : decode cX11_weightOf 67 = .ok (.invokevirtual 194, 3) := by decide +kernel
theorem dX11_weightOf_70 : decode cX11_weightOf 70 = .ok (.iinc 3 1, 3) := by decide +kernel
theorem dX11_weightOf_73 : decode cX11_weightOf 73 = .ok (.goto (-37), 3) := by decide +kernel
theorem dX11_weightOf_76 : decode cX11_weightOf 76 = .ok (.aload_n 0, 1) := by decide +kernel
theorem dX11_weightOf_77 : decode cX11_weightOf 77 = .ok (.getfield 175, 3) := by decide +kernel
theorem dX11_weightOf_80 : decode cX11_weightOf 80 = .ok (.istore_n 3, 1) := by decide +kernel
theorem dX11_weightOf_81 : decode cX11_weightOf 81 = .ok (.aload_n 0, 1) := by decide +kernel
theorem dX11_weightOf_82 : decode cX11_weightOf 82 = .ok (.getfield 26, 3) := by decide +kernel
theorem dX11_weightOf_85 : decode cX11_weightOf 85 = .ok (.iload_n 1, 1) := by decide +kernel
theorem dX11_weightOf_86 : decode cX11_weightOf 86 = .ok (.iaload, 1) := by decide +kernel
theorem dX11_weightOf_87 : decode cX11_weightOf 87 = .ok (.istore 4, 2) := by decide +kernel
theorem dX11_weightOf_89 : decode cX11_weightOf 89 = .ok (.iload 4, 2) := by decide +kernel
theorem dX11_weightOf_91 : decode cX11_weightOf 91 = .ok (.aload_n 0, 1) := by decide +kernel
theorem dX11_weightOf_92 : decode cX11_weightOf 92 = .ok (.getfield 32, 3) := by decide +kernel
theorem dX11_weightOf_95 : decode cX11_weightOf 95 = .ok (.iload_n 1, 1) := by decide +kernel
theorem dX11_weightOf_96 : decode cX11_weightOf 96 = .ok (.iaload, 1) := by decide +kernel
theorem dX11_weightOf_97 : decode cX11_weightOf 97 = .ok (.if_icmp .ge 33, 3) := by decide +kernel
theorem dX11_weightOf_100 : decode cX11_weightOf 100 = .ok (.aload_n 0, 1) := by decide +kernel
theorem dX11_weightOf_101 : decode cX11_weightOf 101 = .ok (.aload_n 0, 1) := by decide +kernel
theorem dX11_weightOf_102 : decode cX11_weightOf 102 = .ok (.aload_n 0, 1) := by decide +kernel
theorem dX11_weightOf_103 : decode cX11_weightOf 103 = .ok (.aload_n 0, 1) := by decide +kernel
theorem dX11_weightOf_104 : decode cX11_weightOf 104 = .ok (.getfield 35, 3) := by decide +kernel
theorem dX11_weightOf_107 : decode cX11_weightOf 107 = .ok (.iload 4, 2) := by decide +kernel
theorem dX11_weightOf_109 : decode cX11_weightOf 109 = .ok (.iaload, 1) := by decide +kernel
theorem dX11_weightOf_110 : decode cX11_weightOf 110 = .ok (.invokevirtual 364, 3) := by decide +kernel
theorem dX11_weightOf_113 : decode cX11_weightOf 113 = .ok (.aload_n 0, 1) := by decide +kernel
theorem dX11_weightOf_114 : decode cX11_weightOf 114 = .ok (.iconst 2, 1) := by decide +kernel
theorem dX11_weightOf_115 : decode cX11_weightOf 115 = .ok (.invokevirtual 336, 3) := by decide +kernel
theorem dX11_weightOf_118 : decode cX11_weightOf 118 = .ok (.invokevirtual 191, 3) := by decide +kernel
theorem dX11_weightOf_121 : decode cX11_weightOf 121 = .ok (.invokevirtual 194, 3) := by decide +kernel
theorem dX11_weightOf_124 : decode cX11_weightOf 124 = .ok (.iinc 4 1, 3) := by decide +kernel
theorem dX11_weightOf_127 : decode cX11_weightOf 127 = .ok (.goto (-38), 3) := by decide +kernel
theorem dX11_weightOf_130 : decode cX11_weightOf 130 = .ok (.aload_n 0, 1) := by decide +kernel
theorem dX11_weightOf_131 : decode cX11_weightOf 131 = .ok (.getfield 175, 3) := by decide +kernel
theorem dX11_weightOf_134 : decode cX11_weightOf 134 = .ok (.istore 4, 2) := by decide +kernel
theorem dX11_weightOf_136 : decode cX11_weightOf 136 = .ok (.aload_n 0, 1) := by decide +kernel
theorem dX11_weightOf_137 : decode cX11_weightOf 137 = .ok (.iload_n 2, 1) := by decide +kernel
theorem dX11_weightOf_138 : decode cX11_weightOf 138 = .ok (.iload_n 3, 1) := by decide +kernel
theorem dX11_weightOf_139 : decode cX11_weightOf 139 = .ok (.invokevirtual 197, 3) := by decide +kernel
theorem dX11_weightOf_142 : decode cX11_weightOf 142 = .ok (.istore 5, 2) := by decide +kernel
theorem dX11_weightOf_144 : decode cX11_weightOf 144 = .ok (.aload_n 0, 1) := by decide +kernel
theorem dX11_weightOf_145 : decode cX11_weightOf 145 = .ok (.getfield 79, 3) := by decide +kernel
theorem dX11_weightOf_148 : decode cX11_weightOf 148 = .ok (.iload 5, 2) := by decide +kernel
theorem dX11_weightOf_150 : decode cX11_weightOf 150 = .ok (.iaload, 1) := by decide +kernel
theorem dX11_weightOf_151 : decode cX11_weightOf 151 = .ok (.sipush (-1000), 3) := by decide +kernel
theorem dX11_weightOf_154 : decode cX11_weightOf 154 = .ok (.if_icmp .eq 29, 3) := by decide +kernel
theorem dX11_weightOf_157 : decode cX11_weightOf 157 = .ok (.aload_n 0, 1) := by decide +kernel
theorem dX11_weightOf_158 : decode cX11_weightOf 158 = .ok (.iload 4, 2) := by decide +kernel
theorem dX11_weightOf_160 : decode cX11_weightOf 160 = .ok (.putfield 175, 3) := by decide +kernel
theorem dX11_weightOf_163 : decode cX11_weightOf 163 = .ok (.aload_n 0, 1) := by decide +kernel
theorem dX11_weightOf_164 : decode cX11_weightOf 164 = .ok (.aload_n 0, 1) := by decide +kernel
theorem dX11_weightOf_165 : decode cX11_weightOf 165 = .ok (.iload_n 1, 1) := by decide +kernel
theorem dX11_weightOf_166 : decode cX11_weightOf 166 = .ok (.iload_n 2, 1) := by decide +kernel
theorem dX11_weightOf_167 : decode cX11_weightOf 167 = .ok (.iload_n 3, 1) := by decide +kernel
theorem dX11_weightOf_168 : decode cX11_weightOf 168 = .ok (.iload 4, 2) := by decide +kernel
theorem dX11_weightOf_170 : decode cX11_weightOf 170 = .ok (.invokevirtual 367, 3) := by decide +kernel
theorem dX11_weightOf_173 : decode cX11_weightOf 173 = .ok (.invokevirtual 336, 3) := by decide +kernel
theorem dX11_weightOf_176 : decode cX11_weightOf 176 = .ok (.istore 5, 2) := by decide +kernel
theorem dX11_weightOf_178 : decode cX11_weightOf 178 = .ok (.aload_n 0, 1) := by decide +kernel
theorem dX11_weightOf_179 : decode cX11_weightOf 179 = .ok (.iload_n 2, 1) := by decide +kernel
theorem dX11_weightOf_180 : decode cX11_weightOf 180 = .ok (.putfield 175, 3) := by decide +kernel
theorem dX11_weightOf_183 : decode cX11_weightOf 183 = .ok (.aload_n 0, 1) := by decide +kernel
theorem dX11_weightOf_184 : decode cX11_weightOf 184 = .ok (.getfield 68, 3) := by decide +kernel
theorem dX11_weightOf_187 : decode cX11_weightOf 187 = .ok (.iload_n 1, 1) := by decide +kernel
theorem dX11_weightOf_188 : decode cX11_weightOf 188 = .ok (.iload 5, 2) := by decide +kernel
theorem dX11_weightOf_190 : decode cX11_weightOf 190 = .ok (.iconst 1, 1) := by decide +kernel
theorem dX11_weightOf_191 : decode cX11_weightOf 191 = .ok (.iadd, 1) := by decide +kernel
theorem dX11_weightOf_192 : decode cX11_weightOf 192 = .ok (.iastore, 1) := by decide +kernel
theorem dX11_weightOf_193 : decode cX11_weightOf 193 = .ok (.iload 5, 2) := by decide +kernel
theorem dX11_weightOf_195 : decode cX11_weightOf 195 = .ok (.ireturn, 1) := by decide +kernel
theorem dX11_whole_0 : decode cX11_whole 0 = .ok (.iload_n 1, 1) := by decide +kernel
theorem dX11_whole_1 : decode cX11_whole 1 = .ok (.invokestatic 324, 3) := by decide +kernel
theorem dX11_whole_4 : decode cX11_whole 4 = .ok (.ifCond .eq 14, 3) := by decide +kernel
theorem dX11_whole_7 : decode cX11_whole 7 = .ok (.iload_n 2, 1) := by decide +kernel
theorem dX11_whole_8 : decode cX11_whole 8 = .ok (.bipush (-9), 2) := by decide +kernel
theorem dX11_whole_10 : decode cX11_whole 10 = .ok (.bipush 9, 2) := by decide +kernel
theorem dX11_whole_12 : decode cX11_whole 12 = .ok (.invokestatic 106, 3) := by decide +kernel
theorem dX11_whole_15 : decode cX11_whole 15 = .ok (.ifCond .ne 9, 3) := by decide +kernel
theorem dX11_whole_18 : decode cX11_whole 18 = .ok (.aload_n 0, 1) := by decide +kernel
theorem dX11_whole_19 : decode cX11_whole 19 = .ok (.iconst 1, 1) := by decide +kernel
theorem dX11_whole_20 : decode cX11_whole 20 = .ok (.invokevirtual 300, 3) := by decide +kernel
theorem dX11_whole_23 : decode cX11_whole 23 = .ok (.ireturn, 1) := by decide +kernel
theorem dX11_whole_24 : decode cX11_whole 24 = .ok (.aload_n 0, 1) := by decide +kernel
theorem dX11_whole_25 : decode cX11_whole 25 = .ok (.invokevirtual 333, 3) := by decide +kernel
theorem dX11_whole_28 : decode cX11_whole 28 = .ok (.aload_n 0, 1) := by decide +kernel
theorem dX11_whole_29 : decode cX11_whole 29 = .ok (.iload_n 1, 1) := by decide +kernel
theorem dX11_whole_30 : decode cX11_whole 30 = .ok (.aload_n 0, 1) := by decide +kernel
theorem dX11_whole_31 : decode cX11_whole 31 = .ok (.iload_n 2, 1) := by decide +kernel
theorem dX11_whole_32 : decode cX11_whole 32 = .ok (.invokevirtual 336, 3) := by decide +kernel
theorem dX11_whole_35 : decode cX11_whole 35 = .ok (.invokevirtual 339, 3) := by decide +kernel
theorem dX11_whole_38 : decode cX11_whole 38 = .ok (.ireturn, 1) := by decide +kernel
theorem dX11_wholeAt_0 : decode cX11_wholeAt 0 = .ok (.aload_n 0, 1) := by decide +kernel
theorem dX11_wholeAt_1 : decode cX11_wholeAt 1 = .ok (.getfield 32, 3) := by decide +kernel
theorem dX11_wholeAt_4 : decode cX11_wholeAt 4 = .ok (.iload_n 1, 1) := by decide +kernel
theorem dX11_wholeAt_5 : decode cX11_wholeAt 5 = .ok (.iaload, 1) := by decide +kernel
theorem dX11_wholeAt_6 : decode cX11_wholeAt 6 = .ok (.aload_n 0, 1) := by decide +kernel
theorem dX11_wholeAt_7 : decode cX11_wholeAt 7 = .ok (.getfield 29, 3) := by decide +kernel
theorem dX11_wholeAt_10 : decode cX11_wholeAt 10 = .ok (.iload_n 1, 1) := by decide +kernel
theorem dX11_wholeAt_11 : decode cX11_wholeAt 11 = .ok (.iaload, 1) := by decide +kernel
theorem dX11_wholeAt_12 : decode cX11_wholeAt 12 = .ok (.isub, 1) := by decide +kernel
theorem dX11_wholeAt_13 : decode cX11_wholeAt 13 = .ok (.istore_n 2, 1) := by decide +kernel
theorem dX11_wholeAt_14 : decode cX11_wholeAt 14 = .ok (.iload_n 2, 1) := by decide +kernel
theorem dX11_wholeAt_15 : decode cX11_wholeAt 15 = .ok (.ifCond .ne 5, 3) := by decide +kernel
theorem dX11_wholeAt_18 : decode cX11_wholeAt 18 = .ok (.iconst 0, 1) := by decide +kernel
theorem dX11_wholeAt_19 : decode cX11_wholeAt 19 = .ok (.ireturn, 1) := by decide +kernel
theorem dX11_wholeAt_20 : decode cX11_wholeAt 20 = .ok (.iload_n 2, 1) := by decide +kernel
theorem dX11_wholeAt_21 : decode cX11_wholeAt 21 = .ok (.iconst 1, 1) := by decide +kernel
theorem dX11_wholeAt_22 : decode cX11_wholeAt 22 = .ok (.if_icmp .gt 25, 3) := by decide +kernel
theorem dX11_wholeAt_25 : decode cX11_wholeAt 25 = .ok (.aload_n 0, 1) := by decide +kernel
theorem dX11_wholeAt_26 : decode cX11_wholeAt 26 = .ok (.getfield 79, 3) := by decide +kernel
theorem dX11_wholeAt_29 : decode cX11_wholeAt 29 = .ok (.aload_n 0, 1) := by decide +kernel
theorem dX11_wholeAt_30 : decode cX11_wholeAt 30 = .ok (.getfield 35, 3) := by decide +kernel
theorem dX11_wholeAt_33 : decode cX11_wholeAt 33 = .ok (.aload_n 0, 1) := by decide +kernel
theorem dX11_wholeAt_34 : decode cX11_wholeAt 34 = .ok (.getfield 29, 3) := by decide +kernel
theorem dX11_wholeAt_37 : decode cX11_wholeAt 37 = .ok (.iload_n 1, 1) := by decide +kernel
theorem dX11_wholeAt_38 : decode cX11_wholeAt 38 = .ok (.iaload, 1) := by decide +kernel
theorem dX11_wholeAt_39 : decode cX11_wholeAt 39 = .ok (.iaload, 1) := by decide +kernel
theorem dX11_wholeAt_40 : decode cX11_wholeAt 40 = .ok (.iaload, 1) := by decide +kernel
theorem dX11_wholeAt_41 : decode cX11_wholeAt 41 = .ok (.sipush (-1000), 3) := by decide +kernel
theorem dX11_wholeAt_44 : decode cX11_wholeAt 44 = .ok (.if_icmp .ne 7, 3) := by decide +kernel
theorem dX11_wholeAt_47 : decode cX11_wholeAt 47 = .ok (.sipush (-1000), 3) := by decide +kernel
theorem dX11_wholeAt_50 : decode cX11_wholeAt 50 = .ok (.ireturn, 1) := by decide +kernel
theorem dX11_wholeAt_51 : decode cX11_wholeAt 51 = .ok (.aload_n 0, 1) := by decide +kernel
theorem dX11_wholeAt_52 : decode cX11_wholeAt 52 = .ok (.getfield 79, 3) := by decide +kernel
theorem dX11_wholeAt_55 : decode cX11_wholeAt 55 = .ok (.aload_n 0, 1) := by decide +kernel
theorem dX11_wholeAt_56 : decode cX11_wholeAt 56 = .ok (.getfield 35, 3) := by decide +kernel
theorem dX11_wholeAt_59 : decode cX11_wholeAt 59 = .ok (.aload_n 0, 1) := by decide +kernel
theorem dX11_wholeAt_60 : decode cX11_wholeAt 60 = .ok (.getfield 29, 3) := by decide +kernel
theorem dX11_wholeAt_63 : decode cX11_wholeAt 63 = .ok (.iload_n 1, 1) := by decide +kernel
theorem dX11_wholeAt_64 : decode cX11_wholeAt 64 = .ok (.iaload, 1) := by decide +kernel
theorem dX11_wholeAt_65 : decode cX11_wholeAt 65 = .ok (.iaload, 1) := by decide +kernel
theorem dX11_wholeAt_66 : decode cX11_wholeAt 66 = .ok (.iaload, 1) := by decide +kernel
theorem dX11_wholeAt_67 : decode cX11_wholeAt 67 = .ok (.istore_n 3, 1) := by decide +kernel
theorem dX11_wholeAt_68 : decode cX11_wholeAt 68 = .ok (.aload_n 0, 1) := by decide +kernel
theorem dX11_wholeAt_69 : decode cX11_wholeAt 69 = .ok (.getfield 26, 3) := by decide +kernel
theorem dX11_wholeAt_72 : decode cX11_wholeAt 72 = .ok (.iload_n 1, 1) := by decide +kernel
theorem dX11_wholeAt_73 : decode cX11_wholeAt 73 = .ok (.iaload, 1) := by decide +kernel
theorem dX11_wholeAt_74 : decode cX11_wholeAt 74 = .ok (.aload_n 0, 1) := by decide +kernel
theorem dX11_wholeAt_75 : decode cX11_wholeAt 75 = .ok (.getfield 29, 3) := by decide +kernel
theorem dX11_wholeAt_78 : decode cX11_wholeAt 78 = .ok (.iload_n 1, 1) := by decide +kernel
theorem dX11_wholeAt_79 : decode cX11_wholeAt 79 = .ok (.iaload, 1) := by decide +kernel
theorem dX11_wholeAt_80 : decode cX11_wholeAt 80 = .ok (.if_icmp .le 7, 3) := by decide +kernel
theorem dX11_wholeAt_83 : decode cX11_wholeAt 83 = .ok (.iconst 1, 1) := by decide +kernel
theorem dX11_wholeAt_84 : decode cX11_wholeAt 84 = .ok (.goto 4, 3) := by decide +kernel
theorem dX11_wholeAt_87 : decode cX11_wholeAt 87 = .ok (.iconst 0, 1) := by decide +kernel
theorem dX11_wholeAt_88 : decode cX11_wholeAt 88 = .ok (.istore 4, 2) := by decide +kernel
theorem dX11_wholeAt_90 : decode cX11_wholeAt 90 = .ok (.iload 4, 2) := by decide +kernel
theorem dX11_wholeAt_92 : decode cX11_wholeAt 92 = .ok (.ifCond .eq 13, 3) := by decide +kernel
theorem dX11_wholeAt_95 : decode cX11_wholeAt 95 = .ok (.iload_n 3, 1) := by decide +kernel
theorem dX11_wholeAt_96 : decode cX11_wholeAt 96 = .ok (.ifCond .lt 9, 3) := by decide +kernel
theorem dX11_wholeAt_99 : decode cX11_wholeAt 99 = .ok (.iload_n 3, 1) := by decide +kernel
theorem dX11_wholeAt_100 : decode cX11_wholeAt 100 = .ok (.iconst 1, 1) := by decide +kernel
theorem dX11_wholeAt_101 : decode cX11_wholeAt 101 = .ok (.iadd, 1) := by decide +kernel
theorem dX11_wholeAt_102 : decode cX11_wholeAt 102 = .ok (.goto 21, 3) := by decide +kernel
theorem dX11_wholeAt_105 : decode cX11_wholeAt 105 = .ok (.iload 4, 2) := by decide +kernel
theorem dX11_wholeAt_107 : decode cX11_wholeAt 107 = .ok (.ifCond .ne 13, 3) := by decide +kernel
theorem dX11_wholeAt_110 : decode cX11_wholeAt 110 = .ok (.iload_n 3, 1) := by decide +kernel
theorem dX11_wholeAt_111 : decode cX11_wholeAt 111 = .ok (.ifCond .gt 9, 3) := by decide +kernel
theorem dX11_wholeAt_114 : decode cX11_wholeAt 114 = .ok (.iload_n 3, 1) := by decide +kernel
theorem dX11_wholeAt_115 : decode cX11_wholeAt 115 = .ok (.iconst 1, 1) := by decide +kernel
theorem dX11_wholeAt_116 : decode cX11_wholeAt 116 = .ok (.isub, 1) := by decide +kernel
theorem dX11_wholeAt_117 : decode cX11_wholeAt 117 = .ok (.goto 6, 3) := by decide +kernel
theorem dX11_wholeAt_120 : decode cX11_wholeAt 120 = .ok (.sipush (-1000), 3) := by decide +kernel
theorem dX11_wholeAt_123 : decode cX11_wholeAt 123 = .ok (.ireturn, 1) := by decide +kernel
theorem dX11_wholeOf_0 : decode cX11_wholeOf 0 = .ok (.iconst 0, 1) := by decide +kernel
theorem dX11_wholeOf_1 : decode cX11_wholeOf 1 = .ok (.istore_n 2, 1) := by decide +kernel
theorem dX11_wholeOf_2 : decode cX11_wholeOf 2 = .ok (.iconst 0, 1) := by decide +kernel
theorem dX11_wholeOf_3 : decode cX11_wholeOf 3 = .ok (.istore_n 3, 1) := by decide +kernel
theorem dX11_wholeOf_4 : decode cX11_wholeOf 4 = .ok (.iload_n 3, 1) := by decide +kernel
theorem dX11_wholeOf_5 : decode cX11_wholeOf 5 = .ok (.iload_n 1, 1) := by decide +kernel
theorem dX11_wholeOf_6 : decode cX11_wholeOf 6 = .ok (.if_icmp .lt 9, 3) := by decide +kernel
theorem dX11_wholeOf_9 : decode cX11_wholeOf 9 = .ok (.iload_n 3, 1) := by decide +kernel
theorem dX11_wholeOf_10 : decode cX11_wholeOf 10 = .ok (.iload_n 1, 1) := by decide +kernel
theorem dX11_wholeOf_11 : decode cX11_wholeOf 11 = .ok (.ineg, 1) := by decide +kernel
theorem dX11_wholeOf_12 : decode cX11_wholeOf 12 = .ok (.if_icmp .ge 40, 3) := by decide +kernel
theorem dX11_wholeOf_15 : decode cX11_wholeOf 15 = .ok (.aload_n 0, 1) := by decide +kernel
theorem dX11_wholeOf_16 : decode cX11_wholeOf 16 = .ok (.getfield 175, 3) := by decide +kernel
theorem dX11_wholeOf_19 : decode cX11_wholeOf 19 = .ok (.istore 4, 2) := by decide +kernel
theorem dX11_wholeOf_21 : decode cX11_wholeOf 21 = .ok (.aload_n 0, 1) := by decide +kernel
theorem dX11_wholeOf_22 : decode cX11_wholeOf 22 = .ok (.iload_n 2, 1) := by decide +kernel
theorem dX11_wholeOf_23 : decode cX11_wholeOf 23 = .ok (.invokevirtual 194, 3) := by decide +kernel
theorem dX11_wholeOf_26 : decode cX11_wholeOf 26 = .ok (.aload_n 0, 1) := by decide +kernel
theorem dX11_wholeOf_27 : decode cX11_wholeOf 27 = .ok (.iload 4, 2) := by decide +kernel
theorem dX11_wholeOf_29 : decode cX11_wholeOf 29 = .ok (.iload_n 1, 1) := by decide +kernel
theorem dX11_wholeOf_30 : decode cX11_wholeOf 30 = .ok (.ifCond .le 10, 3) := by decide +kernel
theorem dX11_wholeOf_33 : decode cX11_wholeOf 33 = .ok (.iload 4, 2) := by decide +kernel
theorem dX11_wholeOf_35 : decode cX11_wholeOf 35 = .ok (.iconst 1, 1) := by decide +kernel
theorem dX11_wholeOf_36 : decode cX11_wholeOf 36 = .ok (.iadd, 1) := by decide +kernel
theorem dX11_wholeOf_37 : decode cX11_wholeOf 37 = .ok (.goto 5, 3) := by decide +kernel
theorem dX11_wholeOf_40 : decode cX11_wholeOf 40 = .ok (.iload 4, 2) := by decide +kernel
theorem dX11_wholeOf_42 : decode cX11_wholeOf 42 = .ok (.invokevirtual 197, 3) := by decide +kernel
theorem dX11_wholeOf_45 : decode cX11_wholeOf 45 = .ok (.istore_n 2, 1) := by decide +kernel
theorem dX11_wholeOf_46 : decode cX11_wholeOf 46 = .ok (.iinc 3 1, 3) := by decide +kernel
theorem dX11_wholeOf_49 : decode cX11_wholeOf 49 = .ok (.goto (-45), 3) := by decide +kernel
theorem dX11_wholeOf_52 : decode cX11_wholeOf 52 = .ok (.iload_n 2, 1) := by decide +kernel
theorem dX11_wholeOf_53 : decode cX11_wholeOf 53 = .ok (.ireturn, 1) := by decide +kernel
theorem dX11_wholeWeight_0 : decode cX11_wholeWeight 0 = .ok (.aload_n 0, 1) := by decide +kernel
theorem dX11_wholeWeight_1 : decode cX11_wholeWeight 1 = .ok (.iload_n 1, 1) := by decide +kernel
theorem dX11_wholeWeight_2 : decode cX11_wholeWeight 2 = .ok (.aload_n 0, 1) := by decide +kernel
theorem dX11_wholeWeight_3 : decode cX11_wholeWeight 3 = .ok (.bipush 10, 2) := by decide +kernel
theorem dX11_wholeWeight_5 : decode cX11_wholeWeight 5 = .ok (.invokevirtual 206, 3) := by decide +kernel
theorem dX11_wholeWeight_8 : decode cX11_wholeWeight 8 = .ok (.invokevirtual 330, 3) := by decide +kernel
theorem dX11_wholeWeight_11 : decode cX11_wholeWeight 11 = .ok (.istore 5, 2) := by decide +kernel
theorem dX11_wholeWeight_13 : decode cX11_wholeWeight 13 = .ok (.iconst 0, 1) := by decide +kernel
theorem dX11_wholeWeight_14 : decode cX11_wholeWeight 14 = .ok (.istore 6, 2) := by decide +kernel
theorem dX11_wholeWeight_16 : decode cX11_wholeWeight 16 = .ok (.iload 5, 2) := by decide +kernel
theorem dX11_wholeWeight_18 : decode cX11_wholeWeight 18 = .ok (.iconst 1, 1) := by decide +kernel
theorem dX11_wholeWeight_19 : decode cX11_wholeWeight 19 = .ok (.if_icmp .ne 36, 3) := by decide +kernel
theorem dX11_wholeWeight_22 : decode cX11_wholeWeight 22 = .ok (.bipush 40, 2) := by decide +kernel
theorem dX11_wholeWeight_24 : decode cX11_wholeWeight 24 = .ok (.istore 6, 2) := by decide +kernel
theorem dX11_wholeWeight_26 : decode cX11_wholeWeight 26 = .ok (.iload 6, 2) := by decide +kernel
theorem dX11_wholeWeight_28 : decode cX11_wholeWeight 28 = .ok (.bipush (-40), 2) := by decide +kernel
theorem dX11_wholeWeight_30 : decode cX11_wholeWeight 30 = .ok (.if_icmp .le 25, 3) := by decide +kernel
theorem dX11_wholeWeight_33 : decode cX11_wholeWeight 33 = .ok (.aload_n 0, 1) := by decide +kernel
theorem dX11_wholeWeight_34 : decode cX11_wholeWeight 34 = .ok (.iload_n 3, 1) := by decide +kernel
theorem dX11_wholeWeight_35 : decode cX11_wholeWeight 35 = .ok (.iload 4, 2) := by decide +kernel
theorem dX11_wholeWeight_37 : decode cX11_wholeWeight 37 = .ok (.aload_n 0, 1) := by decide +kernel
theorem dX11_wholeWeight_38 : decode cX11_wholeWeight 38 = .ok (.iload 6, 2) := by decide +kernel
theorem dX11_wholeWeight_40 : decode cX11_wholeWeight 40 = .ok (.invokevirtual 336, 3) := by decide +kernel
theorem dX11_wholeWeight_43 : decode cX11_wholeWeight 43 = .ok (.invokevirtual 358, 3) := by decide +kernel
theorem dX11_wholeWeight_46 : decode cX11_wholeWeight 46 = .ok (.ifCond .eq 9, 3) := by decide +kernel
theorem dX11_wholeWeight_49 : decode cX11_wholeWeight 49 = .ok (.iinc 6 (-1), 3) := by decide +kernel
theorem dX11_wholeWeight_52 : decode cX11_wholeWeight 52 = .ok (.goto (-26), 3) := by decide +kernel
theorem dX11_wholeWeight_55 : decode cX11_wholeWeight 55 = .ok (.iload 5, 2) := by decide +kernel
theorem dX11_wholeWeight_57 : decode cX11_wholeWeight 57 = .ok (.iconst (-1), 1) := by decide +kernel
theorem dX11_wholeWeight_58 : decode cX11_wholeWeight 58 = .ok (.if_icmp .ne 35, 3) := by decide +kernel
theorem dX11_wholeWeight_61 : decode cX11_wholeWeight 61 = .ok (.bipush (-40), 2) := by decide +kernel
theorem dX11_wholeWeight_63 : decode cX11_wholeWeight 63 = .ok (.istore 6, 2) := by decide +kernel
theorem dX11_wholeWeight_65 : decode cX11_wholeWeight 65 = .ok (.iload 6, 2) := by decide +kernel
theorem dX11_wholeWeight_67 : decode cX11_wholeWeight 67 = .ok (.bipush 40, 2) := by decide +kernel
theorem dX11_wholeWeight_69 : decode cX11_wholeWeight 69 = .ok (.if_icmp .ge 24, 3) := by decide +kernel
theorem dX11_wholeWeight_72 : decode cX11_wholeWeight 72 = .ok (.aload_n 0, 1) := by decide +kernel
theorem dX11_wholeWeight_73 : decode cX11_wholeWeight 73 = .ok (.iload_n 2, 1) := by decide +kernel
theorem dX11_wholeWeight_74 : decode cX11_wholeWeight 74 = .ok (.iload_n 3, 1) := by decide +kernel
theorem dX11_wholeWeight_75 : decode cX11_wholeWeight 75 = .ok (.aload_n 0, 1) := by decide +kernel
theorem dX11_wholeWeight_76 : decode cX11_wholeWeight 76 = .ok (.iload 6, 2) := by decide +kernel
theorem dX11_wholeWeight_78 : decode cX11_wholeWeight 78 = .ok (.invokevirtual 336, 3) := by decide +kernel
theorem dX11_wholeWeight_81 : decode cX11_wholeWeight 81 = .ok (.invokevirtual 361, 3) := by decide +kernel
theorem dX11_wholeWeight_84 : decode cX11_wholeWeight 84 = .ok (.ifCond .eq 9, 3) := by decide +kernel
theorem dX11_wholeWeight_87 : decode cX11_wholeWeight 87 = .ok (.iinc 6 1, 3) := by decide +kernel
theorem dX11_wholeWeight_90 : decode cX11_wholeWeight 90 = .ok (.goto (-25), 3) := by decide +kernel
theorem dX11_wholeWeight_93 : decode cX11_wholeWeight 93 = .ok (.iload 6, 2) := by decide +kernel
theorem dX11_wholeWeight_95 : decode cX11_wholeWeight 95 = .ok (.ireturn, 1) := by decide +kernel
theorem dX11_width_0 : decode cX11_width 0 = .ok (.aload_n 0, 1) := by decide +kernel
theorem dX11_width_1 : decode cX11_width 1 = .ok (.dup, 1) := by decide +kernel
theorem dX11_width_2 : decode cX11_width 2 = .ok (.getfield 212, 3) := by decide +kernel
theorem dX11_width_5 : decode cX11_width 5 = .ok (.iconst 1, 1) := by decide +kernel
theorem dX11_width_6 : decode cX11_width 6 = .ok (.iadd, 1) := by decide +kernel
theorem dX11_width_7 : decode cX11_width 7 = .ok (.putfield 212, 3) := by decide +kernel
theorem dX11_width_10 : decode cX11_width 10 = .ok (.aload_n 0, 1) := by decide +kernel
theorem dX11_width_11 : decode cX11_width 11 = .ok (.iload_n 1, 1) := by decide +kernel
theorem dX11_width_12 : decode cX11_width 12 = .ok (.invokevirtual 215, 3) := by decide +kernel
theorem dX11_width_15 : decode cX11_width 15 = .ok (.ireturn, 1) := by decide +kernel
theorem dX11_wins_0 : decode cX11_wins 0 = .ok (.iload_n 2, 1) := by decide +kernel
theorem dX11_wins_1 : decode cX11_wins 1 = .ok (.ifCond .ne 20, 3) := by decide +kernel
theorem dX11_wins_4 : decode cX11_wins 4 = .ok (.aload_n 0, 1) := by decide +kernel
theorem dX11_wins_5 : decode cX11_wins 5 = .ok (.iload_n 1, 1) := by decide +kernel
theorem dX11_wins_6 : decode cX11_wins 6 = .ok (.iconst 0, 1) := by decide +kernel
theorem dX11_wins_7 : decode cX11_wins 7 = .ok (.invokevirtual 114, 3) := by decide +kernel
theorem dX11_wins_10 : decode cX11_wins 10 = .ok (.ifCond .ne 7, 3) := by decide +kernel
theorem dX11_wins_13 : decode cX11_wins 13 = .ok (.iconst 1, 1) := by decide +kernel
theorem dX11_wins_14 : decode cX11_wins 14 = .ok (.goto 21, 3) := by decide +kernel
theorem dX11_wins_17 : decode cX11_wins 17 = .ok (.iconst 0, 1) := by decide +kernel
theorem dX11_wins_18 : decode cX11_wins 18 = .ok (.goto 17, 3) := by decide +kernel
theorem dX11_wins_21 : decode cX11_wins 21 = .ok (.aload_n 0, 1) := by decide +kernel
theorem dX11_wins_22 : decode cX11_wins 22 = .ok (.iconst 0, 1) := by decide +kernel
theorem dX11_wins_23 : decode cX11_wins 23 = .ok (.iload_n 1, 1) := by decide +kernel
theorem dX11_wins_24 : decode cX11_wins 24 = .ok (.invokevirtual 114, 3) := by decide +kernel
theorem dX11_wins_27 : decode cX11_wins 27 = .ok (.ifCond .ne 7, 3) := by decide +kernel
theorem dX11_wins_30 : decode cX11_wins 30 = .ok (.iconst 1, 1) := by decide +kernel
theorem dX11_wins_31 : decode cX11_wins 31 = .ok (.goto 4, 3) := by decide +kernel
theorem dX11_wins_34 : decode cX11_wins 34 = .ok (.iconst 0, 1) := by decide +kernel
theorem dX11_wins_35 : decode cX11_wins 35 = .ok (.ireturn, 1) := by decide +kernel
theorem dX11_word_0 : decode cX11_word 0 = .ok (.iload_n 1, 1) := by decide +kernel
theorem dX11_word_1 : decode cX11_word 1 = .ok (.invokestatic 324, 3) := by decide +kernel
theorem dX11_word_4 : decode cX11_word 4 = .ok (.ifCond .ne 9, 3) := by decide +kernel
theorem dX11_word_7 : decode cX11_word 7 = .ok (.aload_n 0, 1) := by decide +kernel
theorem dX11_word_8 : decode cX11_word 8 = .ok (.iconst 1, 1) := by decide +kernel
theorem dX11_word_9 : decode cX11_word 9 = .ok (.invokevirtual 300, 3) := by decide +kernel
theorem dX11_word_12 : decode cX11_word 12 = .ok (.ireturn, 1) := by decide +kernel
theorem dX11_word_13 : decode cX11_word 13 = .ok (.iload_n 2, 1) := by decide +kernel
theorem dX11_word_14 : decode cX11_word 14 = .ok (.iconst 0, 1) := by decide +kernel
theorem dX11_word_15 : decode cX11_word 15 = .ok (.aload_n 0, 1) := by decide +kernel
theorem dX11_word_16 : decode cX11_word 16 = .ok (.getfield 97, 3) := by decide +kernel
theorem dX11_word_19 : decode cX11_word 19 = .ok (.aload_n 0, 1) := by decide +kernel
theorem dX11_word_20 : decode cX11_word 20 = .ok (.getfield 264, 3) := by decide +kernel
theorem dX11_word_23 : decode cX11_word 23 = .ok (.iload_n 1, 1) := by decide +kernel
theorem dX11_word_24 : decode cX11_word 24 = .ok (.iaload, 1) := by decide +kernel
theorem dX11_word_25 : decode cX11_word 25 = .ok (.iaload, 1) := by decide +kernel
theorem dX11_word_26 : decode cX11_word 26 = .ok (.iconst 1, 1) := by decide +kernel
theorem dX11_word_27 : decode cX11_word 27 = .ok (.isub, 1) := by decide +kernel
theorem dX11_word_28 : decode cX11_word 28 = .ok (.invokestatic 106, 3) := by decide +kernel
theorem dX11_word_31 : decode cX11_word 31 = .ok (.ifCond .ne 9, 3) := by decide +kernel
theorem dX11_word_34 : decode cX11_word 34 = .ok (.aload_n 0, 1) := by decide +kernel
theorem dX11_word_35 : decode cX11_word 35 = .ok (.iconst 2, 1) := by decide +kernel
theorem dX11_word_36 : decode cX11_word 36 = .ok (.invokevirtual 300, 3) := by decide +kernel
theorem dX11_word_39 : decode cX11_word 39 = .ok (.ireturn, 1) := by decide +kernel
theorem dX11_word_40 : decode cX11_word 40 = .ok (.aload_n 0, 1) := by decide +kernel
theorem dX11_word_41 : decode cX11_word 41 = .ok (.aload_n 0, 1) := by decide +kernel
theorem dX11_word_42 : decode cX11_word 42 = .ok (.getfield 264, 3) := by decide +kernel
theorem dX11_word_45 : decode cX11_word 45 = .ok (.iload_n 1, 1) := by decide +kernel
theorem dX11_word_46 : decode cX11_word 46 = .ok (.iaload, 1) := by decide +kernel
theorem dX11_word_47 : decode cX11_word 47 = .ok (.invokevirtual 249, 3) := by decide +kernel
theorem dX11_word_50 : decode cX11_word 50 = .ok (.aload_n 0, 1) := by decide +kernel
theorem dX11_word_51 : decode cX11_word 51 = .ok (.aload_n 0, 1) := by decide +kernel
theorem dX11_word_52 : decode cX11_word 52 = .ok (.getfield 264, 3) := by decide +kernel
theorem dX11_word_55 : decode cX11_word 55 = .ok (.iload_n 1, 1) := by decide +kernel
theorem dX11_word_56 : decode cX11_word 56 = .ok (.iaload, 1) := by decide +kernel
theorem dX11_word_57 : decode cX11_word 57 = .ok (.invokevirtual 240, 3) := by decide +kernel
theorem dX11_word_60 : decode cX11_word 60 = .ok (.aload_n 0, 1) := by decide +kernel
theorem dX11_word_61 : decode cX11_word 61 = .ok (.getfield 221, 3) := by decide +kernel
theorem dX11_word_64 : decode cX11_word 64 = .ok (.iload_n 2, 1) := by decide +kernel
theorem dX11_word_65 : decode cX11_word 65 = .ok (.iaload, 1) := by decide +kernel
theorem dX11_word_66 : decode cX11_word 66 = .ok (.ireturn, 1) := by decide +kernel
theorem dX11_writes_0 : decode cX11_writes 0 = .ok (.aload_n 0, 1) := by decide +kernel
theorem dX11_writes_1 : decode cX11_writes 1 = .ok (.getfield 221, 3) := by decide +kernel
theorem dX11_writes_4 : decode cX11_writes 4 = .ok (.aload_n 0, 1) := by decide +kernel
theorem dX11_writes_5 : decode cX11_writes 5 = .ok (.getfield 224, 3) := by decide +kernel
theorem dX11_writes_8 : decode cX11_writes 8 = .ok (.iload_n 1, 1) := by decide +kernel
theorem dX11_writes_9 : decode cX11_writes 9 = .ok (.iastore, 1) := by decide +kernel
theorem dX11_writes_10 : decode cX11_writes 10 = .ok (.aload_n 0, 1) := by decide +kernel
theorem dX11_writes_11 : decode cX11_writes 11 = .ok (.dup, 1) := by decide +kernel
theorem dX11_writes_12 : decode cX11_writes 12 = .ok (.getfield 224, 3) := by decide +kernel
theorem dX11_writes_15 : decode cX11_writes 15 = .ok (.iconst 1, 1) := by decide +kernel
theorem dX11_writes_16 : decode cX11_writes 16 = .ok (.iadd, 1) := by decide +kernel
theorem dX11_writes_17 : decode cX11_writes 17 = .ok (.putfield 224, 3) := by decide +kernel
theorem dX11_writes_20 : decode cX11_writes 20 = .ok (.return_, 1) := by decide +kernel
theorem dX11_writesGame_0 : decode cX11_writesGame 0 = .ok (.aload_n 0, 1) := by decide +kernel
theorem dX11_writesGame_1 : decode cX11_writesGame 1 = .ok (.getfield 79, 3) := by decide +kernel
theorem dX11_writesGame_4 : decode cX11_writesGame 4 = .ok (.iload_n 1, 1) := by decide +kernel
theorem dX11_writesGame_5 : decode cX11_writesGame 5 = .ok (.iaload, 1) := by decide +kernel
theorem dX11_writesGame_6 : decode cX11_writesGame 6 = .ok (.sipush (-1000), 3) := by decide +kernel
theorem dX11_writesGame_9 : decode cX11_writesGame 9 = .ok (.if_icmp .eq 50, 3) := by decide +kernel
theorem dX11_writesGame_12 : decode cX11_writesGame 12 = .ok (.aload_n 0, 1) := by decide +kernel
theorem dX11_writesGame_13 : decode cX11_writesGame 13 = .ok (.getfield 79, 3) := by decide +kernel
theorem dX11_writesGame_16 : decode cX11_writesGame 16 = .ok (.iload_n 1, 1) := by decide +kernel
theorem dX11_writesGame_17 : decode cX11_writesGame 17 = .ok (.iaload, 1) := by decide +kernel
theorem dX11_writesGame_18 : decode cX11_writesGame 18 = .ok (.ifCond .ge 9, 3) := by decide +kernel
theorem dX11_writesGame_21 : decode cX11_writesGame 21 = .ok (.aload_n 0, 1) := by decide +kernel
theorem dX11_writesGame_22 : decode cX11_writesGame 22 = .ok (.bipush 45, 2) := by decide +kernel
theorem dX11_writesGame_24 : decode cX11_writesGame 24 = .ok (.invokevirtual 227, 3) := by decide +kernel
theorem dX11_writesGame_27 : decode cX11_writesGame 27 = .ok (.aload_n 0, 1) := by decide +kernel
theorem dX11_writesGame_28 : decode cX11_writesGame 28 = .ok (.aload_n 0, 1) := by decide +kernel
theorem dX11_writesGame_29 : decode cX11_writesGame 29 = .ok (.getfield 79, 3) := by decide +kernel
theorem dX11_writesGame_32 : decode cX11_writesGame 32 = .ok (.iload_n 1, 1) := by decide +kernel
theorem dX11_writesGame_33 : decode cX11_writesGame 33 = .ok (.iaload, 1) := by decide +kernel
theorem dX11_writesGame_34 : decode cX11_writesGame 34 = .ok (.ifCond .ge 13, 3) := by decide +kernel
theorem dX11_writesGame_37 : decode cX11_writesGame 37 = .ok (.aload_n 0, 1) := by decide +kernel
theorem dX11_writesGame_38 : decode cX11_writesGame 38 = .ok (.getfield 79, 3) := by decide +kernel
theorem dX11_writesGame_41 : decode cX11_writesGame 41 = .ok (.iload_n 1, 1) := by decide +kernel
theorem dX11_writesGame_42 : decode cX11_writesGame 42 = .ok (.iaload, 1) := by decide +kernel
theorem dX11_writesGame_43 : decode cX11_writesGame 43 = .ok (.ineg, 1) := by decide +kernel
theorem dX11_writesGame_44 : decode cX11_writesGame 44 = .ok (.goto 9, 3) := by decide +kernel
theorem dX11_writesGame_47 : decode cX11_writesGame 47 = .ok (.aload_n 0, 1) := by decide +kernel
theorem dX11_writesGame_48 : decode cX11_writesGame 48 = .ok (.getfield 79, 3) := by decide +kernel
theorem dX11_writesGame_51 : decode cX11_writesGame 51 = .ok (.iload_n 1, 1) := by decide +kernel
theorem dX11_writesGame_52 : decode cX11_writesGame 52 = .ok (.iaload, 1) := by decide +kernel
theorem dX11_writesGame_53 : decode cX11_writesGame 53 = .ok (.invokevirtual 233, 3) := by decide +kernel
theorem dX11_writesGame_56 : decode cX11_writesGame 56 = .ok (.goto 91, 3) := by decide +kernel
theorem dX11_writesGame_59 : decode cX11_writesGame 59 = .ok (.aload_n 0, 1) := by decide +kernel
theorem dX11_writesGame_60 : decode cX11_writesGame 60 = .ok (.getfield 85, 3) := by decide +kernel
theorem dX11_writesGame_63 : decode cX11_writesGame 63 = .ok (.iload_n 1, 1) := by decide +kernel
theorem dX11_writesGame_64 : decode cX11_writesGame 64 = .ok (.iaload, 1) := by decide +kernel
theorem dX11_writesGame_65 : decode cX11_writesGame 65 = .ok (.ifCond .le 32, 3) := by decide +kernel
theorem dX11_writesGame_68 : decode cX11_writesGame 68 = .ok (.aload_n 0, 1) := by decide +kernel
theorem dX11_writesGame_69 : decode cX11_writesGame 69 = .ok (.bipush 42, 2) := by decide +kernel
theorem dX11_writesGame_71 : decode cX11_writesGame 71 = .ok (.invokevirtual 227, 3) := by decide +kernel
theorem dX11_writesGame_74 : decode cX11_writesGame 74 = .ok (.aload_n 0, 1) := by decide +kernel
theorem dX11_writesGame_75 : decode cX11_writesGame 75 = .ok (.getfield 85, 3) := by decide +kernel
theorem dX11_writesGame_78 : decode cX11_writesGame 78 = .ok (.iload_n 1, 1) := by decide +kernel
theorem dX11_writesGame_79 : decode cX11_writesGame 79 = .ok (.iaload, 1) := by decide +kernel
theorem dX11_writesGame_80 : decode cX11_writesGame 80 = .ok (.iconst 1, 1) := by decide +kernel
theorem dX11_writesGame_81 : decode cX11_writesGame 81 = .ok (.if_icmp .le 66, 3) := by decide +kernel
theorem dX11_writesGame_84 : decode cX11_writesGame 84 = .ok (.aload_n 0, 1) := by decide +kernel
theorem dX11_writesGame_85 : decode cX11_writesGame 85 = .ok (.aload_n 0, 1) := by decide +kernel
theorem dX11_writesGame_86 : decode cX11_writesGame 86 = .ok (.getfield 85, 3) := by decide +kernel
theorem dX11_writesGame_89 : decode cX11_writesGame 89 = .ok (.iload_n 1, 1) := by decide +kernel
theorem dX11_writesGame_90 : decode cX11_writesGame 90 = .ok (.iaload, 1) := by decide +kernel
theorem dX11_writesGame_91 : decode cX11_writesGame 91 = .ok (.invokevirtual 233, 3) := by decide +kernel
theorem dX11_writesGame_94 : decode cX11_writesGame 94 = .ok (.goto 53, 3) := by decide +kernel
theorem dX11_writesGame_97 : decode cX11_writesGame 97 = .ok (.aload_n 0, 1) := by decide +kernel
theorem dX11_writesGame_98 : decode cX11_writesGame 98 = .ok (.bipush 123, 2) := by decide +kernel
theorem dX11_writesGame_100 : decode cX11_writesGame 100 = .ok (.invokevirtual 227, 3) := by decide +kernel
theorem dX11_writesGame_103 : decode cX11_writesGame 103 = .ok (.aload_n 0, 1) := by decide +kernel
theorem dX11_writesGame_104 : decode cX11_writesGame 104 = .ok (.aload_n 0, 1) := by decide +kernel
theorem dX11_writesGame_105 : decode cX11_writesGame 105 = .ok (.getfield 29, 3) := by decide +kernel
theorem dX11_writesGame_108 : decode cX11_writesGame 108 = .ok (.iload_n 1, 1) := by decide +kernel
theorem dX11_writesGame_109 : decode cX11_writesGame 109 = .ok (.iaload, 1) := by decide +kernel
theorem dX11_writesGame_110 : decode cX11_writesGame 110 = .ok (.aload_n 0, 1) := by decide +kernel
theorem dX11_writesGame_111 : decode cX11_writesGame 111 = .ok (.getfield 26, 3) := by decide +kernel
theorem dX11_writesGame_114 : decode cX11_writesGame 114 = .ok (.iload_n 1, 1) := by decide +kernel
theorem dX11_writesGame_115 : decode cX11_writesGame 115 = .ok (.iaload, 1) := by decide +kernel
theorem dX11_writesGame_116 : decode cX11_writesGame 116 = .ok (.invokevirtual 236, 3) := by decide +kernel
theorem dX11_writesGame_119 : decode cX11_writesGame 119 = .ok (.aload_n 0, 1) := by decide +kernel
theorem dX11_writesGame_120 : decode cX11_writesGame 120 = .ok (.bipush 124, 2) := by decide +kernel
theorem dX11_writesGame_122 : decode cX11_writesGame 122 = .ok (.invokevirtual 227, 3) := by decide +kernel
theorem dX11_writesGame_125 : decode cX11_writesGame 125 = .ok (.aload_n 0, 1) := by decide +kernel
theorem dX11_writesGame_126 : decode cX11_writesGame 126 = .ok (.aload_n 0, 1) := by decide +kernel
theorem dX11_writesGame_127 : decode cX11_writesGame 127 = .ok (.getfield 26, 3) := by decide +kernel
theorem dX11_writesGame_130 : decode cX11_writesGame 130 = .ok (.iload_n 1, 1) := by decide +kernel
theorem dX11_writesGame_131 : decode cX11_writesGame 131 = .ok (.iaload, 1) := by decide +kernel
theorem dX11_writesGame_132 : decode cX11_writesGame 132 = .ok (.aload_n 0, 1) := by decide +kernel
theorem dX11_writesGame_133 : decode cX11_writesGame 133 = .ok (.getfield 32, 3) := by decide +kernel
theorem dX11_writesGame_136 : decode cX11_writesGame 136 = .ok (.iload_n 1, 1) := by decide +kernel
theorem dX11_writesGame_137 : decode cX11_writesGame 137 = .ok (.iaload, 1) := by decide +kernel
theorem dX11_writesGame_138 : decode cX11_writesGame 138 = .ok (.invokevirtual 236, 3) := by decide +kernel
theorem dX11_writesGame_141 : decode cX11_writesGame 141 = .ok (.aload_n 0, 1) := by decide +kernel
theorem dX11_writesGame_142 : decode cX11_writesGame 142 = .ok (.bipush 125, 2) := by decide +kernel
theorem dX11_writesGame_144 : decode cX11_writesGame 144 = .ok (.invokevirtual 227, 3) := by decide +kernel
theorem dX11_writesGame_147 : decode cX11_writesGame 147 = .ok (.return_, 1) := by decide +kernel
theorem dX11_writesNumber_0 : decode cX11_writesNumber 0 = .ok (.iload_n 1, 1) := by decide +kernel
theorem dX11_writesNumber_1 : decode cX11_writesNumber 1 = .ok (.bipush 9, 2) := by decide +kernel
theorem dX11_writesNumber_3 : decode cX11_writesNumber 3 = .ok (.if_icmp .le 14, 3) := by decide +kernel
theorem dX11_writesNumber_6 : decode cX11_writesNumber 6 = .ok (.aload_n 0, 1) := by decide +kernel
theorem dX11_writesNumber_7 : decode cX11_writesNumber 7 = .ok (.bipush 48, 2) := by decide +kernel
theorem dX11_writesNumber_9 : decode cX11_writesNumber 9 = .ok (.iload_n 1, 1) := by decide +kernel
theorem dX11_writesNumber_10 : decode cX11_writesNumber 10 = .ok (.bipush 10, 2) := by decide +kernel
theorem dX11_writesNumber_12 : decode cX11_writesNumber 12 = .ok (.idiv, 1) := by decide +kernel
theorem dX11_writesNumber_13 : decode cX11_writesNumber 13 = .ok (.iadd, 1) := by decide +kernel
theorem dX11_writesNumber_14 : decode cX11_writesNumber 14 = .ok (.invokevirtual 227, 3) := by decide +kernel
theorem dX11_writesNumber_17 : decode cX11_writesNumber 17 = .ok (.aload_n 0, 1) := by decide +kernel
theorem dX11_writesNumber_18 : decode cX11_writesNumber 18 = .ok (.bipush 48, 2) := by decide +kernel
theorem dX11_writesNumber_20 : decode cX11_writesNumber 20 = .ok (.iload_n 1, 1) := by decide +kernel
theorem dX11_writesNumber_21 : decode cX11_writesNumber 21 = .ok (.bipush 10, 2) := by decide +kernel
theorem dX11_writesNumber_23 : decode cX11_writesNumber 23 = .ok (.irem, 1) := by decide +kernel
theorem dX11_writesNumber_24 : decode cX11_writesNumber 24 = .ok (.iadd, 1) := by decide +kernel
theorem dX11_writesNumber_25 : decode cX11_writesNumber 25 = .ok (.invokevirtual 227, 3) := by decide +kernel
theorem dX11_writesNumber_28 : decode cX11_writesNumber 28 = .ok (.return_, 1) := by decide +kernel
theorem dX11_writesOptions_0 : decode cX11_writesOptions 0 = .ok (.iload_n 1, 1) := by decide +kernel
theorem dX11_writesOptions_1 : decode cX11_writesOptions 1 = .ok (.istore_n 3, 1) := by decide +kernel
theorem dX11_writesOptions_2 : decode cX11_writesOptions 2 = .ok (.iload_n 3, 1) := by decide +kernel
theorem dX11_writesOptions_3 : decode cX11_writesOptions 3 = .ok (.iload_n 2, 1) := by decide +kernel
theorem dX11_writesOptions_4 : decode cX11_writesOptions 4 = .ok (.if_icmp .ge 30, 3) := by decide +kernel
theorem dX11_writesOptions_7 : decode cX11_writesOptions 7 = .ok (.iload_n 3, 1) := by decide +kernel
theorem dX11_writesOptions_8 : decode cX11_writesOptions 8 = .ok (.iload_n 1, 1) := by decide +kernel
theorem dX11_writesOptions_9 : decode cX11_writesOptions 9 = .ok (.if_icmp .le 9, 3) := by decide +kernel
theorem dX11_writesOptions_12 : decode cX11_writesOptions 12 = .ok (.aload_n 0, 1) := by decide +kernel
theorem dX11_writesOptions_13 : decode cX11_writesOptions 13 = .ok (.bipush 44, 2) := by decide +kernel
theorem dX11_writesOptions_15 : decode cX11_writesOptions 15 = .ok (.invokevirtual 227, 3) := by decide +kernel
theorem dX11_writesOptions_18 : decode cX11_writesOptions 18 = .ok (.aload_n 0, 1) := by decide +kernel
theorem dX11_writesOptions_19 : decode cX11_writesOptions 19 = .ok (.aload_n 0, 1) := by decide +kernel
theorem dX11_writesOptions_20 : decode cX11_writesOptions 20 = .ok (.getfield 35, 3) := by decide +kernel
theorem dX11_writesOptions_23 : decode cX11_writesOptions 23 = .ok (.iload_n 3, 1) := by decide +kernel
theorem dX11_writesOptions_24 : decode cX11_writesOptions 24 = .ok (.iaload, 1) := by decide +kernel
theorem dX11_writesOptions_25 : decode cX11_writesOptions 25 = .ok (.invokevirtual 230, 3) := by decide +kernel
theorem dX11_writesOptions_28 : decode cX11_writesOptions 28 = .ok (.iinc 3 1, 3) := by decide +kernel
theorem dX11_writesOptions_31 : decode cX11_writesOptions 31 = .ok (.goto (-29), 3) := by decide +kernel
theorem dX11_writesOptions_34 : decode cX11_writesOptions 34 = .ok (.return_, 1) := by decide +kernel
theorem dX11_wrongCell_0 : decode cX11_wrongCell 0 = .ok (.iload_n 1, 1) := by decide +kernel
theorem dX11_wrongCell_1 : decode cX11_wrongCell 1 = .ok (.invokestatic 383, 3) := by decide +kernel
theorem dX11_wrongCell_4 : decode cX11_wrongCell 4 = .ok (.ifCond .ne 7, 3) := by decide +kernel
theorem dX11_wrongCell_7 : decode cX11_wrongCell 7 = .ok (.iconst 1, 1) := by decide +kernel
theorem dX11_wrongCell_8 : decode cX11_wrongCell 8 = .ok (.goto 38, 3) := by decide +kernel
theorem dX11_wrongCell_11 : decode cX11_wrongCell 11 = .ok (.aload_n 0, 1) := by decide +kernel
theorem dX11_wrongCell_12 : decode cX11_wrongCell 12 = .ok (.getfield 288, 3) := by decide +kernel
theorem dX11_wrongCell_15 : decode cX11_wrongCell 15 = .ok (.iload_n 1, 1) := by decide +kernel
theorem dX11_wrongCell_16 : decode cX11_wrongCell 16 = .ok (.iaload, 1) := by decide +kernel
theorem dX11_wrongCell_17 : decode cX11_wrongCell 17 = .ok (.ifCond .ne 8, 3) := by decide +kernel
theorem dX11_wrongCell_20 : decode cX11_wrongCell 20 = .ok (.bipush 6, 2) := by decide +kernel
theorem dX11_wrongCell_22 : decode cX11_wrongCell 22 = .ok (.goto 24, 3) := by decide +kernel
theorem dX11_wrongCell_25 : decode cX11_wrongCell 25 = .ok (.iload_n 2, 1) := by decide +kernel
theorem dX11_wrongCell_26 : decode cX11_wrongCell 26 = .ok (.iconst 0, 1) := by decide +kernel
theorem dX11_wrongCell_27 : decode cX11_wrongCell 27 = .ok (.aload_n 0, 1) := by decide +kernel
theorem dX11_wrongCell_28 : decode cX11_wrongCell 28 = .ok (.getfield 291, 3) := by decide +kernel
theorem dX11_wrongCell_31 : decode cX11_wrongCell 31 = .ok (.iload_n 1, 1) := by decide +kernel
theorem dX11_wrongCell_32 : decode cX11_wrongCell 32 = .ok (.iaload, 1) := by decide +kernel
theorem dX11_wrongCell_33 : decode cX11_wrongCell 33 = .ok (.iconst 1, 1) := by decide +kernel
theorem dX11_wrongCell_34 : decode cX11_wrongCell 34 = .ok (.isub, 1) := by decide +kernel
theorem dX11_wrongCell_35 : decode cX11_wrongCell 35 = .ok (.invokestatic 106, 3) := by decide +kernel
theorem dX11_wrongCell_38 : decode cX11_wrongCell 38 = .ok (.ifCond .eq 7, 3) := by decide +kernel
theorem dX11_wrongCell_41 : decode cX11_wrongCell 41 = .ok (.iconst 0, 1) := by decide +kernel
theorem dX11_wrongCell_42 : decode cX11_wrongCell 42 = .ok (.goto 4, 3) := by decide +kernel
theorem dX11_wrongCell_45 : decode cX11_wrongCell 45 = .ok (.iconst 1, 1) := by decide +kernel
theorem dX11_wrongCell_46 : decode cX11_wrongCell 46 = .ok (.ireturn, 1) := by decide +kernel
theorem dX11_wrongSmall_0 : decode cX11_wrongSmall 0 = .ok (.iload_n 1, 1) := by decide +kernel
theorem dX11_wrongSmall_1 : decode cX11_wrongSmall 1 = .ok (.invokestatic 324, 3) := by decide +kernel
theorem dX11_wrongSmall_4 : decode cX11_wrongSmall 4 = .ok (.ifCond .ne 7, 3) := by decide +kernel
theorem dX11_wrongSmall_7 : decode cX11_wrongSmall 7 = .ok (.iconst 1, 1) := by decide +kernel
theorem dX11_wrongSmall_8 : decode cX11_wrongSmall 8 = .ok (.goto 22, 3) := by decide +kernel
theorem dX11_wrongSmall_11 : decode cX11_wrongSmall 11 = .ok (.aload_n 0, 1) := by decide +kernel
theorem dX11_wrongSmall_12 : decode cX11_wrongSmall 12 = .ok (.getfield 91, 3) := by decide +kernel
theorem dX11_wrongSmall_15 : decode cX11_wrongSmall 15 = .ok (.aload_n 0, 1) := by decide +kernel
theorem dX11_wrongSmall_16 : decode cX11_wrongSmall 16 = .ok (.getfield 264, 3) := by decide +kernel
theorem dX11_wrongSmall_19 : decode cX11_wrongSmall 19 = .ok (.iload_n 1, 1) := by decide +kernel
theorem dX11_wrongSmall_20 : decode cX11_wrongSmall 20 = .ok (.iaload, 1) := by decide +kernel
theorem dX11_wrongSmall_21 : decode cX11_wrongSmall 21 = .ok (.baload, 1) := by decide +kernel
theorem dX11_wrongSmall_22 : decode cX11_wrongSmall 22 = .ok (.ifCond .eq 7, 3) := by decide +kernel
theorem dX11_wrongSmall_25 : decode cX11_wrongSmall 25 = .ok (.iconst 0, 1) := by decide +kernel
theorem dX11_wrongSmall_26 : decode cX11_wrongSmall 26 = .ok (.goto 4, 3) := by decide +kernel
theorem dX11_wrongSmall_29 : decode cX11_wrongSmall 29 = .ok (.iconst 3, 1) := by decide +kernel
theorem dX11_wrongSmall_30 : decode cX11_wrongSmall 30 = .ok (.ireturn, 1) := by decide +kernel
