theorem dX7_giveLabels_153 : decode cX7_giveLabels 153 = .ok (.iload 6, 2) := by decide +kernel
theorem dX7_giveLabels_155 : decode cX7_giveLabels 155 = .ok (.aload_n 0, 1) := by decide +kernel
theorem dX7_giveLabels_156 : decode cX7_giveLabels 156 = .ok (.getfield 57, 3) := by decide +kernel
theorem dX7_giveLabels_159 : decode cX7_giveLabels 159 = .ok (.iload 6, 2) := by decide +kernel
theorem dX7_giveLabels_161 : decode cX7_giveLabels 161 = .ok (.iaload, 1) := by decide +kernel
theorem dX7_giveLabels_162 : decode cX7_giveLabels 162 = .ok (.iload 4, 2) := by decide +kernel
theorem dX7_giveLabels_164 : decode cX7_giveLabels 164 = .ok (.if_icmp .eq 15, 3) := by decide +kernel
theorem dX7_giveLabels_167 : decode cX7_giveLabels 167 = .ok (.aload_n 0, 1) := by decide +kernel
theorem dX7_giveLabels_168 : decode cX7_giveLabels 168 = .ok (.getfield 57, 3) := by decide +kernel
theorem dX7_giveLabels_171 : decode cX7_giveLabels 171 = .ok (.iload 6, 2) := by decide +kernel
theorem dX7_giveLabels_173 : decode cX7_giveLabels 173 = .ok (.iaload, 1) := by decide +kernel
theorem dX7_giveLabels_174 : decode cX7_giveLabels 174 = .ok (.iload 5, 2) := by decide +kernel
theorem dX7_giveLabels_176 : decode cX7_giveLabels 176 = .ok (.if_icmp .ne 20, 3) := by decide +kernel
theorem dX7_giveLabels_179 : decode cX7_giveLabels 179 = .ok (.iload 4, 2) := by decide +kernel
theorem dX7_giveLabels_181 : decode cX7_giveLabels 181 = .ok (.iload 5, 2) := by decide +kernel
theorem dX7_giveLabels_183 : decode cX7_giveLabels 183 = .ok (.if_icmp .ge 8, 3) := by decide +kernel
theorem dX7_giveLabels_186 : decode cX7_giveLabels 186 = .ok (.iload 4, 2) := by decide +kernel
theorem dX7_giveLabels_188 : decode cX7_giveLabels 188 = .ok (.goto 15, 3) := by decide +kernel
theorem dX7_giveLabels_191 : decode cX7_giveLabels 191 = .ok (.iload 5, 2) := by decide +kernel
theorem dX7_giveLabels_193 : decode cX7_giveLabels 193 = .ok (.goto 10, 3) := by decide +kernel
theorem dX7_giveLabels_196 : decode cX7_giveLabels 196 = .ok (.aload_n 0, 1) := by decide +kernel
theorem dX7_giveLabels_197 : decode cX7_giveLabels 197 = .ok (.getfield 57, 3) := by decide +kernel
theorem dX7_giveLabels_200 : decode cX7_giveLabels 200 = .ok (.iload 6, 2) := by decide +kernel
theorem dX7_giveLabels_202 : decode cX7_giveLabels 202 = .ok (.iaload, 1) := by decide +kernel
theorem dX7_giveLabels_203 : decode cX7_giveLabels 203 = .ok (.iastore, 1) := by decide +kernel
theorem dX7_giveLabels_204 : decode cX7_giveLabels 204 = .ok (.iinc 6 1, 3) := by decide +kernel
theorem dX7_giveLabels_207 : decode cX7_giveLabels 207 = .ok (.goto (-73), 3) := by decide +kernel
theorem dX7_giveLabels_210 : decode cX7_giveLabels 210 = .ok (.iinc 2 1, 3) := by decide +kernel
theorem dX7_giveLabels_213 : decode cX7_giveLabels 213 = .ok (.goto (-171), 3) := by decide +kernel
theorem dX7_giveLabels_216 : decode cX7_giveLabels 216 = .ok (.iinc 1 1, 3) := by decide +kernel
theorem dX7_giveLabels_219 : decode cX7_giveLabels 219 = .ok (.goto (-187), 3) := by decide +kernel
theorem dX7_giveLabels_222 : decode cX7_giveLabels 222 = .ok (.aload_n 0, 1) := by decide +kernel
theorem dX7_giveLabels_223 : decode cX7_giveLabels 223 = .ok (.iconst 1, 1) := by decide +kernel
theorem dX7_giveLabels_224 : decode cX7_giveLabels 224 = .ok (.putfield 154, 3) := by decide +kernel
theorem dX7_giveLabels_227 : decode cX7_giveLabels 227 = .ok (.return_, 1) := by decide +kernel
theorem dX7_put_0 : decode cX7_put 0 = .ok (.aload_n 0, 1) := by decide +kernel
theorem dX7_put_1 : decode cX7_put 1 = .ok (.getfield 122, 3) := by decide +kernel
theorem dX7_put_4 : decode cX7_put 4 = .ok (.iconst 1, 1) := by decide +kernel
theorem dX7_put_5 : decode cX7_put 5 = .ok (.isub, 1) := by decide +kernel
theorem dX7_put_6 : decode cX7_put 6 = .ok (.istore_n 2, 1) := by decide +kernel
theorem dX7_put_7 : decode cX7_put 7 = .ok (.aload_n 0, 1) := by decide +kernel
theorem dX7_put_8 : decode cX7_put 8 = .ok (.invokevirtual 188, 3) := by decide +kernel
theorem dX7_put_11 : decode cX7_put 11 = .ok (.iload_n 1, 1) := by decide +kernel
theorem dX7_put_12 : decode cX7_put 12 = .ok (.ifCond .lt 31, 3) := by decide +kernel
theorem dX7_put_15 : decode cX7_put 15 = .ok (.aload_n 0, 1) := by decide +kernel
theorem dX7_put_16 : decode cX7_put 16 = .ok (.getfield 41, 3) := by decide +kernel
theorem dX7_put_19 : decode cX7_put 19 = .ok (.bipush 8, 2) := by decide +kernel
theorem dX7_put_21 : decode cX7_put 21 = .ok (.iload_n 2, 1) := by decide +kernel
theorem dX7_put_22 : decode cX7_put 22 = .ok (.imul, 1) := by decide +kernel
theorem dX7_put_23 : decode cX7_put 23 = .ok (.iload_n 1, 1) := by decide +kernel
theorem dX7_put_24 : decode cX7_put 24 = .ok (.iadd, 1) := by decide +kernel
theorem dX7_put_25 : decode cX7_put 25 = .ok (.aload_n 0, 1) := by decide +kernel
theorem dX7_put_26 : decode cX7_put 26 = .ok (.getfield 148, 3) := by decide +kernel
theorem dX7_put_29 : decode cX7_put 29 = .ok (.iastore, 1) := by decide +kernel
theorem dX7_put_30 : decode cX7_put 30 = .ok (.aload_n 0, 1) := by decide +kernel
theorem dX7_put_31 : decode cX7_put 31 = .ok (.getfield 47, 3) := by decide +kernel
theorem dX7_put_34 : decode cX7_put 34 = .ok (.aload_n 0, 1) := by decide +kernel
theorem dX7_put_35 : decode cX7_put 35 = .ok (.getfield 148, 3) := by decide +kernel
theorem dX7_put_38 : decode cX7_put 38 = .ok (.dup2, 1) := by decide +kernel
theorem dX7_put_39 : decode cX7_put 39 = .ok (.iaload, 1) := by decide +kernel
theorem dX7_put_40 : decode cX7_put 40 = .ok (.iconst 1, 1) := by decide +kernel
theorem dX7_put_41 : decode cX7_put 41 = .ok (.isub, 1) := by decide +kernel
theorem dX7_put_42 : decode cX7_put 42 = .ok (.iastore, 1) := by decide +kernel
theorem dX7_put_43 : decode cX7_put 43 = .ok (.iconst 0, 1) := by decide +kernel
theorem dX7_put_44 : decode cX7_put 44 = .ok (.istore_n 3, 1) := by decide +kernel
theorem dX7_put_45 : decode cX7_put 45 = .ok (.iconst 0, 1) := by decide +kernel
theorem dX7_put_46 : decode cX7_put 46 = .ok (.istore 4, 2) := by decide +kernel
theorem dX7_put_48 : decode cX7_put 48 = .ok (.iload 4, 2) := by decide +kernel
theorem dX7_put_50 : decode cX7_put 50 = .ok (.bipush 8, 2) := by decide +kernel
theorem dX7_put_52 : decode cX7_put 52 = .ok (.if_icmp .ge 46, 3) := by decide +kernel
theorem dX7_put_55 : decode cX7_put 55 = .ok (.aload_n 0, 1) := by decide +kernel
theorem dX7_put_56 : decode cX7_put 56 = .ok (.bipush 8, 2) := by decide +kernel
theorem dX7_put_58 : decode cX7_put 58 = .ok (.iload_n 2, 1) := by decide +kernel
theorem dX7_put_59 : decode cX7_put 59 = .ok (.imul, 1) := by decide +kernel
theorem dX7_put_60 : decode cX7_put 60 = .ok (.iload 4, 2) := by decide +kernel
theorem dX7_put_62 : decode cX7_put 62 = .ok (.iadd, 1) := by decide +kernel
theorem dX7_put_63 : decode cX7_put 63 = .ok (.invokevirtual 172, 3) := by decide +kernel
theorem dX7_put_66 : decode cX7_put 66 = .ok (.ifCond .le 24, 3) := by decide +kernel
theorem dX7_put_69 : decode cX7_put 69 = .ok (.iload_n 3, 1) := by decide +kernel
theorem dX7_put_70 : decode cX7_put 70 = .ok (.aload_n 0, 1) := by decide +kernel
theorem dX7_put_71 : decode cX7_put 71 = .ok (.aload_n 0, 1) := by decide +kernel
theorem dX7_put_72 : decode cX7_put 72 = .ok (.getfield 57, 3) := by decide +kernel
theorem dX7_put_75 : decode cX7_put 75 = .ok (.bipush 8, 2) := by decide +kernel
theorem dX7_put_77 : decode cX7_put 77 = .ok (.iload_n 2, 1) := by decide +kernel
theorem dX7_put_78 : decode cX7_put 78 = .ok (.imul, 1) := by decide +kernel
theorem dX7_put_79 : decode cX7_put 79 = .ok (.iload 4, 2) := by decide +kernel
theorem dX7_put_81 : decode cX7_put 81 = .ok (.iadd, 1) := by decide +kernel
theorem dX7_put_82 : decode cX7_put 82 = .ok (.iaload, 1) := by decide +kernel
theorem dX7_put_83 : decode cX7_put 83 = .ok (.invokevirtual 206, 3) := by decide +kernel
theorem dX7_put_86 : decode cX7_put 86 = .ok (.iadd, 1) := by decide +kernel
theorem dX7_put_87 : decode cX7_put 87 = .ok (.goto 4, 3) := by decide +kernel
theorem dX7_put_90 : decode cX7_put 90 = .ok (.iload_n 3, 1) := by decide +kernel
theorem dX7_put_91 : decode cX7_put 91 = .ok (.istore_n 3, 1) := by decide +kernel
theorem dX7_put_92 : decode cX7_put 92 = .ok (.iinc 4 1, 3) := by decide +kernel
theorem dX7_put_95 : decode cX7_put 95 = .ok (.goto (-47), 3) := by decide +kernel
theorem dX7_put_98 : decode cX7_put 98 = .ok (.iconst 0, 1) := by decide +kernel
theorem dX7_put_99 : decode cX7_put 99 = .ok (.istore 4, 2) := by decide +kernel
theorem dX7_put_101 : decode cX7_put 101 = .ok (.iload 4, 2) := by decide +kernel
theorem dX7_put_103 : decode cX7_put 103 = .ok (.bipush 9, 2) := by decide +kernel
theorem dX7_put_105 : decode cX7_put 105 = .ok (.if_icmp .ge 107, 3) := by decide +kernel
theorem dX7_put_108 : decode cX7_put 108 = .ok (.iload 4, 2) := by decide +kernel
theorem dX7_put_110 : decode cX7_put 110 = .ok (.iconst 4, 1) := by decide +kernel
theorem dX7_put_111 : decode cX7_put 111 = .ok (.if_icmp .ne 7, 3) := by decide +kernel
theorem dX7_put_114 : decode cX7_put 114 = .ok (.iconst (-1), 1) := by decide +kernel
theorem dX7_put_115 : decode cX7_put 115 = .ok (.goto 33, 3) := by decide +kernel
theorem dX7_put_118 : decode cX7_put 118 = .ok (.aload_n 0, 1) := by decide +kernel
theorem dX7_put_119 : decode cX7_put 119 = .ok (.aload_n 0, 1) := by decide +kernel
theorem dX7_put_120 : decode cX7_put 120 = .ok (.getfield 26, 3) := by decide +kernel
theorem dX7_put_123 : decode cX7_put 123 = .ok (.iload_n 2, 1) := by decide +kernel
theorem dX7_put_124 : decode cX7_put 124 = .ok (.iaload, 1) := by decide +kernel
theorem dX7_put_125 : decode cX7_put 125 = .ok (.iload 4, 2) := by decide +kernel
theorem dX7_put_127 : decode cX7_put 127 = .ok (.iconst 3, 1) := by decide +kernel
theorem dX7_put_128 : decode cX7_put 128 = .ok (.irem, 1) := by decide +kernel
theorem dX7_put_129 : decode cX7_put 129 = .ok (.iadd, 1) := by decide +kernel
theorem dX7_put_130 : decode cX7_put 130 = .ok (.iconst 1, 1) := by decide +kernel
theorem dX7_put_131 : decode cX7_put 131 = .ok (.isub, 1) := by decide +kernel
theorem dX7_put_132 : decode cX7_put 132 = .ok (.aload_n 0, 1) := by decide +kernel
theorem dX7_put_133 : decode cX7_put 133 = .ok (.getfield 29, 3) := by decide +kernel
theorem dX7_put_136 : decode cX7_put 136 = .ok (.iload_n 2, 1) := by decide +kernel
theorem dX7_put_137 : decode cX7_put 137 = .ok (.iaload, 1) := by decide +kernel
theorem dX7_put_138 : decode cX7_put 138 = .ok (.iload 4, 2) := by decide +kernel
theorem dX7_put_140 : decode cX7_put 140 = .ok (.iconst 3, 1) := by decide +kernel
theorem dX7_put_141 : decode cX7_put 141 = .ok (.idiv, 1) := by decide +kernel
theorem dX7_put_142 : decode cX7_put 142 = .ok (.iadd, 1) := by decide +kernel
theorem dX7_put_143 : decode cX7_put 143 = .ok (.iconst 1, 1) := by decide +kernel
theorem dX7_put_144 : decode cX7_put 144 = .ok (.isub, 1) := by decide +kernel
theorem dX7_put_145 : decode cX7_put 145 = .ok (.invokevirtual 114, 3) := by decide +kernel
theorem dX7_put_148 : decode cX7_put 148 = .ok (.istore 5, 2) := by decide +kernel
theorem dX7_put_150 : decode cX7_put 150 = .ok (.iconst 0, 1) := by decide +kernel
theorem dX7_put_151 : decode cX7_put 151 = .ok (.istore 6, 2) := by decide +kernel
theorem dX7_put_153 : decode cX7_put 153 = .ok (.iload 6, 2) := by decide +kernel
theorem dX7_put_155 : decode cX7_put 155 = .ok (.bipush 8, 2) := by decide +kernel
theorem dX7_put_157 : decode cX7_put 157 = .ok (.if_icmp .ge 49, 3) := by decide +kernel
theorem dX7_put_160 : decode cX7_put 160 = .ok (.iload 5, 2) := by decide +kernel
theorem dX7_put_162 : decode cX7_put 162 = .ok (.ifCond .lt 44, 3) := by decide +kernel
theorem dX7_put_165 : decode cX7_put 165 = .ok (.aload_n 0, 1) := by decide +kernel
theorem dX7_put_166 : decode cX7_put 166 = .ok (.bipush 8, 2) := by decide +kernel
theorem dX7_put_168 : decode cX7_put 168 = .ok (.iload 5, 2) := by decide +kernel
theorem dX7_put_170 : decode cX7_put 170 = .ok (.imul, 1) := by decide +kernel
theorem dX7_put_171 : decode cX7_put 171 = .ok (.iload 6, 2) := by decide +kernel
theorem dX7_put_173 : decode cX7_put 173 = .ok (.iadd, 1) := by decide +kernel
theorem dX7_put_174 : decode cX7_put 174 = .ok (.invokevirtual 172, 3) := by decide +kernel
theorem dX7_put_177 : decode cX7_put 177 = .ok (.iconst 4, 1) := by decide +kernel
theorem dX7_put_178 : decode cX7_put 178 = .ok (.if_icmp .ne 20, 3) := by decide +kernel
theorem dX7_put_181 : decode cX7_put 181 = .ok (.iload_n 3, 1) := by decide +kernel
theorem dX7_put_182 : decode cX7_put 182 = .ok (.aload_n 0, 1) := by decide +kernel
theorem dX7_put_183 : decode cX7_put 183 = .ok (.bipush 8, 2) := by decide +kernel
theorem dX7_put_185 : decode cX7_put 185 = .ok (.iload 5, 2) := by decide +kernel
theorem dX7_put_187 : decode cX7_put 187 = .ok (.imul, 1) := by decide +kernel
theorem dX7_put_188 : decode cX7_put 188 = .ok (.iload 6, 2) := by decide +kernel
theorem dX7_put_190 : decode cX7_put 190 = .ok (.iadd, 1) := by decide +kernel
theorem dX7_put_191 : decode cX7_put 191 = .ok (.invokevirtual 206, 3) := by decide +kernel
theorem dX7_put_194 : decode cX7_put 194 = .ok (.iadd, 1) := by decide +kernel
theorem dX7_put_195 : decode cX7_put 195 = .ok (.goto 4, 3) := by decide +kernel
theorem dX7_put_198 : decode cX7_put 198 = .ok (.iload_n 3, 1) := by decide +kernel
theorem dX7_put_199 : decode cX7_put 199 = .ok (.istore_n 3, 1) := by decide +kernel
theorem dX7_put_200 : decode cX7_put 200 = .ok (.iinc 6 1, 3) := by decide +kernel
theorem dX7_put_203 : decode cX7_put 203 = .ok (.goto (-50), 3) := by decide +kernel
theorem dX7_put_206 : decode cX7_put 206 = .ok (.iinc 4 1, 3) := by decide +kernel
theorem dX7_put_209 : decode cX7_put 209 = .ok (.goto (-108), 3) := by decide +kernel
theorem dX7_put_212 : decode cX7_put 212 = .ok (.aload_n 0, 1) := by decide +kernel
theorem dX7_put_213 : decode cX7_put 213 = .ok (.iconst 0, 1) := by decide +kernel
theorem dX7_put_214 : decode cX7_put 214 = .ok (.putfield 151, 3) := by decide +kernel
theorem dX7_put_217 : decode cX7_put 217 = .ok (.aload_n 0, 1) := by decide +kernel
theorem dX7_put_218 : decode cX7_put 218 = .ok (.aload_n 0, 1) := by decide +kernel
theorem dX7_put_219 : decode cX7_put 219 = .ok (.getfield 148, 3) := by decide +kernel
theorem dX7_put_222 : decode cX7_put 222 = .ok (.iconst 1, 1) := by decide +kernel
theorem dX7_put_223 : decode cX7_put 223 = .ok (.iadd, 1) := by decide +kernel
theorem dX7_put_224 : decode cX7_put 224 = .ok (.aload_n 0, 1) := by decide +kernel
theorem dX7_put_225 : decode cX7_put 225 = .ok (.getfield 160, 3) := by decide +kernel
theorem dX7_put_228 : decode cX7_put 228 = .ok (.if_icmp .ne 7, 3) := by decide +kernel
theorem dX7_put_231 : decode cX7_put 231 = .ok (.iconst 0, 1) := by decide +kernel
theorem dX7_put_232 : decode cX7_put 232 = .ok (.goto 9, 3) := by decide +kernel
theorem dX7_put_235 : decode cX7_put 235 = .ok (.aload_n 0, 1) := by decide +kernel
theorem dX7_put_236 : decode cX7_put 236 = .ok (.getfield 148, 3) := by decide +kernel
theorem dX7_put_239 : decode cX7_put 239 = .ok (.iconst 1, 1) := by decide +kernel
theorem dX7_put_240 : decode cX7_put 240 = .ok (.iadd, 1) := by decide +kernel
theorem dX7_put_241 : decode cX7_put 241 = .ok (.putfield 148, 3) := by decide +kernel
theorem dX7_put_244 : decode cX7_put 244 = .ok (.aload_n 0, 1) := by decide +kernel
theorem dX7_put_245 : decode cX7_put 245 = .ok (.invokevirtual 157, 3) := by decide +kernel
theorem dX7_put_248 : decode cX7_put 248 = .ok (.iload_n 3, 1) := by decide +kernel
theorem dX7_put_249 : decode cX7_put 249 = .ok (.ireturn, 1) := by decide +kernel
theorem dX7_mayFollow_0 : decode cX7_mayFollow 0 = .ok (.bipush 8, 2) := by decide +kernel
theorem dX7_mayFollow_2 : decode cX7_mayFollow 2 = .ok (.aload_n 0, 1) := by decide +kernel
theorem dX7_mayFollow_3 : decode cX7_mayFollow 3 = .ok (.getfield 122, 3) := by decide +kernel
theorem dX7_mayFollow_6 : decode cX7_mayFollow 6 = .ok (.iconst 1, 1) := by decide +kernel
theorem dX7_mayFollow_7 : decode cX7_mayFollow 7 = .ok (.isub, 1) := by decide +kernel
theorem dX7_mayFollow_8 : decode cX7_mayFollow 8 = .ok (.imul, 1) := by decide +kernel
theorem dX7_mayFollow_9 : decode cX7_mayFollow 9 = .ok (.iload_n 1, 1) := by decide +kernel
theorem dX7_mayFollow_10 : decode cX7_mayFollow 10 = .ok (.iadd, 1) := by decide +kernel
theorem dX7_mayFollow_11 : decode cX7_mayFollow 11 = .ok (.istore_n 2, 1) := by decide +kernel
theorem dX7_mayFollow_12 : decode cX7_mayFollow 12 = .ok (.iload_n 1, 1) := by decide +kernel
theorem dX7_mayFollow_13 : decode cX7_mayFollow 13 = .ok (.ifCond .lt 29, 3) := by decide +kernel
theorem dX7_mayFollow_16 : decode cX7_mayFollow 16 = .ok (.iload_n 1, 1) := by decide +kernel
theorem dX7_mayFollow_17 : decode cX7_mayFollow 17 = .ok (.bipush 7, 2) := by decide +kernel
theorem dX7_mayFollow_19 : decode cX7_mayFollow 19 = .ok (.if_icmp .gt 23, 3) := by decide +kernel
theorem dX7_mayFollow_22 : decode cX7_mayFollow 22 = .ok (.aload_n 0, 1) := by decide +kernel
theorem dX7_mayFollow_23 : decode cX7_mayFollow 23 = .ok (.iload_n 2, 1) := by decide +kernel
theorem dX7_mayFollow_24 : decode cX7_mayFollow 24 = .ok (.invokevirtual 172, 3) := by decide +kernel
theorem dX7_mayFollow_27 : decode cX7_mayFollow 27 = .ok (.ifCond .eq 15, 3) := by decide +kernel
theorem dX7_mayFollow_30 : decode cX7_mayFollow 30 = .ok (.aload_n 0, 1) := by decide +kernel
theorem dX7_mayFollow_31 : decode cX7_mayFollow 31 = .ok (.getfield 47, 3) := by decide +kernel
theorem dX7_mayFollow_34 : decode cX7_mayFollow 34 = .ok (.aload_n 0, 1) := by decide +kernel
theorem dX7_mayFollow_35 : decode cX7_mayFollow 35 = .ok (.getfield 148, 3) := by decide +kernel
theorem dX7_mayFollow_38 : decode cX7_mayFollow 38 = .ok (.iaload, 1) := by decide +kernel
theorem dX7_mayFollow_39 : decode cX7_mayFollow 39 = .ok (.ifCond .ne 5, 3) := by decide +kernel
theorem dX7_mayFollow_42 : decode cX7_mayFollow 42 = .ok (.iconst 0, 1) := by decide +kernel
theorem dX7_mayFollow_43 : decode cX7_mayFollow 43 = .ok (.ireturn, 1) := by decide +kernel
theorem dX7_mayFollow_44 : decode cX7_mayFollow 44 = .ok (.aload_n 0, 1) := by decide +kernel
theorem dX7_mayFollow_45 : decode cX7_mayFollow 45 = .ok (.invokevirtual 188, 3) := by decide +kernel
theorem dX7_mayFollow_48 : decode cX7_mayFollow 48 = .ok (.aload_n 0, 1) := by decide +kernel
theorem dX7_mayFollow_49 : decode cX7_mayFollow 49 = .ok (.aload_n 0, 1) := by decide +kernel
theorem dX7_mayFollow_50 : decode cX7_mayFollow 50 = .ok (.getfield 57, 3) := by decide +kernel
theorem dX7_mayFollow_53 : decode cX7_mayFollow 53 = .ok (.iload_n 2, 1) := by decide +kernel
theorem dX7_mayFollow_54 : decode cX7_mayFollow 54 = .ok (.iaload, 1) := by decide +kernel
theorem dX7_mayFollow_55 : decode cX7_mayFollow 55 = .ok (.invokevirtual 191, 3) := by decide +kernel
theorem dX7_mayFollow_58 : decode cX7_mayFollow 58 = .ok (.ifCond .ne 7, 3) := by decide +kernel
theorem dX7_mayFollow_61 : decode cX7_mayFollow 61 = .ok (.iconst 1, 1) := by decide +kernel
theorem dX7_mayFollow_62 : decode cX7_mayFollow 62 = .ok (.goto 4, 3) := by decide +kernel
theorem dX7_mayFollow_65 : decode cX7_mayFollow 65 = .ok (.iconst 0, 1) := by decide +kernel
theorem dX7_mayFollow_66 : decode cX7_mayFollow 66 = .ok (.ireturn, 1) := by decide +kernel
theorem dX7_follow_0 : decode cX7_follow 0 = .ok (.aload_n 0, 1) := by decide +kernel
theorem dX7_follow_1 : decode cX7_follow 1 = .ok (.getfield 101, 3) := by decide +kernel
theorem dX7_follow_4 : decode cX7_follow 4 = .ok (.ifCond .eq 23, 3) := by decide +kernel
theorem dX7_follow_7 : decode cX7_follow 7 = .ok (.aload_n 0, 1) := by decide +kernel
theorem dX7_follow_8 : decode cX7_follow 8 = .ok (.getfield 151, 3) := by decide +kernel
theorem dX7_follow_11 : decode cX7_follow 11 = .ok (.ifCond .eq 16, 3) := by decide +kernel
theorem dX7_follow_14 : decode cX7_follow 14 = .ok (.iload_n 1, 1) := by decide +kernel
theorem dX7_follow_15 : decode cX7_follow 15 = .ok (.iconst (-1), 1) := by decide +kernel
theorem dX7_follow_16 : decode cX7_follow 16 = .ok (.if_icmp .eq 14, 3) := by decide +kernel
theorem dX7_follow_19 : decode cX7_follow 19 = .ok (.aload_n 0, 1) := by decide +kernel
theorem dX7_follow_20 : decode cX7_follow 20 = .ok (.iload_n 1, 1) := by decide +kernel
theorem dX7_follow_21 : decode cX7_follow 21 = .ok (.invokevirtual 217, 3) := by decide +kernel
theorem dX7_follow_24 : decode cX7_follow 24 = .ok (.ifCond .ne 6, 3) := by decide +kernel
theorem dX7_follow_27 : decode cX7_follow 27 = .ok (.bipush (-2), 2) := by decide +kernel
theorem dX7_follow_29 : decode cX7_follow 29 = .ok (.ireturn, 1) := by decide +kernel
theorem dX7_follow_30 : decode cX7_follow 30 = .ok (.aload_n 0, 1) := by decide +kernel
theorem dX7_follow_31 : decode cX7_follow 31 = .ok (.iconst 0, 1) := by decide +kernel
theorem dX7_follow_32 : decode cX7_follow 32 = .ok (.iload_n 1, 1) := by decide +kernel
theorem dX7_follow_33 : decode cX7_follow 33 = .ok (.iconst 0, 1) := by decide +kernel
theorem dX7_follow_34 : decode cX7_follow 34 = .ok (.iconst 0, 1) := by decide +kernel
theorem dX7_follow_35 : decode cX7_follow 35 = .ok (.invokevirtual 213, 3) := by decide +kernel
theorem dX7_follow_38 : decode cX7_follow 38 = .ok (.aload_n 0, 1) := by decide +kernel
theorem dX7_follow_39 : decode cX7_follow 39 = .ok (.iload_n 1, 1) := by decide +kernel
theorem dX7_follow_40 : decode cX7_follow 40 = .ok (.invokevirtual 220, 3) := by decide +kernel
theorem dX7_follow_43 : decode cX7_follow 43 = .ok (.ireturn, 1) := by decide +kernel
theorem dX7_undo_0 : decode cX7_undo 0 = .ok (.aload_n 0, 1) := by decide +kernel
theorem dX7_undo_1 : decode cX7_undo 1 = .ok (.getfield 101, 3) := by decide +kernel
theorem dX7_undo_4 : decode cX7_undo 4 = .ok (.ifCond .eq 10, 3) := by decide +kernel
theorem dX7_undo_7 : decode cX7_undo 7 = .ok (.aload_n 0, 1) := by decide +kernel
theorem dX7_undo_8 : decode cX7_undo 8 = .ok (.getfield 163, 3) := by decide +kernel
theorem dX7_undo_11 : decode cX7_undo 11 = .ok (.ifCond .ne 5, 3) := by decide +kernel
theorem dX7_undo_14 : decode cX7_undo 14 = .ok (.iconst 0, 1) := by decide +kernel
theorem dX7_undo_15 : decode cX7_undo 15 = .ok (.ireturn, 1) := by decide +kernel
theorem dX7_undo_16 : decode cX7_undo 16 = .ok (.aload_n 0, 1) := by decide +kernel
theorem dX7_undo_17 : decode cX7_undo 17 = .ok (.dup, 1) := by decide +kernel
theorem dX7_undo_18 : decode cX7_undo 18 = .ok (.getfield 163, 3) := by decide +kernel
theorem dX7_undo_21 : decode cX7_undo 21 = .ok (.iconst 1, 1) := by decide +kernel
theorem dX7_undo_22 : decode cX7_undo 22 = .ok (.isub, 1) := by decide +kernel
theorem dX7_undo_23 : decode cX7_undo 23 = .ok (.putfield 163, 3) := by decide +kernel
theorem dX7_undo_26 : decode cX7_undo 26 = .ok (.aload_n 0, 1) := by decide +kernel
theorem dX7_undo_27 : decode cX7_undo 27 = .ok (.iconst 0, 1) := by decide +kernel
theorem dX7_undo_28 : decode cX7_undo 28 = .ok (.putfield 166, 3) := by decide +kernel
theorem dX7_undo_31 : decode cX7_undo 31 = .ok (.aload_n 0, 1) := by decide +kernel
theorem dX7_undo_32 : decode cX7_undo 32 = .ok (.invokevirtual 169, 3) := by decide +kernel
theorem dX7_undo_35 : decode cX7_undo 35 = .ok (.iconst 0, 1) := by decide +kernel
theorem dX7_undo_36 : decode cX7_undo 36 = .ok (.istore_n 1, 1) := by decide +kernel
theorem dX7_undo_37 : decode cX7_undo 37 = .ok (.iload_n 1, 1) := by decide +kernel
theorem dX7_undo_38 : decode cX7_undo 38 = .ok (.iconst 4, 1) := by decide +kernel
theorem dX7_undo_39 : decode cX7_undo 39 = .ok (.aload_n 0, 1) := by decide +kernel
theorem dX7_undo_40 : decode cX7_undo 40 = .ok (.getfield 163, 3) := by decide +kernel
theorem dX7_undo_43 : decode cX7_undo 43 = .ok (.imul, 1) := by decide +kernel
theorem dX7_undo_44 : decode cX7_undo 44 = .ok (.if_icmp .ge 63, 3) := by decide +kernel
theorem dX7_undo_47 : decode cX7_undo 47 = .ok (.aload_n 0, 1) := by decide +kernel
theorem dX7_undo_48 : decode cX7_undo 48 = .ok (.getfield 54, 3) := by decide +kernel
theorem dX7_undo_51 : decode cX7_undo 51 = .ok (.iload_n 1, 1) := by decide +kernel
theorem dX7_undo_52 : decode cX7_undo 52 = .ok (.iaload, 1) := by decide +kernel
theorem dX7_undo_53 : decode cX7_undo 53 = .ok (.iconst 1, 1) := by decide +kernel
theorem dX7_undo_54 : decode cX7_undo 54 = .ok (.if_icmp .ne 34, 3) := by decide +kernel
theorem dX7_undo_57 : decode cX7_undo 57 = .ok (.aload_n 0, 1) := by decide +kernel
theorem dX7_undo_58 : decode cX7_undo 58 = .ok (.aload_n 0, 1) := by decide +kernel
theorem dX7_undo_59 : decode cX7_undo 59 = .ok (.getfield 54, 3) := by decide +kernel
theorem dX7_undo_62 : decode cX7_undo 62 = .ok (.iload_n 1, 1) := by decide +kernel
theorem dX7_undo_63 : decode cX7_undo 63 = .ok (.iconst 1, 1) := by decide +kernel
theorem dX7_undo_64 : decode cX7_undo 64 = .ok (.iadd, 1) := by decide +kernel
theorem dX7_undo_65 : decode cX7_undo 65 = .ok (.iaload, 1) := by decide +kernel
theorem dX7_undo_66 : decode cX7_undo 66 = .ok (.aload_n 0, 1) := by decide +kernel
theorem dX7_undo_67 : decode cX7_undo 67 = .ok (.getfield 54, 3) := by decide +kernel
theorem dX7_undo_70 : decode cX7_undo 70 = .ok (.iload_n 1, 1) := by decide +kernel
theorem dX7_undo_71 : decode cX7_undo 71 = .ok (.iconst 2, 1) := by decide +kernel
theorem dX7_undo_72 : decode cX7_undo 72 = .ok (.iadd, 1) := by decide +kernel
theorem dX7_undo_73 : decode cX7_undo 73 = .ok (.iaload, 1) := by decide +kernel
theorem dX7_undo_74 : decode cX7_undo 74 = .ok (.aload_n 0, 1) := by decide +kernel
theorem dX7_undo_75 : decode cX7_undo 75 = .ok (.getfield 54, 3) := by decide +kernel
theorem dX7_undo_78 : decode cX7_undo 78 = .ok (.iload_n 1, 1) := by decide +kernel
theorem dX7_undo_79 : decode cX7_undo 79 = .ok (.iconst 3, 1) := by decide +kernel
theorem dX7_undo_80 : decode cX7_undo 80 = .ok (.iadd, 1) := by decide +kernel
theorem dX7_undo_81 : decode cX7_undo 81 = .ok (.iaload, 1) := by decide +kernel
theorem dX7_undo_82 : decode cX7_undo 82 = .ok (.invokevirtual 209, 3) := by decide +kernel
theorem dX7_undo_85 : decode cX7_undo 85 = .ok (.goto 16, 3) := by decide +kernel
theorem dX7_undo_88 : decode cX7_undo 88 = .ok (.aload_n 0, 1) := by decide +kernel
theorem dX7_undo_89 : decode cX7_undo 89 = .ok (.aload_n 0, 1) := by decide +kernel
theorem dX7_undo_90 : decode cX7_undo 90 = .ok (.getfield 54, 3) := by decide +kernel
theorem dX7_undo_93 : decode cX7_undo 93 = .ok (.iload_n 1, 1) := by decide +kernel
theorem dX7_undo_94 : decode cX7_undo 94 = .ok (.iconst 1, 1) := by decide +kernel
theorem dX7_undo_95 : decode cX7_undo 95 = .ok (.iadd, 1) := by decide +kernel
theorem dX7_undo_96 : decode cX7_undo 96 = .ok (.iaload, 1) := by decide +kernel
theorem dX7_undo_97 : decode cX7_undo 97 = .ok (.invokevirtual 220, 3) := by decide +kernel
theorem dX7_undo_100 : decode cX7_undo 100 = .ok (.istore_n 2, 1) := by decide +kernel
theorem dX7_undo_101 : decode cX7_undo 101 = .ok (.iinc 1 4, 3) := by decide +kernel
theorem dX7_undo_104 : decode cX7_undo 104 = .ok (.goto (-67), 3) := by decide +kernel
theorem dX7_undo_107 : decode cX7_undo 107 = .ok (.iconst 1, 1) := by decide +kernel
theorem dX7_undo_108 : decode cX7_undo 108 = .ok (.ireturn, 1) := by decide +kernel
theorem dX7_region_0 : decode cX7_region 0 = .ok (.aload_n 0, 1) := by decide +kernel
theorem dX7_region_1 : decode cX7_region 1 = .ok (.getfield 101, 3) := by decide +kernel
theorem dX7_region_4 : decode cX7_region 4 = .ok (.ifCond .eq 12, 3) := by decide +kernel
theorem dX7_region_7 : decode cX7_region 7 = .ok (.aload_n 0, 1) := by decide +kernel
theorem dX7_region_8 : decode cX7_region 8 = .ok (.iload_n 1, 1) := by decide +kernel
theorem dX7_region_9 : decode cX7_region 9 = .ok (.iload_n 2, 1) := by decide +kernel
theorem dX7_region_10 : decode cX7_region 10 = .ok (.invokevirtual 114, 3) := by decide +kernel
theorem dX7_region_13 : decode cX7_region 13 = .ok (.goto 4, 3) := by decide +kernel
theorem dX7_region_16 : decode cX7_region 16 = .ok (.iconst (-1), 1) := by decide +kernel
theorem dX7_region_17 : decode cX7_region 17 = .ok (.istore 4, 2) := by decide +kernel
theorem dX7_region_19 : decode cX7_region 19 = .ok (.iload 4, 2) := by decide +kernel
theorem dX7_region_21 : decode cX7_region 21 = .ok (.ifCond .lt 27, 3) := by decide +kernel
theorem dX7_region_24 : decode cX7_region 24 = .ok (.iload_n 3, 1) := by decide +kernel
theorem dX7_region_25 : decode cX7_region 25 = .ok (.ifCond .lt 23, 3) := by decide +kernel
theorem dX7_region_28 : decode cX7_region 28 = .ok (.iload_n 3, 1) := by decide +kernel
theorem dX7_region_29 : decode cX7_region 29 = .ok (.bipush 7, 2) := by decide +kernel
theorem dX7_region_31 : decode cX7_region 31 = .ok (.if_icmp .gt 17, 3) := by decide +kernel
theorem dX7_region_34 : decode cX7_region 34 = .ok (.aload_n 0, 1) := by decide +kernel
theorem dX7_region_35 : decode cX7_region 35 = .ok (.bipush 8, 2) := by decide +kernel
theorem dX7_region_37 : decode cX7_region 37 = .ok (.iload 4, 2) := by decide +kernel
theorem dX7_region_39 : decode cX7_region 39 = .ok (.imul, 1) := by decide +kernel
theorem dX7_region_40 : decode cX7_region 40 = .ok (.iload_n 3, 1) := by decide +kernel
theorem dX7_region_41 : decode cX7_region 41 = .ok (.iadd, 1) := by decide +kernel
theorem dX7_region_42 : decode cX7_region 42 = .ok (.invokevirtual 172, 3) := by decide +kernel
theorem dX7_region_45 : decode cX7_region 45 = .ok (.ifCond .ne 5, 3) := by decide +kernel
theorem dX7_region_48 : decode cX7_region 48 = .ok (.iconst (-1), 1) := by decide +kernel
theorem dX7_region_49 : decode cX7_region 49 = .ok (.ireturn, 1) := by decide +kernel
theorem dX7_region_50 : decode cX7_region 50 = .ok (.aload_n 0, 1) := by decide +kernel
theorem dX7_region_51 : decode cX7_region 51 = .ok (.invokevirtual 188, 3) := by decide +kernel
theorem dX7_region_54 : decode cX7_region 54 = .ok (.aload_n 0, 1) := by decide +kernel
theorem dX7_region_55 : decode cX7_region 55 = .ok (.getfield 57, 3) := by decide +kernel
theorem dX7_region_58 : decode cX7_region 58 = .ok (.bipush 8, 2) := by decide +kernel
theorem dX7_region_60 : decode cX7_region 60 = .ok (.iload 4, 2) := by decide +kernel
theorem dX7_region_62 : decode cX7_region 62 = .ok (.imul, 1) := by decide +kernel
theorem dX7_region_63 : decode cX7_region 63 = .ok (.iload_n 3, 1) := by decide +kernel
theorem dX7_region_64 : decode cX7_region 64 = .ok (.iadd, 1) := by decide +kernel
theorem dX7_region_65 : decode cX7_region 65 = .ok (.iaload, 1) := by decide +kernel
theorem dX7_region_66 : decode cX7_region 66 = .ok (.ireturn, 1) := by decide +kernel
theorem dX7_about_0 : decode cX7_about 0 = .ok (.aload_n 0, 1) := by decide +kernel
theorem dX7_about_1 : decode cX7_about 1 = .ok (.getfield 101, 3) := by decide +kernel
theorem dX7_about_4 : decode cX7_about 4 = .ok (.ifCond .eq 28, 3) := by decide +kernel
theorem dX7_about_7 : decode cX7_about 7 = .ok (.iload_n 1, 1) := by decide +kernel
theorem dX7_about_8 : decode cX7_about 8 = .ok (.ifCond .lt 24, 3) := by decide +kernel
theorem dX7_about_11 : decode cX7_about 11 = .ok (.iload_n 1, 1) := by decide +kernel
theorem dX7_about_12 : decode cX7_about 12 = .ok (.bipush 8, 2) := by decide +kernel
theorem dX7_about_14 : decode cX7_about 14 = .ok (.aload_n 0, 1) := by decide +kernel
theorem dX7_about_15 : decode cX7_about 15 = .ok (.getfield 122, 3) := by decide +kernel
theorem dX7_about_18 : decode cX7_about 18 = .ok (.imul, 1) := by decide +kernel
theorem dX7_about_19 : decode cX7_about 19 = .ok (.if_icmp .ge 13, 3) := by decide +kernel
theorem dX7_about_22 : decode cX7_about 22 = .ok (.iload_n 2, 1) := by decide +kernel
theorem dX7_about_23 : decode cX7_about 23 = .ok (.ifCond .lt 9, 3) := by decide +kernel
theorem dX7_about_26 : decode cX7_about 26 = .ok (.iload_n 2, 1) := by decide +kernel
theorem dX7_about_27 : decode cX7_about 27 = .ok (.bipush 7, 2) := by decide +kernel
theorem dX7_about_29 : decode cX7_about 29 = .ok (.if_icmp .le 5, 3) := by decide +kernel
theorem dX7_about_32 : decode cX7_about 32 = .ok (.iconst (-1), 1) := by decide +kernel
theorem dX7_about_33 : decode cX7_about 33 = .ok (.ireturn, 1) := by decide +kernel
theorem dX7_about_34 : decode cX7_about 34 = .ok (.aload_n 0, 1) := by decide +kernel
theorem dX7_about_35 : decode cX7_about 35 = .ok (.invokevirtual 188, 3) := by decide +kernel
theorem dX7_about_38 : decode cX7_about 38 = .ok (.aload_n 0, 1) := by decide +kernel
theorem dX7_about_39 : decode cX7_about 39 = .ok (.iload_n 1, 1) := by decide +kernel
theorem dX7_about_40 : decode cX7_about 40 = .ok (.invokevirtual 172, 3) := by decide +kernel
theorem dX7_about_43 : decode cX7_about 43 = .ok (.ifCond .eq 13, 3) := by decide +kernel
theorem dX7_about_46 : decode cX7_about 46 = .ok (.aload_n 0, 1) := by decide +kernel
theorem dX7_about_47 : decode cX7_about 47 = .ok (.getfield 57, 3) := by decide +kernel
theorem dX7_about_50 : decode cX7_about 50 = .ok (.iload_n 1, 1) := by decide +kernel
theorem dX7_about_51 : decode cX7_about 51 = .ok (.iaload, 1) := by decide +kernel
theorem dX7_about_52 : decode cX7_about 52 = .ok (.iload_n 1, 1) := by decide +kernel
theorem dX7_about_53 : decode cX7_about 53 = .ok (.if_icmp .eq 5, 3) := by decide +kernel
theorem dX7_about_56 : decode cX7_about 56 = .ok (.iconst (-1), 1) := by decide +kernel
theorem dX7_about_57 : decode cX7_about 57 = .ok (.ireturn, 1) := by decide +kernel
theorem dX7_about_58 : decode cX7_about 58 = .ok (.iload_n 2, 1) := by decide +kernel
theorem dX7_about_59 : decode cX7_about 59 = .ok (.tableswitch 71 0 4 #[33, 39, 45, 51, 57], 33) := by decide +kernel
theorem dX7_about_92 : decode cX7_about 92 = .ok (.aload_n 0, 1) := by decide +kernel
theorem dX7_about_93 : decode cX7_about 93 = .ok (.iload_n 1, 1) := by decide +kernel
theorem dX7_about_94 : decode cX7_about 94 = .ok (.invokevirtual 172, 3) := by decide +kernel
theorem dX7_about_97 : decode cX7_about 97 = .ok (.ireturn, 1) := by decide +kernel
theorem dX7_about_98 : decode cX7_about 98 = .ok (.aload_n 0, 1) := by decide +kernel
theorem dX7_about_99 : decode cX7_about 99 = .ok (.iload_n 1, 1) := by decide +kernel
theorem dX7_about_100 : decode cX7_about 100 = .ok (.invokevirtual 197, 3) := by decide +kernel
theorem dX7_about_103 : decode cX7_about 103 = .ok (.ireturn, 1) := by decide +kernel
theorem dX7_about_104 : decode cX7_about 104 = .ok (.aload_n 0, 1) := by decide +kernel
theorem dX7_about_105 : decode cX7_about 105 = .ok (.iload_n 1, 1) := by decide +kernel
theorem dX7_about_106 : decode cX7_about 106 = .ok (.invokevirtual 200, 3) := by decide +kernel
theorem dX7_about_109 : decode cX7_about 109 = .ok (.ireturn, 1) := by decide +kernel
theorem dX7_about_110 : decode cX7_about 110 = .ok (.aload_n 0, 1) := by decide +kernel
theorem dX7_about_111 : decode cX7_about 111 = .ok (.iload_n 1, 1) := by decide +kernel
theorem dX7_about_112 : decode cX7_about 112 = .ok (.invokevirtual 178, 3) := by decide +kernel
theorem dX7_about_115 : decode cX7_about 115 = .ok (.ireturn, 1) := by decide +kernel
theorem dX7_about_116 : decode cX7_about 116 = .ok (.aload_n 0, 1) := by decide +kernel
theorem dX7_about_117 : decode cX7_about 117 = .ok (.iload_n 1, 1) := by decide +kernel
theorem dX7_about_118 : decode cX7_about 118 = .ok (.invokevirtual 194, 3) := by decide +kernel
theorem dX7_about_121 : decode cX7_about 121 = .ok (.ifCond .eq 7, 3) := by decide +kernel
theorem dX7_about_124 : decode cX7_about 124 = .ok (.iconst 1, 1) := by decide +kernel
theorem dX7_about_125 : decode cX7_about 125 = .ok (.goto 4, 3) := by decide +kernel
theorem dX7_about_128 : decode cX7_about 128 = .ok (.iconst 0, 1) := by decide +kernel
theorem dX7_about_129 : decode cX7_about 129 = .ok (.ireturn, 1) := by decide +kernel
theorem dX7_about_130 : decode cX7_about 130 = .ok (.aload_n 0, 1) := by decide +kernel
theorem dX7_about_131 : decode cX7_about 131 = .ok (.iload_n 1, 1) := by decide +kernel
theorem dX7_about_132 : decode cX7_about 132 = .ok (.iload_n 2, 1) := by decide +kernel
theorem dX7_about_133 : decode cX7_about 133 = .ok (.iconst 5, 1) := by decide +kernel
theorem dX7_about_134 : decode cX7_about 134 = .ok (.isub, 1) := by decide +kernel
theorem dX7_about_135 : decode cX7_about 135 = .ok (.invokevirtual 181, 3) := by decide +kernel
theorem dX7_about_138 : decode cX7_about 138 = .ok (.ireturn, 1) := by decide +kernel
theorem dX7_citiesAt_0 : decode cX7_citiesAt 0 = .ok (.iconst 0, 1) := by decide +kernel
theorem dX7_citiesAt_1 : decode cX7_citiesAt 1 = .ok (.istore_n 2, 1) := by decide +kernel
theorem dX7_citiesAt_2 : decode cX7_citiesAt 2 = .ok (.iconst 0, 1) := by decide +kernel
theorem dX7_citiesAt_3 : decode cX7_citiesAt 3 = .ok (.istore_n 3, 1) := by decide +kernel
theorem dX7_citiesAt_4 : decode cX7_citiesAt 4 = .ok (.iload_n 3, 1) := by decide +kernel
theorem dX7_citiesAt_5 : decode cX7_citiesAt 5 = .ok (.bipush 8, 2) := by decide +kernel
theorem dX7_citiesAt_7 : decode cX7_citiesAt 7 = .ok (.aload_n 0, 1) := by decide +kernel
theorem dX7_citiesAt_8 : decode cX7_citiesAt 8 = .ok (.getfield 122, 3) := by decide +kernel
theorem dX7_citiesAt_11 : decode cX7_citiesAt 11 = .ok (.imul, 1) := by decide +kernel
theorem dX7_citiesAt_12 : decode cX7_citiesAt 12 = .ok (.if_icmp .ge 165, 3) := by decide +kernel
theorem dX7_citiesAt_15 : decode cX7_citiesAt 15 = .ok (.iconst 0, 1) := by decide +kernel
theorem dX7_citiesAt_16 : decode cX7_citiesAt 16 = .ok (.istore 4, 2) := by decide +kernel
theorem dX7_citiesAt_18 : decode cX7_citiesAt 18 = .ok (.iconst 0, 1) := by decide +kernel
theorem dX7_citiesAt_19 : decode cX7_citiesAt 19 = .ok (.istore 5, 2) := by decide +kernel
theorem dX7_citiesAt_21 : decode cX7_citiesAt 21 = .ok (.iload 5, 2) := by decide +kernel
theorem dX7_citiesAt_23 : decode cX7_citiesAt 23 = .ok (.bipush 8, 2) := by decide +kernel
theorem dX7_citiesAt_25 : decode cX7_citiesAt 25 = .ok (.aload_n 0, 1) := by decide +kernel
theorem dX7_citiesAt_26 : decode cX7_citiesAt 26 = .ok (.getfield 122, 3) := by decide +kernel
theorem dX7_citiesAt_29 : decode cX7_citiesAt 29 = .ok (.imul, 1) := by decide +kernel
theorem dX7_citiesAt_30 : decode cX7_citiesAt 30 = .ok (.if_icmp .ge 120, 3) := by decide +kernel
theorem dX7_citiesAt_33 : decode cX7_citiesAt 33 = .ok (.aload_n 0, 1) := by decide +kernel
theorem dX7_citiesAt_34 : decode cX7_citiesAt 34 = .ok (.iload_n 3, 1) := by decide +kernel
theorem dX7_citiesAt_35 : decode cX7_citiesAt 35 = .ok (.invokevirtual 172, 3) := by decide +kernel
theorem dX7_citiesAt_38 : decode cX7_citiesAt 38 = .ok (.iconst 1, 1) := by decide +kernel
theorem dX7_citiesAt_39 : decode cX7_citiesAt 39 = .ok (.if_icmp .ne 111, 3) := by decide +kernel
theorem dX7_citiesAt_42 : decode cX7_citiesAt 42 = .ok (.aload_n 0, 1) := by decide +kernel
theorem dX7_citiesAt_43 : decode cX7_citiesAt 43 = .ok (.getfield 57, 3) := by decide +kernel
theorem dX7_citiesAt_46 : decode cX7_citiesAt 46 = .ok (.iload_n 3, 1) := by decide +kernel
theorem dX7_citiesAt_47 : decode cX7_citiesAt 47 = .ok (.iaload, 1) := by decide +kernel
theorem dX7_citiesAt_48 : decode cX7_citiesAt 48 = .ok (.iload_n 3, 1) := by decide +kernel
theorem dX7_citiesAt_49 : decode cX7_citiesAt 49 = .ok (.if_icmp .ne 101, 3) := by decide +kernel
theorem dX7_citiesAt_52 : decode cX7_citiesAt 52 = .ok (.iconst 0, 1) := by decide +kernel
theorem dX7_citiesAt_53 : decode cX7_citiesAt 53 = .ok (.istore 6, 2) := by decide +kernel
theorem dX7_citiesAt_55 : decode cX7_citiesAt 55 = .ok (.iload 6, 2) := by decide +kernel
theorem dX7_citiesAt_57 : decode cX7_citiesAt 57 = .ok (.bipush 8, 2) := by decide +kernel
theorem dX7_citiesAt_59 : decode cX7_citiesAt 59 = .ok (.if_icmp .ge 85, 3) := by decide +kernel
theorem dX7_citiesAt_62 : decode cX7_citiesAt 62 = .ok (.aload_n 0, 1) := by decide +kernel
theorem dX7_citiesAt_63 : decode cX7_citiesAt 63 = .ok (.getfield 57, 3) := by decide +kernel
theorem dX7_citiesAt_66 : decode cX7_citiesAt 66 = .ok (.iload 5, 2) := by decide +kernel
theorem dX7_citiesAt_68 : decode cX7_citiesAt 68 = .ok (.iaload, 1) := by decide +kernel
theorem dX7_citiesAt_69 : decode cX7_citiesAt 69 = .ok (.iload_n 1, 1) := by decide +kernel
theorem dX7_citiesAt_70 : decode cX7_citiesAt 70 = .ok (.if_icmp .ne 74, 3) := by decide +kernel
theorem dX7_citiesAt_73 : decode cX7_citiesAt 73 = .ok (.iload 4, 2) := by decide +kernel
theorem dX7_citiesAt_75 : decode cX7_citiesAt 75 = .ok (.ifCond .ne 56, 3) := by decide +kernel
theorem dX7_citiesAt_78 : decode cX7_citiesAt 78 = .ok (.aload_n 0, 1) := by decide +kernel
theorem dX7_citiesAt_79 : decode cX7_citiesAt 79 = .ok (.getfield 20, 3) := by decide +kernel
theorem dX7_citiesAt_82 : decode cX7_citiesAt 82 = .ok (.bipush 8, 2) := by decide +kernel
theorem dX7_citiesAt_84 : decode cX7_citiesAt 84 = .ok (.aload_n 0, 1) := by decide +kernel
theorem dX7_citiesAt_85 : decode cX7_citiesAt 85 = .ok (.getfield 32, 3) := by decide +kernel
theorem dX7_citiesAt_88 : decode cX7_citiesAt 88 = .ok (.iload 5, 2) := by decide +kernel
theorem dX7_citiesAt_90 : decode cX7_citiesAt 90 = .ok (.bipush 8, 2) := by decide +kernel
theorem dX7_citiesAt_92 : decode cX7_citiesAt 92 = .ok (.idiv, 1) := by decide +kernel
theorem dX7_citiesAt_93 : decode cX7_citiesAt 93 = .ok (.iaload, 1) := by decide +kernel
theorem dX7_citiesAt_94 : decode cX7_citiesAt 94 = .ok (.imul, 1) := by decide +kernel
theorem dX7_citiesAt_95 : decode cX7_citiesAt 95 = .ok (.iload 5, 2) := by decide +kernel
theorem dX7_citiesAt_97 : decode cX7_citiesAt 97 = .ok (.bipush 8, 2) := by decide +kernel
theorem dX7_citiesAt_99 : decode cX7_citiesAt 99 = .ok (.irem, 1) := by decide +kernel
theorem dX7_citiesAt_100 : decode cX7_citiesAt 100 = .ok (.iadd, 1) := by decide +kernel
theorem dX7_citiesAt_101 : decode cX7_citiesAt 101 = .ok (.iaload, 1) := by decide +kernel
theorem dX7_citiesAt_102 : decode cX7_citiesAt 102 = .ok (.iload 6, 2) := by decide +kernel
theorem dX7_citiesAt_104 : decode cX7_citiesAt 104 = .ok (.ishr, 1) := by decide +kernel
theorem dX7_citiesAt_105 : decode cX7_citiesAt 105 = .ok (.iconst 1, 1) := by decide +kernel
theorem dX7_citiesAt_106 : decode cX7_citiesAt 106 = .ok (.iand, 1) := by decide +kernel
theorem dX7_citiesAt_107 : decode cX7_citiesAt 107 = .ok (.iconst 1, 1) := by decide +kernel
theorem dX7_citiesAt_108 : decode cX7_citiesAt 108 = .ok (.if_icmp .ne 27, 3) := by decide +kernel
theorem dX7_citiesAt_111 : decode cX7_citiesAt 111 = .ok (.aload_n 0, 1) := by decide +kernel
theorem dX7_citiesAt_112 : decode cX7_citiesAt 112 = .ok (.getfield 57, 3) := by decide +kernel
theorem dX7_citiesAt_115 : decode cX7_citiesAt 115 = .ok (.iload 5, 2) := by decide +kernel
theorem dX7_citiesAt_117 : decode cX7_citiesAt 117 = .ok (.bipush 8, 2) := by decide +kernel
theorem dX7_citiesAt_119 : decode cX7_citiesAt 119 = .ok (.idiv, 1) := by decide +kernel
theorem dX7_citiesAt_120 : decode cX7_citiesAt 120 = .ok (.bipush 8, 2) := by decide +kernel
theorem dX7_citiesAt_122 : decode cX7_citiesAt 122 = .ok (.imul, 1) := by decide +kernel
theorem dX7_citiesAt_123 : decode cX7_citiesAt 123 = .ok (.iload 6, 2) := by decide +kernel
theorem dX7_citiesAt_125 : decode cX7_citiesAt 125 = .ok (.iadd, 1) := by decide +kernel
theorem dX7_citiesAt_126 : decode cX7_citiesAt 126 = .ok (.iaload, 1) := by decide +kernel
theorem dX7_citiesAt_127 : decode cX7_citiesAt 127 = .ok (.iload_n 3, 1) := by decide +kernel
theorem dX7_citiesAt_128 : decode cX7_citiesAt 128 = .ok (.if_icmp .ne 7, 3) := by decide +kernel
theorem dX7_citiesAt_131 : decode cX7_citiesAt 131 = .ok (.iconst 1, 1) := by decide +kernel
theorem dX7_citiesAt_132 : decode cX7_citiesAt 132 = .ok (.goto 4, 3) := by decide +kernel
theorem dX7_citiesAt_135 : decode cX7_citiesAt 135 = .ok (.iconst 0, 1) := by decide +kernel
theorem dX7_citiesAt_136 : decode cX7_citiesAt 136 = .ok (.istore 4, 2) := by decide +kernel
theorem dX7_citiesAt_138 : decode cX7_citiesAt 138 = .ok (.iinc 6 1, 3) := by decide +kernel
theorem dX7_citiesAt_141 : decode cX7_citiesAt 141 = .ok (.goto (-86), 3) := by decide +kernel
theorem dX7_citiesAt_144 : decode cX7_citiesAt 144 = .ok (.iinc 5 1, 3) := by decide +kernel
theorem dX7_citiesAt_147 : decode cX7_citiesAt 147 = .ok (.goto (-126), 3) := by decide +kernel
theorem dX7_citiesAt_150 : decode cX7_citiesAt 150 = .ok (.iload 4, 2) := by decide +kernel
theorem dX7_citiesAt_152 : decode cX7_citiesAt 152 = .ok (.ifCond .eq 17, 3) := by decide +kernel
theorem dX7_citiesAt_155 : decode cX7_citiesAt 155 = .ok (.aload_n 0, 1) := by decide +kernel
theorem dX7_citiesAt_156 : decode cX7_citiesAt 156 = .ok (.iload_n 3, 1) := by decide +kernel
theorem dX7_citiesAt_157 : decode cX7_citiesAt 157 = .ok (.invokevirtual 194, 3) := by decide +kernel
theorem dX7_citiesAt_160 : decode cX7_citiesAt 160 = .ok (.ifCond .eq 9, 3) := by decide +kernel
theorem dX7_citiesAt_163 : decode cX7_citiesAt 163 = .ok (.iload_n 2, 1) := by decide +kernel
theorem dX7_citiesAt_164 : decode cX7_citiesAt 164 = .ok (.iconst 1, 1) := by decide +kernel
theorem dX7_citiesAt_165 : decode cX7_citiesAt 165 = .ok (.iadd, 1) := by decide +kernel
theorem dX7_citiesAt_166 : decode cX7_citiesAt 166 = .ok (.goto 4, 3) := by decide +kernel
theorem dX7_citiesAt_169 : decode cX7_citiesAt 169 = .ok (.iload_n 2, 1) := by decide +kernel
theorem dX7_citiesAt_170 : decode cX7_citiesAt 170 = .ok (.istore_n 2, 1) := by decide +kernel
theorem dX7_citiesAt_171 : decode cX7_citiesAt 171 = .ok (.iinc 3 1, 3) := by decide +kernel
theorem dX7_citiesAt_174 : decode cX7_citiesAt 174 = .ok (.goto (-170), 3) := by decide +kernel
theorem dX7_citiesAt_177 : decode cX7_citiesAt 177 = .ok (.iload_n 2, 1) := by decide +kernel
theorem dX7_citiesAt_178 : decode cX7_citiesAt 178 = .ok (.ireturn, 1) := by decide +kernel
theorem dX7_finalWorth_0 : decode cX7_finalWorth 0 = .ok (.aload_n 0, 1) := by decide +kernel
theorem dX7_finalWorth_1 : decode cX7_finalWorth 1 = .ok (.iload_n 1, 1) := by decide +kernel
theorem dX7_finalWorth_2 : decode cX7_finalWorth 2 = .ok (.invokevirtual 172, 3) := by decide +kernel
theorem dX7_finalWorth_5 : decode cX7_finalWorth 5 = .ok (.istore_n 2, 1) := by decide +kernel
theorem dX7_finalWorth_6 : decode cX7_finalWorth 6 = .ok (.iload_n 2, 1) := by decide +kernel
theorem dX7_finalWorth_7 : decode cX7_finalWorth 7 = .ok (.iconst 1, 1) := by decide +kernel
theorem dX7_finalWorth_8 : decode cX7_finalWorth 8 = .ok (.if_icmp .ne 17, 3) := by decide +kernel
theorem dX7_finalWorth_11 : decode cX7_finalWorth 11 = .ok (.aload_n 0, 1) := by decide +kernel
theorem dX7_finalWorth_12 : decode cX7_finalWorth 12 = .ok (.iload_n 1, 1) := by decide +kernel
theorem dX7_finalWorth_13 : decode cX7_finalWorth 13 = .ok (.invokevirtual 197, 3) := by decide +kernel
theorem dX7_finalWorth_16 : decode cX7_finalWorth 16 = .ok (.aload_n 0, 1) := by decide +kernel
theorem dX7_finalWorth_17 : decode cX7_finalWorth 17 = .ok (.iload_n 1, 1) := by decide +kernel
theorem dX7_finalWorth_18 : decode cX7_finalWorth 18 = .ok (.invokevirtual 200, 3) := by decide +kernel
theorem dX7_finalWorth_21 : decode cX7_finalWorth 21 = .ok (.iadd, 1) := by decide +kernel
theorem dX7_finalWorth_22 : decode cX7_finalWorth 22 = .ok (.goto 41, 3) := by decide +kernel
theorem dX7_finalWorth_25 : decode cX7_finalWorth 25 = .ok (.iload_n 2, 1) := by decide +kernel
theorem dX7_finalWorth_26 : decode cX7_finalWorth 26 = .ok (.iconst 2, 1) := by decide +kernel
theorem dX7_finalWorth_27 : decode cX7_finalWorth 27 = .ok (.if_icmp .ne 11, 3) := by decide +kernel
theorem dX7_finalWorth_30 : decode cX7_finalWorth 30 = .ok (.aload_n 0, 1) := by decide +kernel
theorem dX7_finalWorth_31 : decode cX7_finalWorth 31 = .ok (.iload_n 1, 1) := by decide +kernel
theorem dX7_finalWorth_32 : decode cX7_finalWorth 32 = .ok (.invokevirtual 197, 3) := by decide +kernel
theorem dX7_finalWorth_35 : decode cX7_finalWorth 35 = .ok (.goto 28, 3) := by decide +kernel
theorem dX7_finalWorth_38 : decode cX7_finalWorth 38 = .ok (.iload_n 2, 1) := by decide +kernel
theorem dX7_finalWorth_39 : decode cX7_finalWorth 39 = .ok (.iconst 4, 1) := by decide +kernel
theorem dX7_finalWorth_40 : decode cX7_finalWorth 40 = .ok (.if_icmp .ne 16, 3) := by decide +kernel
theorem dX7_finalWorth_43 : decode cX7_finalWorth 43 = .ok (.iconst 1, 1) := by decide +kernel
theorem dX7_finalWorth_44 : decode cX7_finalWorth 44 = .ok (.aload_n 0, 1) := by decide +kernel
theorem dX7_finalWorth_45 : decode cX7_finalWorth 45 = .ok (.iload_n 1, 1) := by decide +kernel
theorem dX7_finalWorth_46 : decode cX7_finalWorth 46 = .ok (.bipush 8, 2) := by decide +kernel
theorem dX7_finalWorth_48 : decode cX7_finalWorth 48 = .ok (.idiv, 1) := by decide +kernel
theorem dX7_finalWorth_49 : decode cX7_finalWorth 49 = .ok (.invokevirtual 175, 3) := by decide +kernel
theorem dX7_finalWorth_52 : decode cX7_finalWorth 52 = .ok (.iadd, 1) := by decide +kernel
theorem dX7_finalWorth_53 : decode cX7_finalWorth 53 = .ok (.goto 10, 3) := by decide +kernel
theorem dX7_finalWorth_56 : decode cX7_finalWorth 56 = .ok (.iconst 3, 1) := by decide +kernel
theorem dX7_finalWorth_57 : decode cX7_finalWorth 57 = .ok (.aload_n 0, 1) := by decide +kernel
theorem dX7_finalWorth_58 : decode cX7_finalWorth 58 = .ok (.iload_n 1, 1) := by decide +kernel
theorem dX7_finalWorth_59 : decode cX7_finalWorth 59 = .ok (.invokevirtual 223, 3) := by decide +kernel
theorem dX7_finalWorth_62 : decode cX7_finalWorth 62 = .ok (.imul, 1) := by decide +kernel
theorem dX7_finalWorth_63 : decode cX7_finalWorth 63 = .ok (.ireturn, 1) := by decide +kernel
theorem dX7_count_0 : decode cX7_count 0 = .ok (.aload_n 0, 1) := by decide +kernel
theorem dX7_count_1 : decode cX7_count 1 = .ok (.invokevirtual 188, 3) := by decide +kernel
theorem dX7_count_4 : decode cX7_count 4 = .ok (.iconst 0, 1) := by decide +kernel
theorem dX7_count_5 : decode cX7_count 5 = .ok (.istore_n 1, 1) := by decide +kernel
theorem dX7_count_6 : decode cX7_count 6 = .ok (.iload_n 1, 1) := by decide +kernel
theorem dX7_count_7 : decode cX7_count 7 = .ok (.iconst 3, 1) := by decide +kernel
theorem dX7_count_8 : decode cX7_count 8 = .ok (.if_icmp .ge 21, 3) := by decide +kernel
theorem dX7_count_11 : decode cX7_count 11 = .ok (.aload_n 0, 1) := by decide +kernel
theorem dX7_count_12 : decode cX7_count 12 = .ok (.getfield 63, 3) := by decide +kernel
theorem dX7_count_15 : decode cX7_count 15 = .ok (.iload_n 1, 1) := by decide +kernel
theorem dX7_count_16 : decode cX7_count 16 = .ok (.aload_n 0, 1) := by decide +kernel
theorem dX7_count_17 : decode cX7_count 17 = .ok (.getfield 44, 3) := by decide +kernel
theorem dX7_count_20 : decode cX7_count 20 = .ok (.iload_n 1, 1) := by decide +kernel
theorem dX7_count_21 : decode cX7_count 21 = .ok (.iaload, 1) := by decide +kernel
theorem dX7_count_22 : decode cX7_count 22 = .ok (.iastore, 1) := by decide +kernel
theorem dX7_count_23 : decode cX7_count 23 = .ok (.iinc 1 1, 3) := by decide +kernel
theorem dX7_count_26 : decode cX7_count 26 = .ok (.goto (-20), 3) := by decide +kernel
theorem dX7_count_29 : decode cX7_count 29 = .ok (.iconst 0, 1) := by decide +kernel
theorem dX7_count_30 : decode cX7_count 30 = .ok (.istore_n 1, 1) := by decide +kernel
theorem dX7_count_31 : decode cX7_count 31 = .ok (.iload_n 1, 1) := by decide +kernel
theorem dX7_count_32 : decode cX7_count 32 = .ok (.bipush 8, 2) := by decide +kernel
theorem dX7_count_34 : decode cX7_count 34 = .ok (.aload_n 0, 1) := by decide +kernel
theorem dX7_count_35 : decode cX7_count 35 = .ok (.getfield 122, 3) := by decide +kernel
theorem dX7_count_38 : decode cX7_count 38 = .ok (.imul, 1) := by decide +kernel
theorem dX7_count_39 : decode cX7_count 39 = .ok (.if_icmp .ge 89, 3) := by decide +kernel
theorem dX7_count_42 : decode cX7_count 42 = .ok (.aload_n 0, 1) := by decide +kernel
theorem dX7_count_43 : decode cX7_count 43 = .ok (.iload_n 1, 1) := by decide +kernel
theorem dX7_count_44 : decode cX7_count 44 = .ok (.invokevirtual 172, 3) := by decide +kernel
theorem dX7_count_47 : decode cX7_count 47 = .ok (.ifCond .le 75, 3) := by decide +kernel
theorem dX7_count_50 : decode cX7_count 50 = .ok (.aload_n 0, 1) := by decide +kernel
theorem dX7_count_51 : decode cX7_count 51 = .ok (.getfield 57, 3) := by decide +kernel
theorem dX7_count_54 : decode cX7_count 54 = .ok (.iload_n 1, 1) := by decide +kernel
theorem dX7_count_55 : decode cX7_count 55 = .ok (.iaload, 1) := by decide +kernel
theorem dX7_count_56 : decode cX7_count 56 = .ok (.iload_n 1, 1) := by decide +kernel
theorem dX7_count_57 : decode cX7_count 57 = .ok (.if_icmp .ne 65, 3) := by decide +kernel
theorem dX7_count_60 : decode cX7_count 60 = .ok (.aload_n 0, 1) := by decide +kernel
theorem dX7_count_61 : decode cX7_count 61 = .ok (.iload_n 1, 1) := by decide +kernel
theorem dX7_count_62 : decode cX7_count 62 = .ok (.invokevirtual 191, 3) := by decide +kernel
theorem dX7_count_65 : decode cX7_count 65 = .ok (.ifCond .eq 57, 3) := by decide +kernel
theorem dX7_count_68 : decode cX7_count 68 = .ok (.aload_n 0, 1) := by decide +kernel
theorem dX7_count_69 : decode cX7_count 69 = .ok (.iload_n 1, 1) := by decide +kernel
theorem dX7_count_70 : decode cX7_count 70 = .ok (.invokevirtual 226, 3) := by decide +kernel
theorem dX7_count_73 : decode cX7_count 73 = .ok (.istore_n 2, 1) := by decide +kernel
theorem dX7_count_74 : decode cX7_count 74 = .ok (.iconst 0, 1) := by decide +kernel
theorem dX7_count_75 : decode cX7_count 75 = .ok (.istore_n 3, 1) := by decide +kernel
theorem dX7_count_76 : decode cX7_count 76 = .ok (.iload_n 3, 1) := by decide +kernel
theorem dX7_count_77 : decode cX7_count 77 = .ok (.aload_n 0, 1) := by decide +kernel
theorem dX7_count_78 : decode cX7_count 78 = .ok (.getfield 160, 3) := by decide +kernel
theorem dX7_count_81 : decode cX7_count 81 = .ok (.if_icmp .ge 41, 3) := by decide +kernel
theorem dX7_count_84 : decode cX7_count 84 = .ok (.aload_n 0, 1) := by decide +kernel
theorem dX7_count_85 : decode cX7_count 85 = .ok (.getfield 63, 3) := by decide +kernel
theorem dX7_count_88 : decode cX7_count 88 = .ok (.iload_n 3, 1) := by decide +kernel
theorem dX7_count_89 : decode cX7_count 89 = .ok (.aload_n 0, 1) := by decide +kernel
theorem dX7_count_90 : decode cX7_count 90 = .ok (.iload_n 1, 1) := by decide +kernel
theorem dX7_count_91 : decode cX7_count 91 = .ok (.iload_n 3, 1) := by decide +kernel
theorem dX7_count_92 : decode cX7_count 92 = .ok (.invokevirtual 203, 3) := by decide +kernel
theorem dX7_count_95 : decode cX7_count 95 = .ok (.ifCond .eq 14, 3) := by decide +kernel
theorem dX7_count_98 : decode cX7_count 98 = .ok (.aload_n 0, 1) := by decide +kernel
theorem dX7_count_99 : decode cX7_count 99 = .ok (.getfield 63, 3) := by decide +kernel
theorem dX7_count_102 : decode cX7_count 102 = .ok (.iload_n 3, 1) := by decide +kernel
theorem dX7_count_103 : decode cX7_count 103 = .ok (.iaload, 1) := by decide +kernel
theorem dX7_count_104 : decode cX7_count 104 = .ok (.iload_n 2, 1) := by decide +kernel
theorem dX7_count_105 : decode cX7_count 105 = .ok (.iadd, 1) := by decide +kernel
theorem dX7_count_106 : decode cX7_count 106 = .ok (.goto 9, 3) := by decide +kernel
theorem dX7_count_109 : decode cX7_count 109 = .ok (.aload_n 0, 1) := by decide +kernel
theorem dX7_count_110 : decode cX7_count 110 = .ok (.getfield 63, 3) := by decide +kernel
theorem dX7_count_113 : decode cX7_count 113 = .ok (.iload_n 3, 1) := by decide +kernel
theorem dX7_count_114 : decode cX7_count 114 = .ok (.iaload, 1) := by decide +kernel
theorem dX7_count_115 : decode cX7_count 115 = .ok (.iastore, 1) := by decide +kernel
theorem dX7_count_116 : decode cX7_count 116 = .ok (.iinc 3 1, 3) := by decide +kernel
theorem dX7_count_119 : decode cX7_count 119 = .ok (.goto (-43), 3) := by decide +kernel
theorem dX7_count_122 : decode cX7_count 122 = .ok (.iinc 1 1, 3) := by decide +kernel
theorem dX7_count_125 : decode cX7_count 125 = .ok (.goto (-94), 3) := by decide +kernel
theorem dX7_count_128 : decode cX7_count 128 = .ok (.return_, 1) := by decide +kernel
theorem dX7_player_0 : decode cX7_player 0 = .ok (.aload_n 0, 1) := by decide +kernel
theorem dX7_player_1 : decode cX7_player 1 = .ok (.getfield 101, 3) := by decide +kernel
theorem dX7_player_4 : decode cX7_player 4 = .ok (.ifCond .eq 24, 3) := by decide +kernel
theorem dX7_player_7 : decode cX7_player 7 = .ok (.iload_n 1, 1) := by decide +kernel
theorem dX7_player_8 : decode cX7_player 8 = .ok (.ifCond .lt 20, 3) := by decide +kernel
theorem dX7_player_11 : decode cX7_player 11 = .ok (.iload_n 1, 1) := by decide +kernel
theorem dX7_player_12 : decode cX7_player 12 = .ok (.aload_n 0, 1) := by decide +kernel
theorem dX7_player_13 : decode cX7_player 13 = .ok (.getfield 160, 3) := by decide +kernel
theorem dX7_player_16 : decode cX7_player 16 = .ok (.if_icmp .ge 12, 3) := by decide +kernel
theorem dX7_player_19 : decode cX7_player 19 = .ok (.iload_n 2, 1) := by decide +kernel
theorem dX7_player_20 : decode cX7_player 20 = .ok (.ifCond .lt 8, 3) := by decide +kernel
theorem dX7_player_23 : decode cX7_player 23 = .ok (.iload_n 2, 1) := by decide +kernel
theorem dX7_player_24 : decode cX7_player 24 = .ok (.iconst 2, 1) := by decide +kernel
theorem dX7_player_25 : decode cX7_player 25 = .ok (.if_icmp .le 5, 3) := by decide +kernel
theorem dX7_player_28 : decode cX7_player 28 = .ok (.iconst (-1), 1) := by decide +kernel
theorem dX7_player_29 : decode cX7_player 29 = .ok (.ireturn, 1) := by decide +kernel
theorem dX7_player_30 : decode cX7_player 30 = .ok (.iload_n 2, 1) := by decide +kernel
theorem dX7_player_31 : decode cX7_player 31 = .ok (.iconst 2, 1) := by decide +kernel
theorem dX7_player_32 : decode cX7_player 32 = .ok (.if_icmp .ge 23, 3) := by decide +kernel
theorem dX7_player_35 : decode cX7_player 35 = .ok (.iload_n 2, 1) := by decide +kernel
theorem dX7_player_36 : decode cX7_player 36 = .ok (.ifCond .ne 12, 3) := by decide +kernel
theorem dX7_player_39 : decode cX7_player 39 = .ok (.aload_n 0, 1) := by decide +kernel
theorem dX7_player_40 : decode cX7_player 40 = .ok (.getfield 44, 3) := by decide +kernel
theorem dX7_player_43 : decode cX7_player 43 = .ok (.iload_n 1, 1) := by decide +kernel
theorem dX7_player_44 : decode cX7_player 44 = .ok (.iaload, 1) := by decide +kernel
theorem dX7_player_45 : decode cX7_player 45 = .ok (.goto 9, 3) := by decide +kernel
theorem dX7_player_48 : decode cX7_player 48 = .ok (.aload_n 0, 1) := by decide +kernel
theorem dX7_player_49 : decode cX7_player 49 = .ok (.getfield 47, 3) := by decide +kernel
theorem dX7_player_52 : decode cX7_player 52 = .ok (.iload_n 1, 1) := by decide +kernel
theorem dX7_player_53 : decode cX7_player 53 = .ok (.iaload, 1) := by decide +kernel
theorem dX7_player_54 : decode cX7_player 54 = .ok (.ireturn, 1) := by decide +kernel
theorem dX7_player_55 : decode cX7_player 55 = .ok (.aload_n 0, 1) := by decide +kernel
theorem dX7_player_56 : decode cX7_player 56 = .ok (.invokevirtual 229, 3) := by decide +kernel
theorem dX7_player_59 : decode cX7_player 59 = .ok (.aload_n 0, 1) := by decide +kernel
theorem dX7_player_60 : decode cX7_player 60 = .ok (.getfield 63, 3) := by decide +kernel
theorem dX7_player_63 : decode cX7_player 63 = .ok (.iload_n 1, 1) := by decide +kernel
theorem dX7_player_64 : decode cX7_player 64 = .ok (.iaload, 1) := by decide +kernel
theorem dX7_player_65 : decode cX7_player 65 = .ok (.ireturn, 1) := by decide +kernel
theorem dX7_restore_0 : decode cX7_restore 0 = .ok (.sipush 210, 3) := by decide +kernel
theorem dX7_restore_3 : decode cX7_restore 3 = .ok (.iload_n 1, 1) := by decide +kernel
theorem dX7_restore_4 : decode cX7_restore 4 = .ok (.imul, 1) := by decide +kernel
theorem dX7_restore_5 : decode cX7_restore 5 = .ok (.istore_n 2, 1) := by decide +kernel
theorem dX7_restore_6 : decode cX7_restore 6 = .ok (.iconst 0, 1) := by decide +kernel
theorem dX7_restore_7 : decode cX7_restore 7 = .ok (.istore_n 3, 1) := by decide +kernel
theorem dX7_restore_8 : decode cX7_restore 8 = .ok (.iload_n 3, 1) := by decide +kernel
theorem dX7_restore_9 : decode cX7_restore 9 = .ok (.sipush 192, 3) := by decide +kernel
theorem dX7_restore_12 : decode cX7_restore 12 = .ok (.if_icmp .ge 23, 3) := by decide +kernel
theorem dX7_restore_15 : decode cX7_restore 15 = .ok (.aload_n 0, 1) := by decide +kernel
theorem dX7_restore_16 : decode cX7_restore 16 = .ok (.getfield 41, 3) := by decide +kernel
theorem dX7_restore_19 : decode cX7_restore 19 = .ok (.iload_n 3, 1) := by decide +kernel
theorem dX7_restore_20 : decode cX7_restore 20 = .ok (.aload_n 0, 1) := by decide +kernel
theorem dX7_restore_21 : decode cX7_restore 21 = .ok (.getfield 60, 3) := by decide +kernel
theorem dX7_restore_24 : decode cX7_restore 24 = .ok (.iload_n 2, 1) := by decide +kernel
theorem dX7_restore_25 : decode cX7_restore 25 = .ok (.iload_n 3, 1) := by decide +kernel
theorem dX7_restore_26 : decode cX7_restore 26 = .ok (.iadd, 1) := by decide +kernel
theorem dX7_restore_27 : decode cX7_restore 27 = .ok (.iaload, 1) := by decide +kernel
theorem dX7_restore_28 : decode cX7_restore 28 = .ok (.iastore, 1) := by decide +kernel
theorem dX7_restore_29 : decode cX7_restore 29 = .ok (.iinc 3 1, 3) := by decide +kernel
theorem dX7_restore_32 : decode cX7_restore 32 = .ok (.goto (-24), 3) := by decide +kernel
theorem dX7_restore_35 : decode cX7_restore 35 = .ok (.iconst 0, 1) := by decide +kernel
theorem dX7_restore_36 : decode cX7_restore 36 = .ok (.istore_n 3, 1) := by decide +kernel
theorem dX7_restore_37 : decode cX7_restore 37 = .ok (.iload_n 3, 1) := by decide +kernel
theorem dX7_restore_38 : decode cX7_restore 38 = .ok (.iconst 3, 1) := by decide +kernel
theorem dX7_restore_39 : decode cX7_restore 39 = .ok (.if_icmp .ge 45, 3) := by decide +kernel
theorem dX7_restore_42 : decode cX7_restore 42 = .ok (.aload_n 0, 1) := by decide +kernel
theorem dX7_restore_43 : decode cX7_restore 43 = .ok (.getfield 44, 3) := by decide +kernel
theorem dX7_restore_46 : decode cX7_restore 46 = .ok (.iload_n 3, 1) := by decide +kernel
theorem dX7_restore_47 : decode cX7_restore 47 = .ok (.aload_n 0, 1) := by decide +kernel
theorem dX7_restore_48 : decode cX7_restore 48 = .ok (.getfield 60, 3) := by decide +kernel
theorem dX7_restore_51 : decode cX7_restore 51 = .ok (.iload_n 2, 1) := by decide +kernel
theorem dX7_restore_52 : decode cX7_restore 52 = .ok (.sipush 192, 3) := by decide +kernel
theorem dX7_restore_55 : decode cX7_restore 55 = .ok (.iadd, 1) := by decide +kernel
theorem dX7_restore_56 : decode cX7_restore 56 = .ok (.iload_n 3, 1) := by decide +kernel
theorem dX7_restore_57 : decode cX7_restore 57 = .ok (.iadd, 1) := by decide +kernel
theorem dX7_restore_58 : decode cX7_restore 58 = .ok (.iaload, 1) := by decide +kernel
theorem dX7_restore_59 : decode cX7_restore 59 = .ok (.iastore, 1) := by decide +kernel
theorem dX7_restore_60 : decode cX7_restore 60 = .ok (.aload_n 0, 1) := by decide +kernel
theorem dX7_restore_61 : decode cX7_restore 61 = .ok (.getfield 47, 3) := by decide +kernel
theorem dX7_restore_64 : decode cX7_restore 64 = .ok (.iload_n 3, 1) := by decide +kernel
theorem dX7_restore_65 : decode cX7_restore 65 = .ok (.aload_n 0, 1) := by decide +kernel
theorem dX7_restore_66 : decode cX7_restore 66 = .ok (.getfield 60, 3) := by decide +kernel
theorem dX7_restore_69 : decode cX7_restore 69 = .ok (.iload_n 2, 1) := by decide +kernel
theorem dX7_restore_70 : decode cX7_restore 70 = .ok (.sipush 195, 3) := by decide +kernel
theorem dX7_restore_73 : decode cX7_restore 73 = .ok (.iadd, 1) := by decide +kernel
theorem dX7_restore_74 : decode cX7_restore 74 = .ok (.iload_n 3, 1) := by decide +kernel
theorem dX7_restore_75 : decode cX7_restore 75 = .ok (.iadd, 1) := by decide +kernel
theorem dX7_restore_76 : decode cX7_restore 76 = .ok (.iaload, 1) := by decide +kernel
theorem dX7_restore_77 : decode cX7_restore 77 = .ok (.iastore, 1) := by decide +kernel
theorem dX7_restore_78 : decode cX7_restore 78 = .ok (.iinc 3 1, 3) := by decide +kernel
theorem dX7_restore_81 : decode cX7_restore 81 = .ok (.goto (-44), 3) := by decide +kernel
theorem dX7_restore_84 : decode cX7_restore 84 = .ok (.aload_n 0, 1) := by decide +kernel
theorem dX7_restore_85 : decode cX7_restore 85 = .ok (.aload_n 0, 1) := by decide +kernel
theorem dX7_restore_86 : decode cX7_restore 86 = .ok (.getfield 60, 3) := by decide +kernel
theorem dX7_restore_89 : decode cX7_restore 89 = .ok (.iload_n 2, 1) := by decide +kernel
theorem dX7_restore_90 : decode cX7_restore 90 = .ok (.sipush 198, 3) := by decide +kernel
theorem dX7_restore_93 : decode cX7_restore 93 = .ok (.iadd, 1) := by decide +kernel
theorem dX7_restore_94 : decode cX7_restore 94 = .ok (.iaload, 1) := by decide +kernel
theorem dX7_restore_95 : decode cX7_restore 95 = .ok (.putfield 148, 3) := by decide +kernel
theorem dX7_restore_98 : decode cX7_restore 98 = .ok (.aload_n 0, 1) := by decide +kernel
theorem dX7_restore_99 : decode cX7_restore 99 = .ok (.aload_n 0, 1) := by decide +kernel
theorem dX7_restore_100 : decode cX7_restore 100 = .ok (.getfield 60, 3) := by decide +kernel
theorem dX7_restore_103 : decode cX7_restore 103 = .ok (.iload_n 2, 1) := by decide +kernel
theorem dX7_restore_104 : decode cX7_restore 104 = .ok (.sipush 199, 3) := by decide +kernel
theorem dX7_restore_107 : decode cX7_restore 107 = .ok (.iadd, 1) := by decide +kernel
theorem dX7_restore_108 : decode cX7_restore 108 = .ok (.iaload, 1) := by decide +kernel
theorem dX7_restore_109 : decode cX7_restore 109 = .ok (.putfield 139, 3) := by decide +kernel
theorem dX7_restore_112 : decode cX7_restore 112 = .ok (.aload_n 0, 1) := by decide +kernel
theorem dX7_restore_113 : decode cX7_restore 113 = .ok (.aload_n 0, 1) := by decide +kernel
theorem dX7_restore_114 : decode cX7_restore 114 = .ok (.getfield 60, 3) := by decide +kernel
theorem dX7_restore_117 : decode cX7_restore 117 = .ok (.iload_n 2, 1) := by decide +kernel
theorem dX7_restore_118 : decode cX7_restore 118 = .ok (.sipush 200, 3) := by decide +kernel
theorem dX7_restore_121 : decode cX7_restore 121 = .ok (.iadd, 1) := by decide +kernel
theorem dX7_restore_122 : decode cX7_restore 122 = .ok (.iaload, 1) := by decide +kernel
theorem dX7_restore_123 : decode cX7_restore 123 = .ok (.putfield 50, 3) := by decide +kernel
theorem dX7_restore_126 : decode cX7_restore 126 = .ok (.aload_n 0, 1) := by decide +kernel
theorem dX7_restore_127 : decode cX7_restore 127 = .ok (.aload_n 0, 1) := by decide +kernel
theorem dX7_restore_128 : decode cX7_restore 128 = .ok (.getfield 60, 3) := by decide +kernel
theorem dX7_restore_131 : decode cX7_restore 131 = .ok (.iload_n 2, 1) := by decide +kernel
theorem dX7_restore_132 : decode cX7_restore 132 = .ok (.sipush 201, 3) := by decide +kernel
theorem dX7_restore_135 : decode cX7_restore 135 = .ok (.iadd, 1) := by decide +kernel
theorem dX7_restore_136 : decode cX7_restore 136 = .ok (.iaload, 1) := by decide +kernel
theorem dX7_restore_137 : decode cX7_restore 137 = .ok (.putfield 145, 3) := by decide +kernel
theorem dX7_restore_140 : decode cX7_restore 140 = .ok (.aload_n 0, 1) := by decide +kernel
theorem dX7_restore_141 : decode cX7_restore 141 = .ok (.aload_n 0, 1) := by decide +kernel
theorem dX7_restore_142 : decode cX7_restore 142 = .ok (.getfield 60, 3) := by decide +kernel
theorem dX7_restore_145 : decode cX7_restore 145 = .ok (.iload_n 2, 1) := by decide +kernel
theorem dX7_restore_146 : decode cX7_restore 146 = .ok (.sipush 202, 3) := by decide +kernel
theorem dX7_restore_149 : decode cX7_restore 149 = .ok (.iadd, 1) := by decide +kernel
theorem dX7_restore_150 : decode cX7_restore 150 = .ok (.iaload, 1) := by decide +kernel
theorem dX7_restore_151 : decode cX7_restore 151 = .ok (.iconst 1, 1) := by decide +kernel
theorem dX7_restore_152 : decode cX7_restore 152 = .ok (.if_icmp .ne 7, 3) := by decide +kernel
theorem dX7_restore_155 : decode cX7_restore 155 = .ok (.iconst 1, 1) := by decide +kernel
theorem dX7_restore_156 : decode cX7_restore 156 = .ok (.goto 4, 3) := by decide +kernel
theorem dX7_restore_159 : decode cX7_restore 159 = .ok (.iconst 0, 1) := by decide +kernel
theorem dX7_restore_160 : decode cX7_restore 160 = .ok (.putfield 151, 3) := by decide +kernel
theorem dX7_restore_163 : decode cX7_restore 163 = .ok (.aload_n 0, 1) := by decide +kernel
theorem dX7_restore_164 : decode cX7_restore 164 = .ok (.getfield 122, 3) := by decide +kernel
theorem dX7_restore_167 : decode cX7_restore 167 = .ok (.aload_n 0, 1) := by decide +kernel
theorem dX7_restore_168 : decode cX7_restore 168 = .ok (.getfield 60, 3) := by decide +kernel
theorem dX7_restore_171 : decode cX7_restore 171 = .ok (.iload_n 2, 1) := by decide +kernel
theorem dX7_restore_172 : decode cX7_restore 172 = .ok (.sipush 203, 3) := by decide +kernel
theorem dX7_restore_175 : decode cX7_restore 175 = .ok (.iadd, 1) := by decide +kernel
theorem dX7_restore_176 : decode cX7_restore 176 = .ok (.iaload, 1) := by decide +kernel
theorem dX7_restore_177 : decode cX7_restore 177 = .ok (.if_icmp .le 53, 3) := by decide +kernel
theorem dX7_restore_180 : decode cX7_restore 180 = .ok (.aload_n 0, 1) := by decide +kernel
theorem dX7_restore_181 : decode cX7_restore 181 = .ok (.dup, 1) := by decide +kernel
theorem dX7_restore_182 : decode cX7_restore 182 = .ok (.getfield 122, 3) := by decide +kernel
theorem dX7_restore_185 : decode cX7_restore 185 = .ok (.iconst 1, 1) := by decide +kernel
theorem dX7_restore_186 : decode cX7_restore 186 = .ok (.isub, 1) := by decide +kernel
theorem dX7_restore_187 : decode cX7_restore 187 = .ok (.putfield 122, 3) := by decide +kernel
theorem dX7_restore_190 : decode cX7_restore 190 = .ok (.aload_n 0, 1) := by decide +kernel
theorem dX7_restore_191 : decode cX7_restore 191 = .ok (.getfield 38, 3) := by decide +kernel
theorem dX7_restore_194 : decode cX7_restore 194 = .ok (.bipush 19, 2) := by decide +kernel
theorem dX7_restore_196 : decode cX7_restore 196 = .ok (.aload_n 0, 1) := by decide +kernel
theorem dX7_restore_197 : decode cX7_restore 197 = .ok (.getfield 29, 3) := by decide +kernel
theorem dX7_restore_200 : decode cX7_restore 200 = .ok (.aload_n 0, 1) := by decide +kernel
theorem dX7_restore_201 : decode cX7_restore 201 = .ok (.getfield 122, 3) := by decide +kernel
theorem dX7_restore_204 : decode cX7_restore 204 = .ok (.iaload, 1) := by decide +kernel
theorem dX7_restore_205 : decode cX7_restore 205 = .ok (.imul, 1) := by decide +kernel
theorem dX7_restore_206 : decode cX7_restore 206 = .ok (.aload_n 0, 1) := by decide +kernel
theorem dX7_restore_207 : decode cX7_restore 207 = .ok (.getfield 26, 3) := by decide +kernel
theorem dX7_restore_210 : decode cX7_restore 210 = .ok (.aload_n 0, 1) := by decide +kernel
theorem dX7_restore_211 : decode cX7_restore 211 = .ok (.getfield 122, 3) := by decide +kernel
theorem dX7_restore_214 : decode cX7_restore 214 = .ok (.iaload, 1) := by decide +kernel
theorem dX7_restore_215 : decode cX7_restore 215 = .ok (.iadd, 1) := by decide +kernel
theorem dX7_restore_216 : decode cX7_restore 216 = .ok (.sipush 180, 3) := by decide +kernel
theorem dX7_restore_219 : decode cX7_restore 219 = .ok (.iadd, 1) := by decide +kernel
theorem dX7_restore_220 : decode cX7_restore 220 = .ok (.iconst (-1), 1) := by decide +kernel
theorem dX7_restore_221 : decode cX7_restore 221 = .ok (.iastore, 1) := by decide +kernel
theorem dX7_restore_222 : decode cX7_restore 222 = .ok (.aload_n 0, 1) := by decide +kernel
theorem dX7_restore_223 : decode cX7_restore 223 = .ok (.iconst 0, 1) := by decide +kernel
theorem dX7_restore_224 : decode cX7_restore 224 = .ok (.putfield 154, 3) := by decide +kernel
theorem dX7_restore_227 : decode cX7_restore 227 = .ok (.goto (-64), 3) := by decide +kernel
theorem dX7_restore_230 : decode cX7_restore 230 = .ok (.return_, 1) := by decide +kernel
theorem dX7_ahead_0 : decode cX7_ahead 0 = .ok (.ldc 232, 2) := by decide +kernel
theorem dX7_ahead_2 : decode cX7_ahead 2 = .ok (.istore_n 3, 1) := by decide +kernel
theorem dX7_ahead_3 : decode cX7_ahead 3 = .ok (.iconst 0, 1) := by decide +kernel
theorem dX7_ahead_4 : decode cX7_ahead 4 = .ok (.istore 4, 2) := by decide +kernel
theorem dX7_ahead_6 : decode cX7_ahead 6 = .ok (.iload 4, 2) := by decide +kernel
theorem dX7_ahead_8 : decode cX7_ahead 8 = .ok (.aload_n 0, 1) := by decide +kernel
theorem dX7_ahead_9 : decode cX7_ahead 9 = .ok (.getfield 160, 3) := by decide +kernel
theorem dX7_ahead_12 : decode cX7_ahead 12 = .ok (.if_icmp .ge 32, 3) := by decide +kernel
theorem dX7_ahead_15 : decode cX7_ahead 15 = .ok (.iload 4, 2) := by decide +kernel
theorem dX7_ahead_17 : decode cX7_ahead 17 = .ok (.iload_n 2, 1) := by decide +kernel
theorem dX7_ahead_18 : decode cX7_ahead 18 = .ok (.if_icmp .eq 18, 3) := by decide +kernel
theorem dX7_ahead_21 : decode cX7_ahead 21 = .ok (.aload_n 1, 1) := by decide +kernel
theorem dX7_ahead_22 : decode cX7_ahead 22 = .ok (.iload 4, 2) := by decide +kernel
theorem dX7_ahead_24 : decode cX7_ahead 24 = .ok (.iaload, 1) := by decide +kernel
theorem dX7_ahead_25 : decode cX7_ahead 25 = .ok (.iload_n 3, 1) := by decide +kernel
theorem dX7_ahead_26 : decode cX7_ahead 26 = .ok (.if_icmp .le 10, 3) := by decide +kernel
theorem dX7_ahead_29 : decode cX7_ahead 29 = .ok (.aload_n 1, 1) := by decide +kernel
theorem dX7_ahead_30 : decode cX7_ahead 30 = .ok (.iload 4, 2) := by decide +kernel
theorem dX7_ahead_32 : decode cX7_ahead 32 = .ok (.iaload, 1) := by decide +kernel
theorem dX7_ahead_33 : decode cX7_ahead 33 = .ok (.goto 4, 3) := by decide +kernel
theorem dX7_ahead_36 : decode cX7_ahead 36 = .ok (.iload_n 3, 1) := by decide +kernel
theorem dX7_ahead_37 : decode cX7_ahead 37 = .ok (.istore_n 3, 1) := by decide +kernel
theorem dX7_ahead_38 : decode cX7_ahead 38 = .ok (.iinc 4 1, 3) := by decide +kernel
theorem dX7_ahead_41 : decode cX7_ahead 41 = .ok (.goto (-35), 3) := by decide +kernel
theorem dX7_ahead_44 : decode cX7_ahead 44 = .ok (.aload_n 1, 1) := by decide +kernel
theorem dX7_ahead_45 : decode cX7_ahead 45 = .ok (.iload_n 2, 1) := by decide +kernel
theorem dX7_ahead_46 : decode cX7_ahead 46 = .ok (.iaload, 1) := by decide +kernel
theorem dX7_ahead_47 : decode cX7_ahead 47 = .ok (.iload_n 3, 1) := by decide +kernel
theorem dX7_ahead_48 : decode cX7_ahead 48 = .ok (.isub, 1) := by decide +kernel
theorem dX7_ahead_49 : decode cX7_ahead 49 = .ok (.ireturn, 1) := by decide +kernel
theorem dX7_copy_0 : decode cX7_copy 0 = .ok (.sipush 210, 3) := by decide +kernel
theorem dX7_copy_3 : decode cX7_copy 3 = .ok (.iload_n 1, 1) := by decide +kernel
theorem dX7_copy_4 : decode cX7_copy 4 = .ok (.imul, 1) := by decide +kernel
theorem dX7_copy_5 : decode cX7_copy 5 = .ok (.istore_n 2, 1) := by decide +kernel
theorem dX7_copy_6 : decode cX7_copy 6 = .ok (.iconst 0, 1) := by decide +kernel
theorem dX7_copy_7 : decode cX7_copy 7 = .ok (.istore_n 3, 1) := by decide +kernel
theorem dX7_copy_8 : decode cX7_copy 8 = .ok (.iload_n 3, 1) := by decide +kernel
theorem dX7_copy_9 : decode cX7_copy 9 = .ok (.sipush 192, 3) := by decide +kernel
theorem dX7_copy_12 : decode cX7_copy 12 = .ok (.if_icmp .ge 23, 3) := by decide +kernel
theorem dX7_copy_15 : decode cX7_copy 15 = .ok (.aload_n 0, 1) := by decide +kernel
theorem dX7_copy_16 : decode cX7_copy 16 = .ok (.getfield 60, 3) := by decide +kernel
theorem dX7_copy_19 : decode cX7_copy 19 = .ok (.iload_n 2, 1) := by decide +kernel
theorem dX7_copy_20 : decode cX7_copy 20 = .ok (.iload_n 3, 1) := by decide +kernel
theorem dX7_copy_21 : decode cX7_copy 21 = .ok (.iadd, 1) := by decide +kernel
theorem dX7_copy_22 : decode cX7_copy 22 = .ok (.aload_n 0, 1) := by decide +kernel
theorem dX7_copy_23 : decode cX7_copy 23 = .ok (.getfield 41, 3) := by decide +kernel
theorem dX7_copy_26 : decode cX7_copy 26 = .ok (.iload_n 3, 1) := by decide +kernel
theorem dX7_copy_27 : decode cX7_copy 27 = .ok (.iaload, 1) := by decide +kernel
theorem dX7_copy_28 : decode cX7_copy 28 = .ok (.iastore, 1) := by decide +kernel
theorem dX7_copy_29 : decode cX7_copy 29 = .ok (.iinc 3 1, 3) := by decide +kernel
theorem dX7_copy_32 : decode cX7_copy 32 = .ok (.goto (-24), 3) := by decide +kernel
theorem dX7_copy_35 : decode cX7_copy 35 = .ok (.iconst 0, 1) := by decide +kernel
theorem dX7_copy_36 : decode cX7_copy 36 = .ok (.istore_n 3, 1) := by decide +kernel
theorem dX7_copy_37 : decode cX7_copy 37 = .ok (.iload_n 3, 1) := by decide +kernel
theorem dX7_copy_38 : decode cX7_copy 38 = .ok (.iconst 3, 1) := by decide +kernel
theorem dX7_copy_39 : decode cX7_copy 39 = .ok (.if_icmp .ge 45, 3) := by decide +kernel
theorem dX7_copy_42 : decode cX7_copy 42 = .ok (.aload_n 0, 1) := by decide +kernel
theorem dX7_copy_43 : decode cX7_copy 43 = .ok (.getfield 60, 3) := by decide +kernel
theorem dX7_copy_46 : decode cX7_copy 46 = .ok (.iload_n 2, 1) := by decide +kernel
theorem dX7_copy_47 : decode cX7_copy 47 = .ok (.sipush 192, 3) := by decide +kernel
theorem dX7_copy_50 : decode cX7_copy 50 = .ok (.iadd, 1) := by decide +kernel
theorem dX7_copy_51 : decode cX7_copy 51 = .ok (.iload_n 3, 1) := by decide +kernel
theorem dX7_copy_52 : decode cX7_copy 52 = .ok (.iadd, 1) := by decide +kernel
theorem dX7_copy_53 : decode cX7_copy 53 = .ok (.aload_n 0, 1) := by decide +kernel
theorem dX7_copy_54 : decode cX7_copy 54 = .ok (.getfield 44, 3) := by decide +kernel
theorem dX7_copy_57 : decode cX7_copy 57 = .ok (.iload_n 3, 1) := by decide +kernel
theorem dX7_copy_58 : decode cX7_copy 58 = .ok (.iaload, 1) := by decide +kernel
theorem dX7_copy_59 : decode cX7_copy 59 = .ok (.iastore, 1) := by decide +kernel
theorem dX7_copy_60 : decode cX7_copy 60 = .ok (.aload_n 0, 1) := by decide +kernel
theorem dX7_copy_61 : decode cX7_copy 61 = .ok (.getfield 60, 3) := by decide +kernel
theorem dX7_copy_64 : decode cX7_copy 64 = .ok (.iload_n 2, 1) := by decide +kernel
theorem dX7_copy_65 : decode cX7_copy 65 = .ok (.sipush 195, 3) := by decide +kernel
theorem dX7_copy_68 : decode cX7_copy 68 = .ok (.iadd, 1) := by decide +kernel
theorem dX7_copy_69 : decode cX7_copy 69 = .ok (.iload_n 3, 1) := by decide +kernel
theorem dX7_copy_70 : decode cX7_copy 70 = .ok (.iadd, 1) := by decide +kernel
theorem dX7_copy_71 : decode cX7_copy 71 = .ok (.aload_n 0, 1) := by decide +kernel
theorem dX7_copy_72 : decode cX7_copy 72 = .ok (.getfield 47, 3) := by decide +kernel
theorem dX7_copy_75 : decode cX7_copy 75 = .ok (.iload_n 3, 1) := by decide +kernel
theorem dX7_copy_76 : decode cX7_copy 76 = .ok (.iaload, 1) := by decide +kernel
theorem dX7_copy_77 : decode cX7_copy 77 = .ok (.iastore, 1) := by decide +kernel
theorem dX7_copy_78 : decode cX7_copy 78 = .ok (.iinc 3 1, 3) := by decide +kernel
theorem dX7_copy_81 : decode cX7_copy 81 = .ok (.goto (-44), 3) := by decide +kernel
theorem dX7_copy_84 : decode cX7_copy 84 = .ok (.aload_n 0, 1) := by decide +kernel
theorem dX7_copy_85 : decode cX7_copy 85 = .ok (.getfield 60, 3) := by decide +kernel
theorem dX7_copy_88 : decode cX7_copy 88 = .ok (.iload_n 2, 1) := by decide +kernel
theorem dX7_copy_89 : decode cX7_copy 89 = .ok (.sipush 198, 3) := by decide +kernel
theorem dX7_copy_92 : decode cX7_copy 92 = .ok (.iadd, 1) := by decide +kernel
theorem dX7_copy_93 : decode cX7_copy 93 = .ok (.aload_n 0, 1) := by decide +kernel
theorem dX7_copy_94 : decode cX7_copy 94 = .ok (.getfield 148, 3) := by decide +kernel
theorem dX7_copy_97 : decode cX7_copy 97 = .ok (.iastore, 1) := by decide +kernel
theorem dX7_copy_98 : decode cX7_copy 98 = .ok (.aload_n 0, 1) := by decide +kernel
theorem dX7_copy_99 : decode cX7_copy 99 = .ok (.getfield 60, 3) := by decide +kernel
theorem dX7_copy_102 : decode cX7_copy 102 = .ok (.iload_n 2, 1) := by decide +kernel
theorem dX7_copy_103 : decode cX7_copy 103 = .ok (.sipush 199, 3) := by decide +kernel
theorem dX7_copy_106 : decode cX7_copy 106 = .ok (.iadd, 1) := by decide +kernel
theorem dX7_copy_107 : decode cX7_copy 107 = .ok (.aload_n 0, 1) := by decide +kernel
theorem dX7_copy_108 : decode cX7_copy 108 = .ok (.getfield 139, 3) := by decide +kernel
theorem dX7_copy_111 : decode cX7_copy 111 = .ok (.iastore, 1) := by decide +kernel
theorem dX7_copy_112 : decode cX7_copy 112 = .ok (.aload_n 0, 1) := by decide +kernel
theorem dX7_copy_113 : decode cX7_copy 113 = .ok (.getfield 60, 3) := by decide +kernel
theorem dX7_copy_116 : decode cX7_copy 116 = .ok (.iload_n 2, 1) := by decide +kernel
theorem dX7_copy_117 : decode cX7_copy 117 = .ok (.sipush 200, 3) := by decide +kernel
theorem dX7_copy_120 : decode cX7_copy 120 = .ok (.iadd, 1) := by decide +kernel
theorem dX7_copy_121 : decode cX7_copy 121 = .ok (.aload_n 0, 1) := by decide +kernel
theorem dX7_copy_122 : decode cX7_copy 122 = .ok (.getfield 50, 3) := by decide +kernel
theorem dX7_copy_125 : decode cX7_copy 125 = .ok (.iastore, 1) := by decide +kernel
theorem dX7_copy_126 : decode cX7_copy 126 = .ok (.aload_n 0, 1) := by decide +kernel
theorem dX7_copy_127 : decode cX7_copy 127 = .ok (.getfield 60, 3) := by decide +kernel
theorem dX7_copy_130 : decode cX7_copy 130 = .ok (.iload_n 2, 1) := by decide +kernel
theorem dX7_copy_131 : decode cX7_copy 131 = .ok (.sipush 201, 3) := by decide +kernel
theorem dX7_copy_134 : decode cX7_copy 134 = .ok (.iadd, 1) := by decide +kernel
theorem dX7_copy_135 : decode cX7_copy 135 = .ok (.aload_n 0, 1) := by decide +kernel
theorem dX7_copy_136 : decode cX7_copy 136 = .ok (.getfield 145, 3) := by decide +kernel
theorem dX7_copy_139 : decode cX7_copy 139 = .ok (.iastore, 1) := by decide +kernel
theorem dX7_copy_140 : decode cX7_copy 140 = .ok (.aload_n 0, 1) := by decide +kernel
theorem dX7_copy_141 : decode cX7_copy 141 = .ok (.getfield 60, 3) := by decide +kernel
theorem dX7_copy_144 : decode cX7_copy 144 = .ok (.iload_n 2, 1) := by decide +kernel
theorem dX7_copy_145 : decode cX7_copy 145 = .ok (.sipush 202, 3) := by decide +kernel
theorem dX7_copy_148 : decode cX7_copy 148 = .ok (.iadd, 1) := by decide +kernel
theorem dX7_copy_149 : decode cX7_copy 149 = .ok (.aload_n 0, 1) := by decide +kernel
theorem dX7_copy_150 : decode cX7_copy 150 = .ok (.getfield 151, 3) := by decide +kernel
theorem dX7_copy_153 : decode cX7_copy 153 = .ok (.ifCond .eq 7, 3) := by decide +kernel
theorem dX7_copy_156 : decode cX7_copy 156 = .ok (.iconst 1, 1) := by decide +kernel
theorem dX7_copy_157 : decode cX7_copy 157 = .ok (.goto 4, 3) := by decide +kernel
theorem dX7_copy_160 : decode cX7_copy 160 = .ok (.iconst 0, 1) := by decide +kernel
theorem dX7_copy_161 : decode cX7_copy 161 = .ok (.iastore, 1) := by decide +kernel
theorem dX7_copy_162 : decode cX7_copy 162 = .ok (.aload_n 0, 1) := by decide +kernel
theorem dX7_copy_163 : decode cX7_copy 163 = .ok (.getfield 60, 3) := by decide +kernel
theorem dX7_copy_166 : decode cX7_copy 166 = .ok (.iload_n 2, 1) := by decide +kernel
theorem dX7_copy_167 : decode cX7_copy 167 = .ok (.sipush 203, 3) := by decide +kernel
theorem dX7_copy_170 : decode cX7_copy 170 = .ok (.iadd, 1) := by decide +kernel
theorem dX7_copy_171 : decode cX7_copy 171 = .ok (.aload_n 0, 1) := by decide +kernel
theorem dX7_copy_172 : decode cX7_copy 172 = .ok (.getfield 122, 3) := by decide +kernel
theorem dX7_copy_175 : decode cX7_copy 175 = .ok (.iastore, 1) := by decide +kernel
theorem dX7_copy_176 : decode cX7_copy 176 = .ok (.return_, 1) := by decide +kernel
theorem dX7_reply_0 : decode cX7_reply 0 = .ok (.aload_n 0, 1) := by decide +kernel
theorem dX7_reply_1 : decode cX7_reply 1 = .ok (.getfield 148, 3) := by decide +kernel
theorem dX7_reply_4 : decode cX7_reply 4 = .ok (.istore_n 2, 1) := by decide +kernel
theorem dX7_reply_5 : decode cX7_reply 5 = .ok (.ldc 232, 2) := by decide +kernel
theorem dX7_reply_7 : decode cX7_reply 7 = .ok (.istore_n 3, 1) := by decide +kernel
theorem dX7_reply_8 : decode cX7_reply 8 = .ok (.aload_n 0, 1) := by decide +kernel
theorem dX7_reply_9 : decode cX7_reply 9 = .ok (.iconst 1, 1) := by decide +kernel
theorem dX7_reply_10 : decode cX7_reply 10 = .ok (.invokevirtual 233, 3) := by decide +kernel
theorem dX7_reply_13 : decode cX7_reply 13 = .ok (.iconst 0, 1) := by decide +kernel
theorem dX7_reply_14 : decode cX7_reply 14 = .ok (.istore 4, 2) := by decide +kernel
theorem dX7_reply_16 : decode cX7_reply 16 = .ok (.iload 4, 2) := by decide +kernel
theorem dX7_reply_18 : decode cX7_reply 18 = .ok (.sipush 1444, 3) := by decide +kernel
theorem dX7_reply_21 : decode cX7_reply 21 = .ok (.if_icmp .ge 197, 3) := by decide +kernel
theorem dX7_reply_24 : decode cX7_reply 24 = .ok (.aload_n 0, 1) := by decide +kernel
theorem dX7_reply_25 : decode cX7_reply 25 = .ok (.getfield 237, 3) := by decide +kernel
theorem dX7_reply_28 : decode cX7_reply 28 = .ok (.iload_n 1, 1) := by decide +kernel
theorem dX7_reply_29 : decode cX7_reply 29 = .ok (.if_icmp .gt 189, 3) := by decide +kernel
theorem dX7_reply_32 : decode cX7_reply 32 = .ok (.aload_n 0, 1) := by decide +kernel
theorem dX7_reply_33 : decode cX7_reply 33 = .ok (.aload_n 0, 1) := by decide +kernel
theorem dX7_reply_34 : decode cX7_reply 34 = .ok (.getfield 50, 3) := by decide +kernel
theorem dX7_reply_37 : decode cX7_reply 37 = .ok (.iload 4, 2) := by decide +kernel
theorem dX7_reply_39 : decode cX7_reply 39 = .ok (.iconst 4, 1) := by decide +kernel
theorem dX7_reply_40 : decode cX7_reply 40 = .ok (.idiv, 1) := by decide +kernel
theorem dX7_reply_41 : decode cX7_reply 41 = .ok (.bipush 19, 2) := by decide +kernel
theorem dX7_reply_43 : decode cX7_reply 43 = .ok (.irem, 1) := by decide +kernel
theorem dX7_reply_44 : decode cX7_reply 44 = .ok (.bipush 9, 2) := by decide +kernel
theorem dX7_reply_46 : decode cX7_reply 46 = .ok (.isub, 1) := by decide +kernel
theorem dX7_reply_47 : decode cX7_reply 47 = .ok (.iload 4, 2) := by decide +kernel
theorem dX7_reply_49 : decode cX7_reply 49 = .ok (.bipush 76, 2) := by decide +kernel
theorem dX7_reply_51 : decode cX7_reply 51 = .ok (.idiv, 1) := by decide +kernel
theorem dX7_reply_52 : decode cX7_reply 52 = .ok (.bipush 9, 2) := by decide +kernel
theorem dX7_reply_54 : decode cX7_reply 54 = .ok (.isub, 1) := by decide +kernel
theorem dX7_reply_55 : decode cX7_reply 55 = .ok (.iload 4, 2) := by decide +kernel
theorem dX7_reply_57 : decode cX7_reply 57 = .ok (.iconst 4, 1) := by decide +kernel
theorem dX7_reply_58 : decode cX7_reply 58 = .ok (.irem, 1) := by decide +kernel
theorem dX7_reply_59 : decode cX7_reply 59 = .ok (.invokevirtual 135, 3) := by decide +kernel
theorem dX7_reply_62 : decode cX7_reply 62 = .ok (.istore 5, 2) := by decide +kernel
theorem dX7_reply_64 : decode cX7_reply 64 = .ok (.iconst (-1), 1) := by decide +kernel
theorem dX7_reply_65 : decode cX7_reply 65 = .ok (.istore 6, 2) := by decide +kernel
theorem dX7_reply_67 : decode cX7_reply 67 = .ok (.iload 6, 2) := by decide +kernel
theorem dX7_reply_69 : decode cX7_reply 69 = .ok (.bipush 8, 2) := by decide +kernel
theorem dX7_reply_71 : decode cX7_reply 71 = .ok (.if_icmp .ge 141, 3) := by decide +kernel
theorem dX7_reply_74 : decode cX7_reply 74 = .ok (.iload 5, 2) := by decide +kernel
theorem dX7_reply_76 : decode cX7_reply 76 = .ok (.ifCond .eq 136, 3) := by decide +kernel
theorem dX7_reply_79 : decode cX7_reply 79 = .ok (.aload_n 0, 1) := by decide +kernel
theorem dX7_reply_80 : decode cX7_reply 80 = .ok (.getfield 237, 3) := by decide +kernel
theorem dX7_reply_83 : decode cX7_reply 83 = .ok (.iload_n 1, 1) := by decide +kernel
theorem dX7_reply_84 : decode cX7_reply 84 = .ok (.if_icmp .gt 128, 3) := by decide +kernel
theorem dX7_reply_87 : decode cX7_reply 87 = .ok (.aload_n 0, 1) := by decide +kernel
theorem dX7_reply_88 : decode cX7_reply 88 = .ok (.iload 4, 2) := by decide +kernel
theorem dX7_reply_90 : decode cX7_reply 90 = .ok (.iconst 4, 1) := by decide +kernel
theorem dX7_reply_91 : decode cX7_reply 91 = .ok (.idiv, 1) := by decide +kernel
theorem dX7_reply_92 : decode cX7_reply 92 = .ok (.bipush 19, 2) := by decide +kernel
theorem dX7_reply_94 : decode cX7_reply 94 = .ok (.irem, 1) := by decide +kernel
theorem dX7_reply_95 : decode cX7_reply 95 = .ok (.bipush 9, 2) := by decide +kernel
theorem dX7_reply_97 : decode cX7_reply 97 = .ok (.isub, 1) := by decide +kernel
theorem dX7_reply_98 : decode cX7_reply 98 = .ok (.iload 4, 2) := by decide +kernel
theorem dX7_reply_100 : decode cX7_reply 100 = .ok (.bipush 76, 2) := by decide +kernel
theorem dX7_reply_102 : decode cX7_reply 102 = .ok (.idiv, 1) := by decide +kernel
theorem dX7_reply_103 : decode cX7_reply 103 = .ok (.bipush 9, 2) := by decide +kernel
theorem dX7_reply_105 : decode cX7_reply 105 = .ok (.isub, 1) := by decide +kernel
theorem dX7_reply_106 : decode cX7_reply 106 = .ok (.iload 4, 2) := by decide +kernel
theorem dX7_reply_108 : decode cX7_reply 108 = .ok (.iconst 4, 1) := by decide +kernel
theorem dX7_reply_109 : decode cX7_reply 109 = .ok (.irem, 1) := by decide +kernel
theorem dX7_reply_110 : decode cX7_reply 110 = .ok (.invokevirtual 209, 3) := by decide +kernel
theorem dX7_reply_113 : decode cX7_reply 113 = .ok (.iload 6, 2) := by decide +kernel
theorem dX7_reply_115 : decode cX7_reply 115 = .ok (.ifCond .lt 12, 3) := by decide +kernel
theorem dX7_reply_118 : decode cX7_reply 118 = .ok (.aload_n 0, 1) := by decide +kernel
theorem dX7_reply_119 : decode cX7_reply 119 = .ok (.iload 6, 2) := by decide +kernel
theorem dX7_reply_121 : decode cX7_reply 121 = .ok (.invokevirtual 217, 3) := by decide +kernel
theorem dX7_reply_124 : decode cX7_reply 124 = .ok (.ifCond .eq 77, 3) := by decide +kernel
theorem dX7_reply_127 : decode cX7_reply 127 = .ok (.aload_n 0, 1) := by decide +kernel
theorem dX7_reply_128 : decode cX7_reply 128 = .ok (.iload 6, 2) := by decide +kernel
theorem dX7_reply_130 : decode cX7_reply 130 = .ok (.invokevirtual 220, 3) := by decide +kernel
theorem dX7_reply_133 : decode cX7_reply 133 = .ok (.istore 7, 2) := by decide +kernel
theorem dX7_reply_135 : decode cX7_reply 135 = .ok (.aload_n 0, 1) := by decide +kernel
theorem dX7_reply_136 : decode cX7_reply 136 = .ok (.dup, 1) := by decide +kernel
theorem dX7_reply_137 : decode cX7_reply 137 = .ok (.getfield 237, 3) := by decide +kernel
theorem dX7_reply_140 : decode cX7_reply 140 = .ok (.iconst 1, 1) := by decide +kernel
theorem dX7_reply_141 : decode cX7_reply 141 = .ok (.iadd, 1) := by decide +kernel
theorem dX7_reply_142 : decode cX7_reply 142 = .ok (.putfield 237, 3) := by decide +kernel
theorem dX7_reply_145 : decode cX7_reply 145 = .ok (.aload_n 0, 1) := by decide +kernel
theorem dX7_reply_146 : decode cX7_reply 146 = .ok (.invokevirtual 229, 3) := by decide +kernel
theorem dX7_reply_149 : decode cX7_reply 149 = .ok (.aload_n 0, 1) := by decide +kernel
theorem dX7_reply_150 : decode cX7_reply 150 = .ok (.aload_n 0, 1) := by decide +kernel
theorem dX7_reply_151 : decode cX7_reply 151 = .ok (.getfield 63, 3) := by decide +kernel
theorem dX7_reply_154 : decode cX7_reply 154 = .ok (.iload_n 2, 1) := by decide +kernel
theorem dX7_reply_155 : decode cX7_reply 155 = .ok (.invokevirtual 240, 3) := by decide +kernel
theorem dX7_reply_158 : decode cX7_reply 158 = .ok (.iload_n 3, 1) := by decide +kernel
theorem dX7_reply_159 : decode cX7_reply 159 = .ok (.if_icmp .le 42, 3) := by decide +kernel
theorem dX7_reply_162 : decode cX7_reply 162 = .ok (.aload_n 0, 1) := by decide +kernel
theorem dX7_reply_163 : decode cX7_reply 163 = .ok (.aload_n 0, 1) := by decide +kernel
theorem dX7_reply_164 : decode cX7_reply 164 = .ok (.getfield 63, 3) := by decide +kernel
theorem dX7_reply_167 : decode cX7_reply 167 = .ok (.iload_n 2, 1) := by decide +kernel
theorem dX7_reply_168 : decode cX7_reply 168 = .ok (.invokevirtual 240, 3) := by decide +kernel
theorem dX7_reply_171 : decode cX7_reply 171 = .ok (.istore_n 3, 1) := by decide +kernel
theorem dX7_reply_172 : decode cX7_reply 172 = .ok (.iconst 0, 1) := by decide +kernel
theorem dX7_reply_173 : decode cX7_reply 173 = .ok (.istore 8, 2) := by decide +kernel
theorem dX7_reply_175 : decode cX7_reply 175 = .ok (.iload 8, 2) := by decide +kernel
theorem dX7_reply_177 : decode cX7_reply 177 = .ok (.iconst 3, 1) := by decide +kernel
theorem dX7_reply_178 : decode cX7_reply 178 = .ok (.if_icmp .ge 23, 3) := by decide +kernel
theorem dX7_reply_181 : decode cX7_reply 181 = .ok (.aload_n 0, 1) := by decide +kernel
theorem dX7_reply_182 : decode cX7_reply 182 = .ok (.getfield 66, 3) := by decide +kernel
theorem dX7_reply_185 : decode cX7_reply 185 = .ok (.iload 8, 2) := by decide +kernel
theorem dX7_reply_187 : decode cX7_reply 187 = .ok (.aload_n 0, 1) := by decide +kernel
theorem dX7_reply_188 : decode cX7_reply 188 = .ok (.getfield 63, 3) := by decide +kernel
theorem dX7_reply_191 : decode cX7_reply 191 = .ok (.iload 8, 2) := by decide +kernel
theorem dX7_reply_193 : decode cX7_reply 193 = .ok (.iaload, 1) := by decide +kernel
theorem dX7_reply_194 : decode cX7_reply 194 = .ok (.iastore, 1) := by decide +kernel
theorem dX7_reply_195 : decode cX7_reply 195 = .ok (.iinc 8 1, 3) := by decide +kernel
theorem dX7_reply_198 : decode cX7_reply 198 = .ok (.goto (-23), 3) := by decide +kernel
theorem dX7_reply_201 : decode cX7_reply 201 = .ok (.aload_n 0, 1) := by decide +kernel
theorem dX7_reply_202 : decode cX7_reply 202 = .ok (.iconst 1, 1) := by decide +kernel
theorem dX7_reply_203 : decode cX7_reply 203 = .ok (.invokevirtual 244, 3) := by decide +kernel
theorem dX7_reply_206 : decode cX7_reply 206 = .ok (.iinc 6 1, 3) := by decide +kernel
theorem dX7_reply_209 : decode cX7_reply 209 = .ok (.goto (-142), 3) := by decide +kernel
theorem dX7_reply_212 : decode cX7_reply 212 = .ok (.iinc 4 1, 3) := by decide +kernel
theorem dX7_reply_215 : decode cX7_reply 215 = .ok (.goto (-199), 3) := by decide +kernel
theorem dX7_reply_218 : decode cX7_reply 218 = .ok (.iconst 0, 1) := by decide +kernel
theorem dX7_reply_219 : decode cX7_reply 219 = .ok (.istore 4, 2) := by decide +kernel
theorem dX7_reply_221 : decode cX7_reply 221 = .ok (.iload 4, 2) := by decide +kernel
theorem dX7_reply_223 : decode cX7_reply 223 = .ok (.iconst 3, 1) := by decide +kernel
theorem dX7_reply_224 : decode cX7_reply 224 = .ok (.if_icmp .ge 23, 3) := by decide +kernel
theorem dX7_reply_227 : decode cX7_reply 227 = .ok (.aload_n 0, 1) := by decide +kernel
theorem dX7_reply_228 : decode cX7_reply 228 = .ok (.getfield 63, 3) := by decide +kernel
theorem dX7_reply_231 : decode cX7_reply 231 = .ok (.iload 4, 2) := by decide +kernel
theorem dX7_reply_233 : decode cX7_reply 233 = .ok (.aload_n 0, 1) := by decide +kernel
theorem dX7_reply_234 : decode cX7_reply 234 = .ok (.getfield 66, 3) := by decide +kernel
theorem dX7_reply_237 : decode cX7_reply 237 = .ok (.iload 4, 2) := by decide +kernel
theorem dX7_reply_239 : decode cX7_reply 239 = .ok (.iaload, 1) := by decide +kernel
theorem dX7_reply_240 : decode cX7_reply 240 = .ok (.iastore, 1) := by decide +kernel
theorem dX7_reply_241 : decode cX7_reply 241 = .ok (.iinc 4 1, 3) := by decide +kernel
theorem dX7_reply_244 : decode cX7_reply 244 = .ok (.goto (-23), 3) := by decide +kernel
theorem dX7_reply_247 : decode cX7_reply 247 = .ok (.return_, 1) := by decide +kernel
theorem dX7_search_0 : decode cX7_search 0 = .ok (.aload_n 0, 1) := by decide +kernel
theorem dX7_search_1 : decode cX7_search 1 = .ok (.invokevirtual 184, 3) := by decide +kernel
theorem dX7_search_4 : decode cX7_search 4 = .ok (.ifCond .eq 16, 3) := by decide +kernel
theorem dX7_search_7 : decode cX7_search 7 = .ok (.aload_n 0, 1) := by decide +kernel
theorem dX7_search_8 : decode cX7_search 8 = .ok (.getfield 107, 3) := by decide +kernel
theorem dX7_search_11 : decode cX7_search 11 = .ok (.aload_n 0, 1) := by decide +kernel
theorem dX7_search_12 : decode cX7_search 12 = .ok (.getfield 139, 3) := by decide +kernel
theorem dX7_search_15 : decode cX7_search 15 = .ok (.isub, 1) := by decide +kernel
theorem dX7_search_16 : decode cX7_search 16 = .ok (.iconst 1, 1) := by decide +kernel
theorem dX7_search_17 : decode cX7_search 17 = .ok (.if_icmp .le 5, 3) := by decide +kernel
theorem dX7_search_20 : decode cX7_search 20 = .ok (.iconst (-1), 1) := by decide +kernel
theorem dX7_search_21 : decode cX7_search 21 = .ok (.ireturn, 1) := by decide +kernel
theorem dX7_search_22 : decode cX7_search 22 = .ok (.iload_n 1, 1) := by decide +kernel
theorem dX7_search_23 : decode cX7_search 23 = .ok (.iconst 1, 1) := by decide +kernel
theorem dX7_search_24 : decode cX7_search 24 = .ok (.if_icmp .lt 10, 3) := by decide +kernel
theorem dX7_search_27 : decode cX7_search 27 = .ok (.iload_n 1, 1) := by decide +kernel
theorem dX7_search_28 : decode cX7_search 28 = .ok (.sipush 1500, 3) := by decide +kernel
theorem dX7_search_31 : decode cX7_search 31 = .ok (.if_icmp .le 6, 3) := by decide +kernel
theorem dX7_search_34 : decode cX7_search 34 = .ok (.bipush (-2), 2) := by decide +kernel
theorem dX7_search_36 : decode cX7_search 36 = .ok (.ireturn, 1) := by decide +kernel
theorem dX7_search_37 : decode cX7_search 37 = .ok (.aload_n 0, 1) := by decide +kernel
theorem dX7_search_38 : decode cX7_search 38 = .ok (.getfield 148, 3) := by decide +kernel
theorem dX7_search_41 : decode cX7_search 41 = .ok (.istore_n 2, 1) := by decide +kernel
theorem dX7_search_42 : decode cX7_search 42 = .ok (.ldc 232, 2) := by decide +kernel
theorem dX7_search_44 : decode cX7_search 44 = .ok (.istore_n 3, 1) := by decide +kernel
theorem dX7_search_45 : decode cX7_search 45 = .ok (.aload_n 0, 1) := by decide +kernel
theorem dX7_search_46 : decode cX7_search 46 = .ok (.iconst 0, 1) := by decide +kernel
theorem dX7_search_47 : decode cX7_search 47 = .ok (.putfield 237, 3) := by decide +kernel
theorem dX7_search_50 : decode cX7_search 50 = .ok (.aload_n 0, 1) := by decide +kernel
theorem dX7_search_51 : decode cX7_search 51 = .ok (.iconst 0, 1) := by decide +kernel
theorem dX7_search_52 : decode cX7_search 52 = .ok (.invokevirtual 233, 3) := by decide +kernel
theorem dX7_search_55 : decode cX7_search 55 = .ok (.iconst 0, 1) := by decide +kernel
theorem dX7_search_56 : decode cX7_search 56 = .ok (.istore 4, 2) := by decide +kernel
theorem dX7_search_58 : decode cX7_search 58 = .ok (.iload 4, 2) := by decide +kernel
theorem dX7_search_60 : decode cX7_search 60 = .ok (.sipush 1444, 3) := by decide +kernel
theorem dX7_search_63 : decode cX7_search 63 = .ok (.if_icmp .ge 231, 3) := by decide +kernel
theorem dX7_search_66 : decode cX7_search 66 = .ok (.aload_n 0, 1) := by decide +kernel
theorem dX7_search_67 : decode cX7_search 67 = .ok (.getfield 237, 3) := by decide +kernel
theorem dX7_search_70 : decode cX7_search 70 = .ok (.iload_n 1, 1) := by decide +kernel
theorem dX7_search_71 : decode cX7_search 71 = .ok (.if_icmp .gt 223, 3) := by decide +kernel
theorem dX7_search_74 : decode cX7_search 74 = .ok (.aload_n 0, 1) := by decide +kernel
theorem dX7_search_75 : decode cX7_search 75 = .ok (.aload_n 0, 1) := by decide +kernel
theorem dX7_search_76 : decode cX7_search 76 = .ok (.getfield 50, 3) := by decide +kernel
theorem dX7_search_79 : decode cX7_search 79 = .ok (.iload 4, 2) := by decide +kernel
theorem dX7_search_81 : decode cX7_search 81 = .ok (.iconst 4, 1) := by decide +kernel
theorem dX7_search_82 : decode cX7_search 82 = .ok (.idiv, 1) := by decide +kernel
theorem dX7_search_83 : decode cX7_search 83 = .ok (.bipush 19, 2) := by decide +kernel
theorem dX7_search_85 : decode cX7_search 85 = .ok (.irem, 1) := by decide +kernel
theorem dX7_search_86 : decode cX7_search 86 = .ok (.bipush 9, 2) := by decide +kernel
theorem dX7_search_88 : decode cX7_search 88 = .ok (.isub, 1) := by decide +kernel
theorem dX7_search_89 : decode cX7_search 89 = .ok (.iload 4, 2) := by decide +kernel
theorem dX7_search_91 : decode cX7_search 91 = .ok (.bipush 76, 2) := by decide +kernel
theorem dX7_search_93 : decode cX7_search 93 = .ok (.idiv, 1) := by decide +kernel
theorem dX7_search_94 : decode cX7_search 94 = .ok (.bipush 9, 2) := by decide +kernel
theorem dX7_search_96 : decode cX7_search 96 = .ok (.isub, 1) := by decide +kernel
theorem dX7_search_97 : decode cX7_search 97 = .ok (.iload 4, 2) := by decide +kernel
theorem dX7_search_99 : decode cX7_search 99 = .ok (.iconst 4, 1) := by decide +kernel
theorem dX7_search_100 : decode cX7_search 100 = .ok (.irem, 1) := by decide +kernel
theorem dX7_search_101 : decode cX7_search 101 = .ok (.invokevirtual 135, 3) := by decide +kernel
theorem dX7_search_104 : decode cX7_search 104 = .ok (.istore 5, 2) := by decide +kernel
theorem dX7_search_106 : decode cX7_search 106 = .ok (.iconst (-1), 1) := by decide +kernel
theorem dX7_search_107 : decode cX7_search 107 = .ok (.istore 6, 2) := by decide +kernel
theorem dX7_search_109 : decode cX7_search 109 = .ok (.iload 6, 2) := by decide +kernel
theorem dX7_search_111 : decode cX7_search 111 = .ok (.bipush 8, 2) := by decide +kernel
theorem dX7_search_113 : decode cX7_search 113 = .ok (.if_icmp .ge 175, 3) := by decide +kernel
theorem dX7_search_116 : decode cX7_search 116 = .ok (.iload 5, 2) := by decide +kernel
theorem dX7_search_118 : decode cX7_search 118 = .ok (.ifCond .eq 170, 3) := by decide +kernel
theorem dX7_search_121 : decode cX7_search 121 = .ok (.aload_n 0, 1) := by decide +kernel
theorem dX7_search_122 : decode cX7_search 122 = .ok (.getfield 237, 3) := by decide +kernel
theorem dX7_search_125 : decode cX7_search 125 = .ok (.iload_n 1, 1) := by decide +kernel
theorem dX7_search_126 : decode cX7_search 126 = .ok (.if_icmp .gt 162, 3) := by decide +kernel
theorem dX7_search_129 : decode cX7_search 129 = .ok (.aload_n 0, 1) := by decide +kernel
theorem dX7_search_130 : decode cX7_search 130 = .ok (.iload 4, 2) := by decide +kernel
theorem dX7_search_132 : decode cX7_search 132 = .ok (.iconst 4, 1) := by decide +kernel
theorem dX7_search_133 : decode cX7_search 133 = .ok (.idiv, 1) := by decide +kernel
theorem dX7_search_134 : decode cX7_search 134 = .ok (.bipush 19, 2) := by decide +kernel
theorem dX7_search_136 : decode cX7_search 136 = .ok (.irem, 1) := by decide +kernel
theorem dX7_search_137 : decode cX7_search 137 = .ok (.bipush 9, 2) := by decide +kernel
theorem dX7_search_139 : decode cX7_search 139 = .ok (.isub, 1) := by decide +kernel
theorem dX7_search_140 : decode cX7_search 140 = .ok (.iload 4, 2) := by decide +kernel
theorem dX7_search_142 : decode cX7_search 142 = .ok (.bipush 76, 2) := by decide +kernel
theorem dX7_search_144 : decode cX7_search 144 = .ok (.idiv, 1) := by decide +kernel
theorem dX7_search_145 : decode cX7_search 145 = .ok (.bipush 9, 2) := by decide +kernel
theorem dX7_search_147 : decode cX7_search 147 = .ok (.isub, 1) := by decide +kernel
theorem dX7_search_148 : decode cX7_search 148 = .ok (.iload 4, 2) := by decide +kernel
theorem dX7_search_150 : decode cX7_search 150 = .ok (.iconst 4, 1) := by decide +kernel
theorem dX7_search_151 : decode cX7_search 151 = .ok (.irem, 1) := by decide +kernel
theorem dX7_search_152 : decode cX7_search 152 = .ok (.invokevirtual 209, 3) := by decide +kernel
theorem dX7_search_155 : decode cX7_search 155 = .ok (.iload 6, 2) := by decide +kernel
theorem dX7_search_157 : decode cX7_search 157 = .ok (.ifCond .lt 12, 3) := by decide +kernel
theorem dX7_search_160 : decode cX7_search 160 = .ok (.aload_n 0, 1) := by decide +kernel
theorem dX7_search_161 : decode cX7_search 161 = .ok (.iload 6, 2) := by decide +kernel
theorem dX7_search_163 : decode cX7_search 163 = .ok (.invokevirtual 217, 3) := by decide +kernel
theorem dX7_search_166 : decode cX7_search 166 = .ok (.ifCond .eq 111, 3) := by decide +kernel
theorem dX7_search_169 : decode cX7_search 169 = .ok (.aload_n 0, 1) := by decide +kernel
theorem dX7_search_170 : decode cX7_search 170 = .ok (.iload 6, 2) := by decide +kernel
theorem dX7_search_172 : decode cX7_search 172 = .ok (.invokevirtual 220, 3) := by decide +kernel
theorem dX7_search_175 : decode cX7_search 175 = .ok (.istore 7, 2) := by decide +kernel
theorem dX7_search_177 : decode cX7_search 177 = .ok (.aload_n 0, 1) := by decide +kernel
theorem dX7_search_178 : decode cX7_search 178 = .ok (.dup, 1) := by decide +kernel
theorem dX7_search_179 : decode cX7_search 179 = .ok (.getfield 237, 3) := by decide +kernel
theorem dX7_search_182 : decode cX7_search 182 = .ok (.iconst 1, 1) := by decide +kernel
theorem dX7_search_183 : decode cX7_search 183 = .ok (.iadd, 1) := by decide +kernel
theorem dX7_search_184 : decode cX7_search 184 = .ok (.putfield 237, 3) := by decide +kernel
theorem dX7_search_187 : decode cX7_search 187 = .ok (.aload_n 0, 1) := by decide +kernel
theorem dX7_search_188 : decode cX7_search 188 = .ok (.getfield 50, 3) := by decide +kernel
theorem dX7_search_191 : decode cX7_search 191 = .ok (.ifCond .lt 11, 3) := by decide +kernel
theorem dX7_search_194 : decode cX7_search 194 = .ok (.aload_n 0, 1) := by decide +kernel
theorem dX7_search_195 : decode cX7_search 195 = .ok (.iload_n 1, 1) := by decide +kernel
theorem dX7_search_196 : decode cX7_search 196 = .ok (.invokevirtual 247, 3) := by decide +kernel
theorem dX7_search_199 : decode cX7_search 199 = .ok (.goto 7, 3) := by decide +kernel
theorem dX7_search_202 : decode cX7_search 202 = .ok (.aload_n 0, 1) := by decide +kernel
theorem dX7_search_203 : decode cX7_search 203 = .ok (.invokevirtual 229, 3) := by decide +kernel
theorem dX7_search_206 : decode cX7_search 206 = .ok (.aload_n 0, 1) := by decide +kernel
theorem dX7_search_207 : decode cX7_search 207 = .ok (.aload_n 0, 1) := by decide +kernel
theorem dX7_search_208 : decode cX7_search 208 = .ok (.getfield 63, 3) := by decide +kernel
theorem dX7_search_211 : decode cX7_search 211 = .ok (.iload_n 2, 1) := by decide +kernel
theorem dX7_search_212 : decode cX7_search 212 = .ok (.invokevirtual 240, 3) := by decide +kernel
theorem dX7_search_215 : decode cX7_search 215 = .ok (.iload_n 3, 1) := by decide +kernel
theorem dX7_search_216 : decode cX7_search 216 = .ok (.if_icmp .le 61, 3) := by decide +kernel
theorem dX7_search_219 : decode cX7_search 219 = .ok (.aload_n 0, 1) := by decide +kernel
theorem dX7_search_220 : decode cX7_search 220 = .ok (.aload_n 0, 1) := by decide +kernel
theorem dX7_search_221 : decode cX7_search 221 = .ok (.getfield 63, 3) := by decide +kernel
theorem dX7_search_224 : decode cX7_search 224 = .ok (.iload_n 2, 1) := by decide +kernel
theorem dX7_search_225 : decode cX7_search 225 = .ok (.invokevirtual 240, 3) := by decide +kernel
theorem dX7_search_228 : decode cX7_search 228 = .ok (.istore_n 3, 1) := by decide +kernel
theorem dX7_search_229 : decode cX7_search 229 = .ok (.aload_n 0, 1) := by decide +kernel
theorem dX7_search_230 : decode cX7_search 230 = .ok (.getfield 72, 3) := by decide +kernel
theorem dX7_search_233 : decode cX7_search 233 = .ok (.iconst 0, 1) := by decide +kernel
theorem dX7_search_234 : decode cX7_search 234 = .ok (.iload 4, 2) := by decide +kernel
theorem dX7_search_236 : decode cX7_search 236 = .ok (.iconst 4, 1) := by decide +kernel
theorem dX7_search_237 : decode cX7_search 237 = .ok (.idiv, 1) := by decide +kernel
theorem dX7_search_238 : decode cX7_search 238 = .ok (.bipush 19, 2) := by decide +kernel
theorem dX7_search_240 : decode cX7_search 240 = .ok (.irem, 1) := by decide +kernel
theorem dX7_search_241 : decode cX7_search 241 = .ok (.bipush 9, 2) := by decide +kernel
theorem dX7_search_243 : decode cX7_search 243 = .ok (.isub, 1) := by decide +kernel
theorem dX7_search_244 : decode cX7_search 244 = .ok (.iastore, 1) := by decide +kernel
theorem dX7_search_245 : decode cX7_search 245 = .ok (.aload_n 0, 1) := by decide +kernel
theorem dX7_search_246 : decode cX7_search 246 = .ok (.getfield 72, 3) := by decide +kernel
theorem dX7_search_249 : decode cX7_search 249 = .ok (.iconst 1, 1) := by decide +kernel
theorem dX7_search_250 : decode cX7_search 250 = .ok (.iload 4, 2) := by decide +kernel
theorem dX7_search_252 : decode cX7_search 252 = .ok (.bipush 76, 2) := by decide +kernel
theorem dX7_search_254 : decode cX7_search 254 = .ok (.idiv, 1) := by decide +kernel
theorem dX7_search_255 : decode cX7_search 255 = .ok (.bipush 9, 2) := by decide +kernel
theorem dX7_search_257 : decode cX7_search 257 = .ok (.isub, 1) := by decide +kernel
theorem dX7_search_258 : decode cX7_search 258 = .ok (.iastore, 1) := by decide +kernel
theorem dX7_search_259 : decode cX7_search 259 = .ok (.aload_n 0, 1) := by decide +kernel
theorem dX7_search_260 : decode cX7_search 260 = .ok (.getfield 72, 3) := by decide +kernel
theorem dX7_search_263 : decode cX7_search 263 = .ok (.iconst 2, 1) := by decide +kernel
theorem dX7_search_264 : decode cX7_search 264 = .ok (.iload 4, 2) := by decide +kernel
theorem dX7_search_266 : decode cX7_search 266 = .ok (.iconst 4, 1) := by decide +kernel
theorem dX7_search_267 : decode cX7_search 267 = .ok (.irem, 1) := by decide +kernel
theorem dX7_search_268 : decode cX7_search 268 = .ok (.iastore, 1) := by decide +kernel
theorem dX7_search_269 : decode cX7_search 269 = .ok (.aload_n 0, 1) := by decide +kernel
theorem dX7_search_270 : decode cX7_search 270 = .ok (.getfield 72, 3) := by decide +kernel
theorem dX7_search_273 : decode cX7_search 273 = .ok (.iconst 3, 1) := by decide +kernel
theorem dX7_search_274 : decode cX7_search 274 = .ok (.iload 6, 2) := by decide +kernel
theorem dX7_search_276 : decode cX7_search 276 = .ok (.iastore, 1) := by decide +kernel
theorem dX7_search_277 : decode cX7_search 277 = .ok (.aload_n 0, 1) := by decide +kernel
theorem dX7_search_278 : decode cX7_search 278 = .ok (.iconst 0, 1) := by decide +kernel
theorem dX7_search_279 : decode cX7_search 279 = .ok (.invokevirtual 244, 3) := by decide +kernel
theorem dX7_search_282 : decode cX7_search 282 = .ok (.iinc 6 1, 3) := by decide +kernel
theorem dX7_search_285 : decode cX7_search 285 = .ok (.goto (-176), 3) := by decide +kernel
theorem dX7_search_288 : decode cX7_search 288 = .ok (.iinc 4 1, 3) := by decide +kernel
theorem dX7_search_291 : decode cX7_search 291 = .ok (.goto (-233), 3) := by decide +kernel
theorem dX7_search_294 : decode cX7_search 294 = .ok (.aload_n 0, 1) := by decide +kernel
theorem dX7_search_295 : decode cX7_search 295 = .ok (.getfield 237, 3) := by decide +kernel
theorem dX7_search_298 : decode cX7_search 298 = .ok (.iload_n 1, 1) := by decide +kernel
theorem dX7_search_299 : decode cX7_search 299 = .ok (.if_icmp .le 6, 3) := by decide +kernel
theorem dX7_search_302 : decode cX7_search 302 = .ok (.bipush (-4), 2) := by decide +kernel
theorem dX7_search_304 : decode cX7_search 304 = .ok (.ireturn, 1) := by decide +kernel
theorem dX7_search_305 : decode cX7_search 305 = .ok (.iconst 0, 1) := by decide +kernel
theorem dX7_search_306 : decode cX7_search 306 = .ok (.istore 4, 2) := by decide +kernel
theorem dX7_search_308 : decode cX7_search 308 = .ok (.iload 4, 2) := by decide +kernel
theorem dX7_search_310 : decode cX7_search 310 = .ok (.iconst 4, 1) := by decide +kernel
theorem dX7_search_311 : decode cX7_search 311 = .ok (.if_icmp .ge 23, 3) := by decide +kernel
theorem dX7_search_314 : decode cX7_search 314 = .ok (.aload_n 0, 1) := by decide +kernel
theorem dX7_search_315 : decode cX7_search 315 = .ok (.getfield 69, 3) := by decide +kernel
theorem dX7_search_318 : decode cX7_search 318 = .ok (.iload 4, 2) := by decide +kernel
theorem dX7_search_320 : decode cX7_search 320 = .ok (.aload_n 0, 1) := by decide +kernel
theorem dX7_search_321 : decode cX7_search 321 = .ok (.getfield 72, 3) := by decide +kernel
theorem dX7_search_324 : decode cX7_search 324 = .ok (.iload 4, 2) := by decide +kernel
theorem dX7_search_326 : decode cX7_search 326 = .ok (.iaload, 1) := by decide +kernel
theorem dX7_search_327 : decode cX7_search 327 = .ok (.iastore, 1) := by decide +kernel
theorem dX7_search_328 : decode cX7_search 328 = .ok (.iinc 4 1, 3) := by decide +kernel
theorem dX7_search_331 : decode cX7_search 331 = .ok (.goto (-23), 3) := by decide +kernel
theorem dX7_search_334 : decode cX7_search 334 = .ok (.aload_n 0, 1) := by decide +kernel
theorem dX7_search_335 : decode cX7_search 335 = .ok (.iconst 1, 1) := by decide +kernel
theorem dX7_search_336 : decode cX7_search 336 = .ok (.putfield 166, 3) := by decide +kernel
theorem dX7_search_339 : decode cX7_search 339 = .ok (.sipush 1000, 3) := by decide +kernel
theorem dX7_search_342 : decode cX7_search 342 = .ok (.iload_n 3, 1) := by decide +kernel
theorem dX7_search_343 : decode cX7_search 343 = .ok (.iadd, 1) := by decide +kernel
theorem dX7_search_344 : decode cX7_search 344 = .ok (.ireturn, 1) := by decide +kernel
theorem dX7_best_0 : decode cX7_best 0 = .ok (.aload_n 0, 1) := by decide +kernel
theorem dX7_best_1 : decode cX7_best 1 = .ok (.getfield 166, 3) := by decide +kernel
theorem dX7_best_4 : decode cX7_best 4 = .ok (.ifCond .eq 21, 3) := by decide +kernel
theorem dX7_best_7 : decode cX7_best 7 = .ok (.iload_n 1, 1) := by decide +kernel
theorem dX7_best_8 : decode cX7_best 8 = .ok (.ifCond .lt 17, 3) := by decide +kernel
theorem dX7_best_11 : decode cX7_best 11 = .ok (.iload_n 1, 1) := by decide +kernel
theorem dX7_best_12 : decode cX7_best 12 = .ok (.iconst 3, 1) := by decide +kernel
theorem dX7_best_13 : decode cX7_best 13 = .ok (.if_icmp .gt 12, 3) := by decide +kernel
theorem dX7_best_16 : decode cX7_best 16 = .ok (.aload_n 0, 1) := by decide +kernel
theorem dX7_best_17 : decode cX7_best 17 = .ok (.getfield 69, 3) := by decide +kernel
theorem dX7_best_20 : decode cX7_best 20 = .ok (.iload_n 1, 1) := by decide +kernel
theorem dX7_best_21 : decode cX7_best 21 = .ok (.iaload, 1) := by decide +kernel
theorem dX7_best_22 : decode cX7_best 22 = .ok (.goto 5, 3) := by decide +kernel
theorem dX7_best_25 : decode cX7_best 25 = .ok (.bipush (-100), 2) := by decide +kernel
theorem dX7_best_27 : decode cX7_best 27 = .ok (.ireturn, 1) := by decide +kernel
theorem dX0_init_0 : decode cX0_init 0 = .ok (.aload_n 0, 1) := by decide +kernel
theorem dX0_init_1 : decode cX0_init 1 = .ok (.invokespecial 3, 3) := by decide +kernel
theorem dX0_init_4 : decode cX0_init 4 = .ok (.aload_n 0, 1) := by decide +kernel
theorem dX0_init_5 : decode cX0_init 5 = .ok (.sipush 144, 3) := by decide +kernel
theorem dX0_init_8 : decode cX0_init 8 = .ok (.newarray .int, 2) := by decide +kernel
theorem dX0_init_10 : decode cX0_init 10 = .ok (.putfield 9, 3) := by decide +kernel
theorem dX0_init_13 : decode cX0_init 13 = .ok (.aload_n 0, 1) := by decide +kernel
theorem dX0_init_14 : decode cX0_init 14 = .ok (.bipush 48, 2) := by decide +kernel
theorem dX0_init_16 : decode cX0_init 16 = .ok (.newarray .int, 2) := by decide +kernel
theorem dX0_init_18 : decode cX0_init 18 = .ok (.putfield 15, 3) := by decide +kernel
theorem dX0_init_21 : decode cX0_init 21 = .ok (.aload_n 0, 1) := by decide +kernel
theorem dX0_init_22 : decode cX0_init 22 = .ok (.bipush 96, 2) := by decide +kernel
theorem dX0_init_24 : decode cX0_init 24 = .ok (.newarray .int, 2) := by decide +kernel
theorem dX0_init_26 : decode cX0_init 26 = .ok (.putfield 18, 3) := by decide +kernel
theorem dX0_init_29 : decode cX0_init 29 = .ok (.aload_n 0, 1) := by decide +kernel
theorem dX0_init_30 : decode cX0_init 30 = .ok (.bipush 96, 2) := by decide +kernel
theorem dX0_init_32 : decode cX0_init 32 = .ok (.newarray .int, 2) := by decide +kernel
theorem dX0_init_34 : decode cX0_init 34 = .ok (.putfield 21, 3) := by decide +kernel
theorem dX0_init_37 : decode cX0_init 37 = .ok (.aload_n 0, 1) := by decide +kernel
theorem dX0_init_38 : decode cX0_init 38 = .ok (.bipush 96, 2) := by decide +kernel
theorem dX0_init_40 : decode cX0_init 40 = .ok (.newarray .int, 2) := by decide +kernel
theorem dX0_init_42 : decode cX0_init 42 = .ok (.putfield 24, 3) := by decide +kernel
theorem dX0_init_45 : decode cX0_init 45 = .ok (.aload_n 0, 1) := by decide +kernel
theorem dX0_init_46 : decode cX0_init 46 = .ok (.bipush 96, 2) := by decide +kernel
theorem dX0_init_48 : decode cX0_init 48 = .ok (.newarray .int, 2) := by decide +kernel
theorem dX0_init_50 : decode cX0_init 50 = .ok (.putfield 27, 3) := by decide +kernel
theorem dX0_init_53 : decode cX0_init 53 = .ok (.aload_n 0, 1) := by decide +kernel
theorem dX0_init_54 : decode cX0_init 54 = .ok (.bipush 12, 2) := by decide +kernel
theorem dX0_init_56 : decode cX0_init 56 = .ok (.newarray .int, 2) := by decide +kernel
theorem dX0_init_58 : decode cX0_init 58 = .ok (.putfield 30, 3) := by decide +kernel
theorem dX0_init_61 : decode cX0_init 61 = .ok (.aload_n 0, 1) := by decide +kernel
theorem dX0_init_62 : decode cX0_init 62 = .ok (.bipush 24, 2) := by decide +kernel
theorem dX0_init_64 : decode cX0_init 64 = .ok (.newarray .int, 2) := by decide +kernel
theorem dX0_init_66 : decode cX0_init 66 = .ok (.putfield 33, 3) := by decide +kernel
theorem dX0_init_69 : decode cX0_init 69 = .ok (.return_, 1) := by decide +kernel
theorem dX3_init_0 : decode cX3_init 0 = .ok (.aload_n 0, 1) := by decide +kernel
theorem dX3_init_1 : decode cX3_init 1 = .ok (.invokespecial 3, 3) := by decide +kernel
theorem dX3_init_4 : decode cX3_init 4 = .ok (.aload_n 0, 1) := by decide +kernel
theorem dX3_init_5 : decode cX3_init 5 = .ok (.sipush 192, 3) := by decide +kernel
theorem dX3_init_8 : decode cX3_init 8 = .ok (.newarray .int, 2) := by decide +kernel
theorem dX3_init_10 : decode cX3_init 10 = .ok (.putfield 9, 3) := by decide +kernel
theorem dX3_init_13 : decode cX3_init 13 = .ok (.aload_n 0, 1) := by decide +kernel
theorem dX3_init_14 : decode cX3_init 14 = .ok (.sipush 192, 3) := by decide +kernel
theorem dX3_init_17 : decode cX3_init 17 = .ok (.newarray .int, 2) := by decide +kernel
theorem dX3_init_19 : decode cX3_init 19 = .ok (.putfield 15, 3) := by decide +kernel
theorem dX3_init_22 : decode cX3_init 22 = .ok (.aload_n 0, 1) := by decide +kernel
theorem dX3_init_23 : decode cX3_init 23 = .ok (.sipush 192, 3) := by decide +kernel
theorem dX3_init_26 : decode cX3_init 26 = .ok (.newarray .int, 2) := by decide +kernel
theorem dX3_init_28 : decode cX3_init 28 = .ok (.putfield 18, 3) := by decide +kernel
theorem dX3_init_31 : decode cX3_init 31 = .ok (.aload_n 0, 1) := by decide +kernel
theorem dX3_init_32 : decode cX3_init 32 = .ok (.sipush 192, 3) := by decide +kernel
theorem dX3_init_35 : decode cX3_init 35 = .ok (.newarray .int, 2) := by decide +kernel
theorem dX3_init_37 : decode cX3_init 37 = .ok (.putfield 21, 3) := by decide +kernel
theorem dX3_init_40 : decode cX3_init 40 = .ok (.aload_n 0, 1) := by decide +kernel
theorem dX3_init_41 : decode cX3_init 41 = .ok (.sipush 192, 3) := by decide +kernel
theorem dX3_init_44 : decode cX3_init 44 = .ok (.newarray .int, 2) := by decide +kernel
theorem dX3_init_46 : decode cX3_init 46 = .ok (.putfield 24, 3) := by decide +kernel
theorem dX3_init_49 : decode cX3_init 49 = .ok (.aload_n 0, 1) := by decide +kernel
theorem dX3_init_50 : decode cX3_init 50 = .ok (.sipush 192, 3) := by decide +kernel
theorem dX3_init_53 : decode cX3_init 53 = .ok (.newarray .int, 2) := by decide +kernel
theorem dX3_init_55 : decode cX3_init 55 = .ok (.putfield 27, 3) := by decide +kernel
theorem dX3_init_58 : decode cX3_init 58 = .ok (.aload_n 0, 1) := by decide +kernel
theorem dX3_init_59 : decode cX3_init 59 = .ok (.sipush 192, 3) := by decide +kernel
theorem dX3_init_62 : decode cX3_init 62 = .ok (.newarray .int, 2) := by decide +kernel
theorem dX3_init_64 : decode cX3_init 64 = .ok (.putfield 30, 3) := by decide +kernel
theorem dX3_init_67 : decode cX3_init 67 = .ok (.aload_n 0, 1) := by decide +kernel
theorem dX3_init_68 : decode cX3_init 68 = .ok (.bipush 48, 2) := by decide +kernel
theorem dX3_init_70 : decode cX3_init 70 = .ok (.newarray .int, 2) := by decide +kernel
theorem dX3_init_72 : decode cX3_init 72 = .ok (.putfield 33, 3) := by decide +kernel
theorem dX3_init_75 : decode cX3_init 75 = .ok (.aload_n 0, 1) := by decide +kernel
theorem dX3_init_76 : decode cX3_init 76 = .ok (.bipush 48, 2) := by decide +kernel
theorem dX3_init_78 : decode cX3_init 78 = .ok (.newarray .int, 2) := by decide +kernel
theorem dX3_init_80 : decode cX3_init 80 = .ok (.putfield 36, 3) := by decide +kernel
theorem dX3_init_83 : decode cX3_init 83 = .ok (.return_, 1) := by decide +kernel
theorem dX5_init_0 : decode cX5_init 0 = .ok (.aload_n 0, 1) := by decide +kernel
theorem dX5_init_1 : decode cX5_init 1 = .ok (.invokespecial 3, 3) := by decide +kernel
theorem dX5_init_4 : decode cX5_init 4 = .ok (.aload_n 0, 1) := by decide +kernel
theorem dX5_init_5 : decode cX5_init 5 = .ok (.sipush 441, 3) := by decide +kernel
theorem dX5_init_8 : decode cX5_init 8 = .ok (.newarray .int, 2) := by decide +kernel
theorem dX5_init_10 : decode cX5_init 10 = .ok (.putfield 9, 3) := by decide +kernel
theorem dX5_init_13 : decode cX5_init 13 = .ok (.aload_n 0, 1) := by decide +kernel
theorem dX5_init_14 : decode cX5_init 14 = .ok (.sipush 441, 3) := by decide +kernel
theorem dX5_init_17 : decode cX5_init 17 = .ok (.newarray .int, 2) := by decide +kernel
theorem dX5_init_19 : decode cX5_init 19 = .ok (.putfield 15, 3) := by decide +kernel
theorem dX5_init_22 : decode cX5_init 22 = .ok (.aload_n 0, 1) := by decide +kernel
theorem dX5_init_23 : decode cX5_init 23 = .ok (.sipush 441, 3) := by decide +kernel
theorem dX5_init_26 : decode cX5_init 26 = .ok (.newarray .int, 2) := by decide +kernel
theorem dX5_init_28 : decode cX5_init 28 = .ok (.putfield 18, 3) := by decide +kernel
theorem dX5_init_31 : decode cX5_init 31 = .ok (.aload_n 0, 1) := by decide +kernel
theorem dX5_init_32 : decode cX5_init 32 = .ok (.bipush 24, 2) := by decide +kernel
theorem dX5_init_34 : decode cX5_init 34 = .ok (.newarray .int, 2) := by decide +kernel
theorem dX5_init_36 : decode cX5_init 36 = .ok (.putfield 21, 3) := by decide +kernel
theorem dX5_init_39 : decode cX5_init 39 = .ok (.aload_n 0, 1) := by decide +kernel
theorem dX5_init_40 : decode cX5_init 40 = .ok (.bipush 24, 2) := by decide +kernel
theorem dX5_init_42 : decode cX5_init 42 = .ok (.newarray .int, 2) := by decide +kernel
theorem dX5_init_44 : decode cX5_init 44 = .ok (.putfield 24, 3) := by decide +kernel
theorem dX5_init_47 : decode cX5_init 47 = .ok (.aload_n 0, 1) := by decide +kernel
theorem dX5_init_48 : decode cX5_init 48 = .ok (.bipush 24, 2) := by decide +kernel
theorem dX5_init_50 : decode cX5_init 50 = .ok (.newarray .int, 2) := by decide +kernel
theorem dX5_init_52 : decode cX5_init 52 = .ok (.putfield 27, 3) := by decide +kernel
theorem dX5_init_55 : decode cX5_init 55 = .ok (.aload_n 0, 1) := by decide +kernel
theorem dX5_init_56 : decode cX5_init 56 = .ok (.bipush 24, 2) := by decide +kernel
theorem dX5_init_58 : decode cX5_init 58 = .ok (.newarray .int, 2) := by decide +kernel
theorem dX5_init_60 : decode cX5_init 60 = .ok (.putfield 30, 3) := by decide +kernel
theorem dX5_init_63 : decode cX5_init 63 = .ok (.aload_n 0, 1) := by decide +kernel
theorem dX5_init_64 : decode cX5_init 64 = .ok (.sipush 192, 3) := by decide +kernel
theorem dX5_init_67 : decode cX5_init 67 = .ok (.newarray .int, 2) := by decide +kernel
theorem dX5_init_69 : decode cX5_init 69 = .ok (.putfield 33, 3) := by decide +kernel
theorem dX5_init_72 : decode cX5_init 72 = .ok (.aload_n 0, 1) := by decide +kernel
theorem dX5_init_73 : decode cX5_init 73 = .ok (.aload_n 1, 1) := by decide +kernel
theorem dX5_init_74 : decode cX5_init 74 = .ok (.putfield 36, 3) := by decide +kernel
theorem dX5_init_77 : decode cX5_init 77 = .ok (.aload_n 0, 1) := by decide +kernel
theorem dX5_init_78 : decode cX5_init 78 = .ok (.new 40, 3) := by decide +kernel
theorem dX5_init_81 : decode cX5_init 81 = .ok (.dup, 1) := by decide +kernel
theorem dX5_init_82 : decode cX5_init 82 = .ok (.invokespecial 42, 3) := by decide +kernel
theorem dX5_init_85 : decode cX5_init 85 = .ok (.putfield 43, 3) := by decide +kernel
theorem dX5_init_88 : decode cX5_init 88 = .ok (.aload_n 0, 1) := by decide +kernel
theorem dX5_init_89 : decode cX5_init 89 = .ok (.getfield 9, 3) := by decide +kernel
theorem dX5_init_92 : decode cX5_init 92 = .ok (.iconst (-1), 1) := by decide +kernel
theorem dX5_init_93 : decode cX5_init 93 = .ok (.invokestatic 47, 3) := by decide +kernel
theorem dX5_init_96 : decode cX5_init 96 = .ok (.aload_n 0, 1) := by decide +kernel
theorem dX5_init_97 : decode cX5_init 97 = .ok (.getfield 15, 3) := by decide +kernel
theorem dX5_init_100 : decode cX5_init 100 = .ok (.sipush 220, 3) := by decide +kernel
theorem dX5_init_103 : decode cX5_init 103 = .ok (.iconst 1, 1) := by decide +kernel
theorem dX5_init_104 : decode cX5_init 104 = .ok (.iastore, 1) := by decide +kernel
theorem dX5_init_105 : decode cX5_init 105 = .ok (.iconst 0, 1) := by decide +kernel
theorem dX5_init_106 : decode cX5_init 106 = .ok (.istore_n 2, 1) := by decide +kernel
theorem dX5_init_107 : decode cX5_init 107 = .ok (.iload_n 2, 1) := by decide +kernel
theorem dX5_init_108 : decode cX5_init 108 = .ok (.bipush 21, 2) := by decide +kernel
theorem dX5_init_110 : decode cX5_init 110 = .ok (.if_icmp .ge 56, 3) := by decide +kernel
theorem dX5_init_113 : decode cX5_init 113 = .ok (.aload_n 0, 1) := by decide +kernel
theorem dX5_init_114 : decode cX5_init 114 = .ok (.getfield 15, 3) := by decide +kernel
theorem dX5_init_117 : decode cX5_init 117 = .ok (.iload_n 2, 1) := by decide +kernel
theorem dX5_init_118 : decode cX5_init 118 = .ok (.bipush (-4), 2) := by decide +kernel
theorem dX5_init_120 : decode cX5_init 120 = .ok (.iastore, 1) := by decide +kernel
theorem dX5_init_121 : decode cX5_init 121 = .ok (.aload_n 0, 1) := by decide +kernel
theorem dX5_init_122 : decode cX5_init 122 = .ok (.getfield 15, 3) := by decide +kernel
theorem dX5_init_125 : decode cX5_init 125 = .ok (.sipush 440, 3) := by decide +kernel
theorem dX5_init_128 : decode cX5_init 128 = .ok (.iload_n 2, 1) := by decide +kernel
theorem dX5_init_129 : decode cX5_init 129 = .ok (.isub, 1) := by decide +kernel
theorem dX5_init_130 : decode cX5_init 130 = .ok (.bipush (-4), 2) := by decide +kernel
theorem dX5_init_132 : decode cX5_init 132 = .ok (.iastore, 1) := by decide +kernel
theorem dX5_init_133 : decode cX5_init 133 = .ok (.aload_n 0, 1) := by decide +kernel
theorem dX5_init_134 : decode cX5_init 134 = .ok (.getfield 15, 3) := by decide +kernel
theorem dX5_init_137 : decode cX5_init 137 = .ok (.iload_n 2, 1) := by decide +kernel
theorem dX5_init_138 : decode cX5_init 138 = .ok (.bipush 21, 2) := by decide +kernel
theorem dX5_init_140 : decode cX5_init 140 = .ok (.imul, 1) := by decide +kernel
theorem dX5_init_141 : decode cX5_init 141 = .ok (.bipush (-4), 2) := by decide +kernel
theorem dX5_init_143 : decode cX5_init 143 = .ok (.iastore, 1) := by decide +kernel
theorem dX5_init_144 : decode cX5_init 144 = .ok (.aload_n 0, 1) := by decide +kernel
theorem dX5_init_145 : decode cX5_init 145 = .ok (.getfield 15, 3) := by decide +kernel
theorem dX5_init_148 : decode cX5_init 148 = .ok (.iload_n 2, 1) := by decide +kernel
theorem dX5_init_149 : decode cX5_init 149 = .ok (.bipush 21, 2) := by decide +kernel
theorem dX5_init_151 : decode cX5_init 151 = .ok (.imul, 1) := by decide +kernel
theorem dX5_init_152 : decode cX5_init 152 = .ok (.bipush 21, 2) := by decide +kernel
theorem dX5_init_154 : decode cX5_init 154 = .ok (.iadd, 1) := by decide +kernel
theorem dX5_init_155 : decode cX5_init 155 = .ok (.iconst 1, 1) := by decide +kernel
theorem dX5_init_156 : decode cX5_init 156 = .ok (.isub, 1) := by decide +kernel
theorem dX5_init_157 : decode cX5_init 157 = .ok (.bipush (-4), 2) := by decide +kernel
theorem dX5_init_159 : decode cX5_init 159 = .ok (.iastore, 1) := by decide +kernel
theorem dX5_init_160 : decode cX5_init 160 = .ok (.iinc 2 1, 3) := by decide +kernel
theorem dX5_init_163 : decode cX5_init 163 = .ok (.goto (-56), 3) := by decide +kernel
theorem dX5_init_166 : decode cX5_init 166 = .ok (.return_, 1) := by decide +kernel
theorem dX2_init_0 : decode cX2_init 0 = .ok (.aload_n 0, 1) := by decide +kernel
theorem dX2_init_1 : decode cX2_init 1 = .ok (.invokespecial 3, 3) := by decide +kernel
theorem dX2_init_4 : decode cX2_init 4 = .ok (.aload_n 0, 1) := by decide +kernel
theorem dX2_init_5 : decode cX2_init 5 = .ok (.iconst (-1), 1) := by decide +kernel
theorem dX2_init_6 : decode cX2_init 6 = .ok (.putfield 9, 3) := by decide +kernel
theorem dX2_init_9 : decode cX2_init 9 = .ok (.aload_n 0, 1) := by decide +kernel
theorem dX2_init_10 : decode cX2_init 10 = .ok (.iconst 3, 1) := by decide +kernel
theorem dX2_init_11 : decode cX2_init 11 = .ok (.newarray .int, 2) := by decide +kernel
theorem dX2_init_13 : decode cX2_init 13 = .ok (.putfield 15, 3) := by decide +kernel
theorem dX2_init_16 : decode cX2_init 16 = .ok (.aload_n 0, 1) := by decide +kernel
theorem dX2_init_17 : decode cX2_init 17 = .ok (.iconst 3, 1) := by decide +kernel
theorem dX2_init_18 : decode cX2_init 18 = .ok (.newarray .int, 2) := by decide +kernel
theorem dX2_init_20 : decode cX2_init 20 = .ok (.putfield 19, 3) := by decide +kernel
theorem dX2_init_23 : decode cX2_init 23 = .ok (.aload_n 0, 1) := by decide +kernel
theorem dX2_init_24 : decode cX2_init 24 = .ok (.iconst 3, 1) := by decide +kernel
theorem dX2_init_25 : decode cX2_init 25 = .ok (.newarray .int, 2) := by decide +kernel
theorem dX2_init_27 : decode cX2_init 27 = .ok (.putfield 22, 3) := by decide +kernel
theorem dX2_init_30 : decode cX2_init 30 = .ok (.aload_n 0, 1) := by decide +kernel
theorem dX2_init_31 : decode cX2_init 31 = .ok (.sipush 240, 3) := by decide +kernel
theorem dX2_init_34 : decode cX2_init 34 = .ok (.newarray .int, 2) := by decide +kernel
theorem dX2_init_36 : decode cX2_init 36 = .ok (.putfield 25, 3) := by decide +kernel
theorem dX2_init_39 : decode cX2_init 39 = .ok (.aload_n 0, 1) := by decide +kernel
theorem dX2_init_40 : decode cX2_init 40 = .ok (.aload_n 1, 1) := by decide +kernel
theorem dX2_init_41 : decode cX2_init 41 = .ok (.putfield 28, 3) := by decide +kernel
theorem dX2_init_44 : decode cX2_init 44 = .ok (.aload_n 0, 1) := by decide +kernel
theorem dX2_init_45 : decode cX2_init 45 = .ok (.aload_n 2, 1) := by decide +kernel
theorem dX2_init_46 : decode cX2_init 46 = .ok (.putfield 32, 3) := by decide +kernel
theorem dX2_init_49 : decode cX2_init 49 = .ok (.return_, 1) := by decide +kernel
theorem dX1_init_0 : decode cX1_init 0 = .ok (.aload_n 0, 1) := by decide +kernel
theorem dX1_init_1 : decode cX1_init 1 = .ok (.invokespecial 3, 3) := by decide +kernel
theorem dX1_init_4 : decode cX1_init 4 = .ok (.aload_n 0, 1) := by decide +kernel
theorem dX1_init_5 : decode cX1_init 5 = .ok (.iconst 3, 1) := by decide +kernel
theorem dX1_init_6 : decode cX1_init 6 = .ok (.newarray .int, 2) := by decide +kernel
theorem dX1_init_8 : decode cX1_init 8 = .ok (.putfield 9, 3) := by decide +kernel
theorem dX1_init_11 : decode cX1_init 11 = .ok (.return_, 1) := by decide +kernel
theorem dX4_init_0 : decode cX4_init 0 = .ok (.aload_n 0, 1) := by decide +kernel
theorem dX4_init_1 : decode cX4_init 1 = .ok (.invokespecial 3, 3) := by decide +kernel
theorem dX4_init_4 : decode cX4_init 4 = .ok (.aload_n 0, 1) := by decide +kernel
theorem dX4_init_5 : decode cX4_init 5 = .ok (.iconst 2, 1) := by decide +kernel
theorem dX4_init_6 : decode cX4_init 6 = .ok (.anewarray 9, 3) := by decide +kernel
theorem dX4_init_9 : decode cX4_init 9 = .ok (.dup, 1) := by decide +kernel
theorem dX4_init_10 : decode cX4_init 10 = .ok (.iconst 0, 1) := by decide +kernel
theorem dX4_init_11 : decode cX4_init 11 = .ok (.new 9, 3) := by decide +kernel
theorem dX4_init_14 : decode cX4_init 14 = .ok (.dup, 1) := by decide +kernel
theorem dX4_init_15 : decode cX4_init 15 = .ok (.invokespecial 11, 3) := by decide +kernel
theorem dX4_init_18 : decode cX4_init 18 = .ok (.aastore, 1) := by decide +kernel
theorem dX4_init_19 : decode cX4_init 19 = .ok (.dup, 1) := by decide +kernel
theorem dX4_init_20 : decode cX4_init 20 = .ok (.iconst 1, 1) := by decide +kernel
theorem dX4_init_21 : decode cX4_init 21 = .ok (.new 9, 3) := by decide +kernel
theorem dX4_init_24 : decode cX4_init 24 = .ok (.dup, 1) := by decide +kernel
theorem dX4_init_25 : decode cX4_init 25 = .ok (.invokespecial 11, 3) := by decide +kernel
theorem dX4_init_28 : decode cX4_init 28 = .ok (.aastore, 1) := by decide +kernel
theorem dX4_init_29 : decode cX4_init 29 = .ok (.putfield 12, 3) := by decide +kernel
theorem dX4_init_32 : decode cX4_init 32 = .ok (.aload_n 0, 1) := by decide +kernel
theorem dX4_init_33 : decode cX4_init 33 = .ok (.iconst (-1), 1) := by decide +kernel
theorem dX4_init_34 : decode cX4_init 34 = .ok (.putfield 18, 3) := by decide +kernel
