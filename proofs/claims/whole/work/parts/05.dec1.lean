theorem dX5_addTile_76 : decode cX5_addTile 76 = .ok (.bipush 8, 2) := by decide +kernel
theorem dX5_addTile_78 : decode cX5_addTile 78 = .ok (.imul, 1) := by decide +kernel
theorem dX5_addTile_79 : decode cX5_addTile 79 = .ok (.iload 5, 2) := by decide +kernel
theorem dX5_addTile_81 : decode cX5_addTile 81 = .ok (.iadd, 1) := by decide +kernel
theorem dX5_addTile_82 : decode cX5_addTile 82 = .ok (.istore 6, 2) := by decide +kernel
theorem dX5_addTile_84 : decode cX5_addTile 84 = .ok (.aload_n 0, 1) := by decide +kernel
theorem dX5_addTile_85 : decode cX5_addTile 85 = .ok (.getfield 43, 3) := by decide +kernel
theorem dX5_addTile_88 : decode cX5_addTile 88 = .ok (.iload_n 3, 1) := by decide +kernel
theorem dX5_addTile_89 : decode cX5_addTile 89 = .ok (.bipush 8, 2) := by decide +kernel
theorem dX5_addTile_91 : decode cX5_addTile 91 = .ok (.imul, 1) := by decide +kernel
theorem dX5_addTile_92 : decode cX5_addTile 92 = .ok (.iload 5, 2) := by decide +kernel
theorem dX5_addTile_94 : decode cX5_addTile 94 = .ok (.iadd, 1) := by decide +kernel
theorem dX5_addTile_95 : decode cX5_addTile 95 = .ok (.aload_n 0, 1) := by decide +kernel
theorem dX5_addTile_96 : decode cX5_addTile 96 = .ok (.getfield 36, 3) := by decide +kernel
theorem dX5_addTile_99 : decode cX5_addTile 99 = .ok (.getfield 76, 3) := by decide +kernel
theorem dX5_addTile_102 : decode cX5_addTile 102 = .ok (.iload 6, 2) := by decide +kernel
theorem dX5_addTile_104 : decode cX5_addTile 104 = .ok (.iaload, 1) := by decide +kernel
theorem dX5_addTile_105 : decode cX5_addTile 105 = .ok (.aload_n 0, 1) := by decide +kernel
theorem dX5_addTile_106 : decode cX5_addTile 106 = .ok (.getfield 36, 3) := by decide +kernel
theorem dX5_addTile_109 : decode cX5_addTile 109 = .ok (.getfield 79, 3) := by decide +kernel
theorem dX5_addTile_112 : decode cX5_addTile 112 = .ok (.iload 6, 2) := by decide +kernel
theorem dX5_addTile_114 : decode cX5_addTile 114 = .ok (.iaload, 1) := by decide +kernel
theorem dX5_addTile_115 : decode cX5_addTile 115 = .ok (.invokevirtual 82, 3) := by decide +kernel
theorem dX5_addTile_118 : decode cX5_addTile 118 = .ok (.iinc 5 1, 3) := by decide +kernel
theorem dX5_addTile_121 : decode cX5_addTile 121 = .ok (.goto (-53), 3) := by decide +kernel
theorem dX5_addTile_124 : decode cX5_addTile 124 = .ok (.iconst 0, 1) := by decide +kernel
theorem dX5_addTile_125 : decode cX5_addTile 125 = .ok (.istore 5, 2) := by decide +kernel
theorem dX5_addTile_127 : decode cX5_addTile 127 = .ok (.iload 5, 2) := by decide +kernel
theorem dX5_addTile_129 : decode cX5_addTile 129 = .ok (.iconst 4, 1) := by decide +kernel
theorem dX5_addTile_130 : decode cX5_addTile 130 = .ok (.if_icmp .ge 35, 3) := by decide +kernel
theorem dX5_addTile_133 : decode cX5_addTile 133 = .ok (.aload_n 0, 1) := by decide +kernel
theorem dX5_addTile_134 : decode cX5_addTile 134 = .ok (.getfield 15, 3) := by decide +kernel
theorem dX5_addTile_137 : decode cX5_addTile 137 = .ok (.iload 4, 2) := by decide +kernel
theorem dX5_addTile_139 : decode cX5_addTile 139 = .ok (.getstatic 57, 3) := by decide +kernel
theorem dX5_addTile_142 : decode cX5_addTile 142 = .ok (.iload 5, 2) := by decide +kernel
theorem dX5_addTile_144 : decode cX5_addTile 144 = .ok (.iaload, 1) := by decide +kernel
theorem dX5_addTile_145 : decode cX5_addTile 145 = .ok (.iadd, 1) := by decide +kernel
theorem dX5_addTile_146 : decode cX5_addTile 146 = .ok (.dup2, 1) := by decide +kernel
theorem dX5_addTile_147 : decode cX5_addTile 147 = .ok (.iaload, 1) := by decide +kernel
theorem dX5_addTile_148 : decode cX5_addTile 148 = .ok (.iconst 1, 1) := by decide +kernel
theorem dX5_addTile_149 : decode cX5_addTile 149 = .ok (.iadd, 1) := by decide +kernel
theorem dX5_addTile_150 : decode cX5_addTile 150 = .ok (.iastore, 1) := by decide +kernel
theorem dX5_addTile_151 : decode cX5_addTile 151 = .ok (.aload_n 0, 1) := by decide +kernel
theorem dX5_addTile_152 : decode cX5_addTile 152 = .ok (.iload_n 3, 1) := by decide +kernel
theorem dX5_addTile_153 : decode cX5_addTile 153 = .ok (.iload 5, 2) := by decide +kernel
theorem dX5_addTile_155 : decode cX5_addTile 155 = .ok (.iconst (-1), 1) := by decide +kernel
theorem dX5_addTile_156 : decode cX5_addTile 156 = .ok (.invokevirtual 86, 3) := by decide +kernel
theorem dX5_addTile_159 : decode cX5_addTile 159 = .ok (.iinc 5 1, 3) := by decide +kernel
theorem dX5_addTile_162 : decode cX5_addTile 162 = .ok (.goto (-35), 3) := by decide +kernel
theorem dX5_addTile_165 : decode cX5_addTile 165 = .ok (.iconst 0, 1) := by decide +kernel
theorem dX5_addTile_166 : decode cX5_addTile 166 = .ok (.istore 5, 2) := by decide +kernel
theorem dX5_addTile_168 : decode cX5_addTile 168 = .ok (.iload 5, 2) := by decide +kernel
theorem dX5_addTile_170 : decode cX5_addTile 170 = .ok (.iconst 4, 1) := by decide +kernel
theorem dX5_addTile_171 : decode cX5_addTile 171 = .ok (.if_icmp .ge 16, 3) := by decide +kernel
theorem dX5_addTile_174 : decode cX5_addTile 174 = .ok (.aload_n 0, 1) := by decide +kernel
theorem dX5_addTile_175 : decode cX5_addTile 175 = .ok (.iload_n 3, 1) := by decide +kernel
theorem dX5_addTile_176 : decode cX5_addTile 176 = .ok (.iload 5, 2) := by decide +kernel
theorem dX5_addTile_178 : decode cX5_addTile 178 = .ok (.invokevirtual 89, 3) := by decide +kernel
theorem dX5_addTile_181 : decode cX5_addTile 181 = .ok (.iinc 5 1, 3) := by decide +kernel
theorem dX5_addTile_184 : decode cX5_addTile 184 = .ok (.goto (-16), 3) := by decide +kernel
theorem dX5_addTile_187 : decode cX5_addTile 187 = .ok (.iconst 0, 1) := by decide +kernel
theorem dX5_addTile_188 : decode cX5_addTile 188 = .ok (.istore 5, 2) := by decide +kernel
theorem dX5_addTile_190 : decode cX5_addTile 190 = .ok (.iload 5, 2) := by decide +kernel
theorem dX5_addTile_192 : decode cX5_addTile 192 = .ok (.getstatic 93, 3) := by decide +kernel
theorem dX5_addTile_195 : decode cX5_addTile 195 = .ok (.arraylength, 1) := by decide +kernel
theorem dX5_addTile_196 : decode cX5_addTile 196 = .ok (.if_icmp .ge 27, 3) := by decide +kernel
theorem dX5_addTile_199 : decode cX5_addTile 199 = .ok (.aload_n 0, 1) := by decide +kernel
theorem dX5_addTile_200 : decode cX5_addTile 200 = .ok (.getfield 18, 3) := by decide +kernel
theorem dX5_addTile_203 : decode cX5_addTile 203 = .ok (.iload 4, 2) := by decide +kernel
theorem dX5_addTile_205 : decode cX5_addTile 205 = .ok (.getstatic 93, 3) := by decide +kernel
theorem dX5_addTile_208 : decode cX5_addTile 208 = .ok (.iload 5, 2) := by decide +kernel
theorem dX5_addTile_210 : decode cX5_addTile 210 = .ok (.iaload, 1) := by decide +kernel
theorem dX5_addTile_211 : decode cX5_addTile 211 = .ok (.iadd, 1) := by decide +kernel
theorem dX5_addTile_212 : decode cX5_addTile 212 = .ok (.dup2, 1) := by decide +kernel
theorem dX5_addTile_213 : decode cX5_addTile 213 = .ok (.iaload, 1) := by decide +kernel
theorem dX5_addTile_214 : decode cX5_addTile 214 = .ok (.iconst 1, 1) := by decide +kernel
theorem dX5_addTile_215 : decode cX5_addTile 215 = .ok (.iadd, 1) := by decide +kernel
theorem dX5_addTile_216 : decode cX5_addTile 216 = .ok (.iastore, 1) := by decide +kernel
theorem dX5_addTile_217 : decode cX5_addTile 217 = .ok (.iinc 5 1, 3) := by decide +kernel
theorem dX5_addTile_220 : decode cX5_addTile 220 = .ok (.goto (-30), 3) := by decide +kernel
theorem dX5_addTile_223 : decode cX5_addTile 223 = .ok (.return_, 1) := by decide +kernel
theorem dX2_lay_0 : decode cX2_lay 0 = .ok (.aload_n 0, 1) := by decide +kernel
theorem dX2_lay_1 : decode cX2_lay 1 = .ok (.getfield 32, 3) := by decide +kernel
theorem dX2_lay_4 : decode cX2_lay 4 = .ok (.aload_n 0, 1) := by decide +kernel
theorem dX2_lay_5 : decode cX2_lay 5 = .ok (.getfield 9, 3) := by decide +kernel
theorem dX2_lay_8 : decode cX2_lay 8 = .ok (.iload_n 1, 1) := by decide +kernel
theorem dX2_lay_9 : decode cX2_lay 9 = .ok (.invokevirtual 79, 3) := by decide +kernel
theorem dX2_lay_12 : decode cX2_lay 12 = .ok (.aload_n 0, 1) := by decide +kernel
theorem dX2_lay_13 : decode cX2_lay 13 = .ok (.iconst (-1), 1) := by decide +kernel
theorem dX2_lay_14 : decode cX2_lay 14 = .ok (.putfield 9, 3) := by decide +kernel
theorem dX2_lay_17 : decode cX2_lay 17 = .ok (.aload_n 0, 1) := by decide +kernel
theorem dX2_lay_18 : decode cX2_lay 18 = .ok (.iconst 1, 1) := by decide +kernel
theorem dX2_lay_19 : decode cX2_lay 19 = .ok (.putfield 71, 3) := by decide +kernel
theorem dX2_lay_22 : decode cX2_lay 22 = .ok (.return_, 1) := by decide +kernel
theorem dX6_place_0 : decode cX6_place 0 = .ok (.iload_n 1, 1) := by decide +kernel
theorem dX6_place_1 : decode cX6_place 1 = .ok (.iload_n 2, 1) := by decide +kernel
theorem dX6_place_2 : decode cX6_place 2 = .ok (.invokestatic 106, 3) := by decide +kernel
theorem dX6_place_5 : decode cX6_place 5 = .ok (.ifCond .eq 23, 3) := by decide +kernel
theorem dX6_place_8 : decode cX6_place 8 = .ok (.iload_n 3, 1) := by decide +kernel
theorem dX6_place_9 : decode cX6_place 9 = .ok (.ifCond .lt 19, 3) := by decide +kernel
theorem dX6_place_12 : decode cX6_place 12 = .ok (.iload_n 3, 1) := by decide +kernel
theorem dX6_place_13 : decode cX6_place 13 = .ok (.iconst 4, 1) := by decide +kernel
theorem dX6_place_14 : decode cX6_place 14 = .ok (.if_icmp .ge 14, 3) := by decide +kernel
theorem dX6_place_17 : decode cX6_place 17 = .ok (.aload_n 0, 1) := by decide +kernel
theorem dX6_place_18 : decode cX6_place 18 = .ok (.getfield 30, 3) := by decide +kernel
theorem dX6_place_21 : decode cX6_place 21 = .ok (.getfield 77, 3) := by decide +kernel
theorem dX6_place_24 : decode cX6_place 24 = .ok (.iconst (-1), 1) := by decide +kernel
theorem dX6_place_25 : decode cX6_place 25 = .ok (.if_icmp .ne 6, 3) := by decide +kernel
theorem dX6_place_28 : decode cX6_place 28 = .ok (.bipush (-2), 2) := by decide +kernel
theorem dX6_place_30 : decode cX6_place 30 = .ok (.ireturn, 1) := by decide +kernel
theorem dX6_place_31 : decode cX6_place 31 = .ok (.iload_n 1, 1) := by decide +kernel
theorem dX6_place_32 : decode cX6_place 32 = .ok (.iload_n 2, 1) := by decide +kernel
theorem dX6_place_33 : decode cX6_place 33 = .ok (.invokestatic 110, 3) := by decide +kernel
theorem dX6_place_36 : decode cX6_place 36 = .ok (.iconst 4, 1) := by decide +kernel
theorem dX6_place_37 : decode cX6_place 37 = .ok (.imul, 1) := by decide +kernel
theorem dX6_place_38 : decode cX6_place 38 = .ok (.iload_n 3, 1) := by decide +kernel
theorem dX6_place_39 : decode cX6_place 39 = .ok (.iadd, 1) := by decide +kernel
theorem dX6_place_40 : decode cX6_place 40 = .ok (.istore 4, 2) := by decide +kernel
theorem dX6_place_42 : decode cX6_place 42 = .ok (.aload_n 0, 1) := by decide +kernel
theorem dX6_place_43 : decode cX6_place 43 = .ok (.getfield 21, 3) := by decide +kernel
theorem dX6_place_46 : decode cX6_place 46 = .ok (.aload_n 0, 1) := by decide +kernel
theorem dX6_place_47 : decode cX6_place 47 = .ok (.getfield 30, 3) := by decide +kernel
theorem dX6_place_50 : decode cX6_place 50 = .ok (.getfield 77, 3) := by decide +kernel
theorem dX6_place_53 : decode cX6_place 53 = .ok (.iload 4, 2) := by decide +kernel
theorem dX6_place_55 : decode cX6_place 55 = .ok (.invokevirtual 113, 3) := by decide +kernel
theorem dX6_place_58 : decode cX6_place 58 = .ok (.iload 4, 2) := by decide +kernel
theorem dX6_place_60 : decode cX6_place 60 = .ok (.if_icmp .eq 6, 3) := by decide +kernel
theorem dX6_place_63 : decode cX6_place 63 = .ok (.bipush (-2), 2) := by decide +kernel
theorem dX6_place_65 : decode cX6_place 65 = .ok (.ireturn, 1) := by decide +kernel
theorem dX6_place_66 : decode cX6_place 66 = .ok (.aload_n 0, 1) := by decide +kernel
theorem dX6_place_67 : decode cX6_place 67 = .ok (.getfield 39, 3) := by decide +kernel
theorem dX6_place_70 : decode cX6_place 70 = .ok (.invokevirtual 66, 3) := by decide +kernel
theorem dX6_place_73 : decode cX6_place 73 = .ok (.aload_n 0, 1) := by decide +kernel
theorem dX6_place_74 : decode cX6_place 74 = .ok (.getfield 30, 3) := by decide +kernel
theorem dX6_place_77 : decode cX6_place 77 = .ok (.iload 4, 2) := by decide +kernel
theorem dX6_place_79 : decode cX6_place 79 = .ok (.invokevirtual 116, 3) := by decide +kernel
theorem dX6_place_82 : decode cX6_place 82 = .ok (.aload_n 0, 1) := by decide +kernel
theorem dX6_place_83 : decode cX6_place 83 = .ok (.getfield 21, 3) := by decide +kernel
theorem dX6_place_86 : decode cX6_place 86 = .ok (.getfield 84, 3) := by decide +kernel
theorem dX6_place_89 : decode cX6_place 89 = .ok (.iconst 1, 1) := by decide +kernel
theorem dX6_place_90 : decode cX6_place 90 = .ok (.isub, 1) := by decide +kernel
theorem dX6_place_91 : decode cX6_place 91 = .ok (.ireturn, 1) := by decide +kernel
theorem dX5_kindOf_0 : decode cX5_kindOf 0 = .ok (.aload_n 0, 1) := by decide +kernel
theorem dX5_kindOf_1 : decode cX5_kindOf 1 = .ok (.getfield 36, 3) := by decide +kernel
theorem dX5_kindOf_4 : decode cX5_kindOf 4 = .ok (.getfield 119, 3) := by decide +kernel
theorem dX5_kindOf_7 : decode cX5_kindOf 7 = .ok (.aload_n 0, 1) := by decide +kernel
theorem dX5_kindOf_8 : decode cX5_kindOf 8 = .ok (.getfield 24, 3) := by decide +kernel
theorem dX5_kindOf_11 : decode cX5_kindOf 11 = .ok (.iload_n 1, 1) := by decide +kernel
theorem dX5_kindOf_12 : decode cX5_kindOf 12 = .ok (.bipush 8, 2) := by decide +kernel
theorem dX5_kindOf_14 : decode cX5_kindOf 14 = .ok (.idiv, 1) := by decide +kernel
theorem dX5_kindOf_15 : decode cX5_kindOf 15 = .ok (.iaload, 1) := by decide +kernel
theorem dX5_kindOf_16 : decode cX5_kindOf 16 = .ok (.bipush 8, 2) := by decide +kernel
theorem dX5_kindOf_18 : decode cX5_kindOf 18 = .ok (.imul, 1) := by decide +kernel
theorem dX5_kindOf_19 : decode cX5_kindOf 19 = .ok (.iload_n 1, 1) := by decide +kernel
theorem dX5_kindOf_20 : decode cX5_kindOf 20 = .ok (.bipush 8, 2) := by decide +kernel
theorem dX5_kindOf_22 : decode cX5_kindOf 22 = .ok (.irem, 1) := by decide +kernel
theorem dX5_kindOf_23 : decode cX5_kindOf 23 = .ok (.iadd, 1) := by decide +kernel
theorem dX5_kindOf_24 : decode cX5_kindOf 24 = .ok (.iaload, 1) := by decide +kernel
theorem dX5_kindOf_25 : decode cX5_kindOf 25 = .ok (.ireturn, 1) := by decide +kernel
theorem dX2_mayPut_0 : decode cX2_mayPut 0 = .ok (.aload_n 0, 1) := by decide +kernel
theorem dX2_mayPut_1 : decode cX2_mayPut 1 = .ok (.getfield 71, 3) := by decide +kernel
theorem dX2_mayPut_4 : decode cX2_mayPut 4 = .ok (.ifCond .eq 14, 3) := by decide +kernel
theorem dX2_mayPut_7 : decode cX2_mayPut 7 = .ok (.iload_n 1, 1) := by decide +kernel
theorem dX2_mayPut_8 : decode cX2_mayPut 8 = .ok (.iconst (-1), 1) := by decide +kernel
theorem dX2_mayPut_9 : decode cX2_mayPut 9 = .ok (.if_icmp .lt 9, 3) := by decide +kernel
theorem dX2_mayPut_12 : decode cX2_mayPut 12 = .ok (.iload_n 1, 1) := by decide +kernel
theorem dX2_mayPut_13 : decode cX2_mayPut 13 = .ok (.bipush 8, 2) := by decide +kernel
theorem dX2_mayPut_15 : decode cX2_mayPut 15 = .ok (.if_icmp .lt 5, 3) := by decide +kernel
theorem dX2_mayPut_18 : decode cX2_mayPut 18 = .ok (.iconst 0, 1) := by decide +kernel
theorem dX2_mayPut_19 : decode cX2_mayPut 19 = .ok (.ireturn, 1) := by decide +kernel
theorem dX2_mayPut_20 : decode cX2_mayPut 20 = .ok (.iload_n 1, 1) := by decide +kernel
theorem dX2_mayPut_21 : decode cX2_mayPut 21 = .ok (.iconst (-1), 1) := by decide +kernel
theorem dX2_mayPut_22 : decode cX2_mayPut 22 = .ok (.if_icmp .ne 5, 3) := by decide +kernel
theorem dX2_mayPut_25 : decode cX2_mayPut 25 = .ok (.iconst 1, 1) := by decide +kernel
theorem dX2_mayPut_26 : decode cX2_mayPut 26 = .ok (.ireturn, 1) := by decide +kernel
theorem dX2_mayPut_27 : decode cX2_mayPut 27 = .ok (.aload_n 0, 1) := by decide +kernel
theorem dX2_mayPut_28 : decode cX2_mayPut 28 = .ok (.getfield 32, 3) := by decide +kernel
theorem dX2_mayPut_31 : decode cX2_mayPut 31 = .ok (.getfield 74, 3) := by decide +kernel
theorem dX2_mayPut_34 : decode cX2_mayPut 34 = .ok (.iconst 1, 1) := by decide +kernel
theorem dX2_mayPut_35 : decode cX2_mayPut 35 = .ok (.isub, 1) := by decide +kernel
theorem dX2_mayPut_36 : decode cX2_mayPut 36 = .ok (.bipush 8, 2) := by decide +kernel
theorem dX2_mayPut_38 : decode cX2_mayPut 38 = .ok (.imul, 1) := by decide +kernel
theorem dX2_mayPut_39 : decode cX2_mayPut 39 = .ok (.iload_n 1, 1) := by decide +kernel
theorem dX2_mayPut_40 : decode cX2_mayPut 40 = .ok (.iadd, 1) := by decide +kernel
theorem dX2_mayPut_41 : decode cX2_mayPut 41 = .ok (.istore_n 2, 1) := by decide +kernel
theorem dX2_mayPut_42 : decode cX2_mayPut 42 = .ok (.aload_n 0, 1) := by decide +kernel
theorem dX2_mayPut_43 : decode cX2_mayPut 43 = .ok (.getfield 19, 3) := by decide +kernel
theorem dX2_mayPut_46 : decode cX2_mayPut 46 = .ok (.aload_n 0, 1) := by decide +kernel
theorem dX2_mayPut_47 : decode cX2_mayPut 47 = .ok (.getfield 56, 3) := by decide +kernel
theorem dX2_mayPut_50 : decode cX2_mayPut 50 = .ok (.iaload, 1) := by decide +kernel
theorem dX2_mayPut_51 : decode cX2_mayPut 51 = .ok (.ifCond .le 43, 3) := by decide +kernel
theorem dX2_mayPut_54 : decode cX2_mayPut 54 = .ok (.aload_n 0, 1) := by decide +kernel
theorem dX2_mayPut_55 : decode cX2_mayPut 55 = .ok (.getfield 32, 3) := by decide +kernel
theorem dX2_mayPut_58 : decode cX2_mayPut 58 = .ok (.iload_n 2, 1) := by decide +kernel
theorem dX2_mayPut_59 : decode cX2_mayPut 59 = .ok (.invokevirtual 83, 3) := by decide +kernel
theorem dX2_mayPut_62 : decode cX2_mayPut 62 = .ok (.ifCond .eq 32, 3) := by decide +kernel
theorem dX2_mayPut_65 : decode cX2_mayPut 65 = .ok (.aload_n 0, 1) := by decide +kernel
theorem dX2_mayPut_66 : decode cX2_mayPut 66 = .ok (.getfield 32, 3) := by decide +kernel
theorem dX2_mayPut_69 : decode cX2_mayPut 69 = .ok (.getfield 87, 3) := by decide +kernel
theorem dX2_mayPut_72 : decode cX2_mayPut 72 = .ok (.getfield 91, 3) := by decide +kernel
theorem dX2_mayPut_75 : decode cX2_mayPut 75 = .ok (.aload_n 0, 1) := by decide +kernel
theorem dX2_mayPut_76 : decode cX2_mayPut 76 = .ok (.getfield 32, 3) := by decide +kernel
theorem dX2_mayPut_79 : decode cX2_mayPut 79 = .ok (.getfield 87, 3) := by decide +kernel
theorem dX2_mayPut_82 : decode cX2_mayPut 82 = .ok (.iload_n 2, 1) := by decide +kernel
theorem dX2_mayPut_83 : decode cX2_mayPut 83 = .ok (.invokevirtual 96, 3) := by decide +kernel
theorem dX2_mayPut_86 : decode cX2_mayPut 86 = .ok (.iaload, 1) := by decide +kernel
theorem dX2_mayPut_87 : decode cX2_mayPut 87 = .ok (.ifCond .ne 7, 3) := by decide +kernel
theorem dX2_mayPut_90 : decode cX2_mayPut 90 = .ok (.iconst 1, 1) := by decide +kernel
theorem dX2_mayPut_91 : decode cX2_mayPut 91 = .ok (.goto 4, 3) := by decide +kernel
theorem dX2_mayPut_94 : decode cX2_mayPut 94 = .ok (.iconst 0, 1) := by decide +kernel
theorem dX2_mayPut_95 : decode cX2_mayPut 95 = .ok (.ireturn, 1) := by decide +kernel
theorem dX6_menOf_0 : decode cX6_menOf 0 = .ok (.iload_n 0, 1) := by decide +kernel
theorem dX6_menOf_1 : decode cX6_menOf 1 = .ok (.iconst 4, 1) := by decide +kernel
theorem dX6_menOf_2 : decode cX6_menOf 2 = .ok (.iload_n 1, 1) := by decide +kernel
theorem dX6_menOf_3 : decode cX6_menOf 3 = .ok (.imul, 1) := by decide +kernel
theorem dX6_menOf_4 : decode cX6_menOf 4 = .ok (.iushr, 1) := by decide +kernel
theorem dX6_menOf_5 : decode cX6_menOf 5 = .ok (.bipush 15, 2) := by decide +kernel
theorem dX6_menOf_7 : decode cX6_menOf 7 = .ok (.iand, 1) := by decide +kernel
theorem dX6_menOf_8 : decode cX6_menOf 8 = .ok (.ireturn, 1) := by decide +kernel
theorem dX3_setMen_0 : decode cX3_setMen 0 = .ok (.aload_n 0, 1) := by decide +kernel
theorem dX3_setMen_1 : decode cX3_setMen 1 = .ok (.getfield 33, 3) := by decide +kernel
theorem dX3_setMen_4 : decode cX3_setMen 4 = .ok (.aload_n 0, 1) := by decide +kernel
theorem dX3_setMen_5 : decode cX3_setMen 5 = .ok (.getfield 52, 3) := by decide +kernel
theorem dX3_setMen_8 : decode cX3_setMen 8 = .ok (.iload_n 1, 1) := by decide +kernel
theorem dX3_setMen_9 : decode cX3_setMen 9 = .ok (.iastore, 1) := by decide +kernel
theorem dX3_setMen_10 : decode cX3_setMen 10 = .ok (.aload_n 0, 1) := by decide +kernel
theorem dX3_setMen_11 : decode cX3_setMen 11 = .ok (.getfield 36, 3) := by decide +kernel
theorem dX3_setMen_14 : decode cX3_setMen 14 = .ok (.aload_n 0, 1) := by decide +kernel
theorem dX3_setMen_15 : decode cX3_setMen 15 = .ok (.getfield 52, 3) := by decide +kernel
theorem dX3_setMen_18 : decode cX3_setMen 18 = .ok (.aload_n 0, 1) := by decide +kernel
theorem dX3_setMen_19 : decode cX3_setMen 19 = .ok (.getfield 24, 3) := by decide +kernel
theorem dX3_setMen_22 : decode cX3_setMen 22 = .ok (.iload_n 1, 1) := by decide +kernel
theorem dX3_setMen_23 : decode cX3_setMen 23 = .ok (.iaload, 1) := by decide +kernel
theorem dX3_setMen_24 : decode cX3_setMen 24 = .ok (.iastore, 1) := by decide +kernel
theorem dX3_setMen_25 : decode cX3_setMen 25 = .ok (.aload_n 0, 1) := by decide +kernel
theorem dX3_setMen_26 : decode cX3_setMen 26 = .ok (.dup, 1) := by decide +kernel
theorem dX3_setMen_27 : decode cX3_setMen 27 = .ok (.getfield 52, 3) := by decide +kernel
theorem dX3_setMen_30 : decode cX3_setMen 30 = .ok (.iconst 1, 1) := by decide +kernel
theorem dX3_setMen_31 : decode cX3_setMen 31 = .ok (.iadd, 1) := by decide +kernel
theorem dX3_setMen_32 : decode cX3_setMen 32 = .ok (.putfield 52, 3) := by decide +kernel
theorem dX3_setMen_35 : decode cX3_setMen 35 = .ok (.aload_n 0, 1) := by decide +kernel
theorem dX3_setMen_36 : decode cX3_setMen 36 = .ok (.getfield 24, 3) := by decide +kernel
theorem dX3_setMen_39 : decode cX3_setMen 39 = .ok (.iload_n 1, 1) := by decide +kernel
theorem dX3_setMen_40 : decode cX3_setMen 40 = .ok (.iload_n 2, 1) := by decide +kernel
theorem dX3_setMen_41 : decode cX3_setMen 41 = .ok (.iastore, 1) := by decide +kernel
theorem dX3_setMen_42 : decode cX3_setMen 42 = .ok (.return_, 1) := by decide +kernel
theorem dX5_isFinished_0 : decode cX5_isFinished 0 = .ok (.aload_n 0, 1) := by decide +kernel
theorem dX5_isFinished_1 : decode cX5_isFinished 1 = .ok (.iload_n 1, 1) := by decide +kernel
theorem dX5_isFinished_2 : decode cX5_isFinished 2 = .ok (.invokevirtual 122, 3) := by decide +kernel
theorem dX5_isFinished_5 : decode cX5_isFinished 5 = .ok (.tableswitch 76 1 4 #[31, 31, 76, 49], 31) := by decide +kernel
theorem dX5_isFinished_36 : decode cX5_isFinished 36 = .ok (.aload_n 0, 1) := by decide +kernel
theorem dX5_isFinished_37 : decode cX5_isFinished 37 = .ok (.getfield 43, 3) := by decide +kernel
theorem dX5_isFinished_40 : decode cX5_isFinished 40 = .ok (.getfield 100, 3) := by decide +kernel
theorem dX5_isFinished_43 : decode cX5_isFinished 43 = .ok (.iload_n 1, 1) := by decide +kernel
theorem dX5_isFinished_44 : decode cX5_isFinished 44 = .ok (.iaload, 1) := by decide +kernel
theorem dX5_isFinished_45 : decode cX5_isFinished 45 = .ok (.ifCond .ne 7, 3) := by decide +kernel
theorem dX5_isFinished_48 : decode cX5_isFinished 48 = .ok (.iconst 1, 1) := by decide +kernel
theorem dX5_isFinished_49 : decode cX5_isFinished 49 = .ok (.goto 4, 3) := by decide +kernel
theorem dX5_isFinished_52 : decode cX5_isFinished 52 = .ok (.iconst 0, 1) := by decide +kernel
theorem dX5_isFinished_53 : decode cX5_isFinished 53 = .ok (.ireturn, 1) := by decide +kernel
theorem dX5_isFinished_54 : decode cX5_isFinished 54 = .ok (.aload_n 0, 1) := by decide +kernel
theorem dX5_isFinished_55 : decode cX5_isFinished 55 = .ok (.getfield 18, 3) := by decide +kernel
theorem dX5_isFinished_58 : decode cX5_isFinished 58 = .ok (.aload_n 0, 1) := by decide +kernel
theorem dX5_isFinished_59 : decode cX5_isFinished 59 = .ok (.getfield 21, 3) := by decide +kernel
theorem dX5_isFinished_62 : decode cX5_isFinished 62 = .ok (.iload_n 1, 1) := by decide +kernel
theorem dX5_isFinished_63 : decode cX5_isFinished 63 = .ok (.bipush 8, 2) := by decide +kernel
theorem dX5_isFinished_65 : decode cX5_isFinished 65 = .ok (.idiv, 1) := by decide +kernel
theorem dX5_isFinished_66 : decode cX5_isFinished 66 = .ok (.iaload, 1) := by decide +kernel
theorem dX5_isFinished_67 : decode cX5_isFinished 67 = .ok (.iaload, 1) := by decide +kernel
theorem dX5_isFinished_68 : decode cX5_isFinished 68 = .ok (.getstatic 93, 3) := by decide +kernel
theorem dX5_isFinished_71 : decode cX5_isFinished 71 = .ok (.arraylength, 1) := by decide +kernel
theorem dX5_isFinished_72 : decode cX5_isFinished 72 = .ok (.if_icmp .ne 7, 3) := by decide +kernel
theorem dX5_isFinished_75 : decode cX5_isFinished 75 = .ok (.iconst 1, 1) := by decide +kernel
theorem dX5_isFinished_76 : decode cX5_isFinished 76 = .ok (.goto 4, 3) := by decide +kernel
theorem dX5_isFinished_79 : decode cX5_isFinished 79 = .ok (.iconst 0, 1) := by decide +kernel
theorem dX5_isFinished_80 : decode cX5_isFinished 80 = .ok (.ireturn, 1) := by decide +kernel
theorem dX5_isFinished_81 : decode cX5_isFinished 81 = .ok (.iconst 0, 1) := by decide +kernel
theorem dX5_isFinished_82 : decode cX5_isFinished 82 = .ok (.ireturn, 1) := by decide +kernel
theorem dJ6_bitCount_0 : decode cJ6_bitCount 0 = .ok (.iload_n 0, 1) := by decide +kernel
theorem dJ6_bitCount_1 : decode cJ6_bitCount 1 = .ok (.iload_n 0, 1) := by decide +kernel
theorem dJ6_bitCount_2 : decode cJ6_bitCount 2 = .ok (.iconst 1, 1) := by decide +kernel
theorem dJ6_bitCount_3 : decode cJ6_bitCount 3 = .ok (.iushr, 1) := by decide +kernel
theorem dJ6_bitCount_4 : decode cJ6_bitCount 4 = .ok (.ldc_w 265, 3) := by decide +kernel
theorem dJ6_bitCount_7 : decode cJ6_bitCount 7 = .ok (.iand, 1) := by decide +kernel
theorem dJ6_bitCount_8 : decode cJ6_bitCount 8 = .ok (.isub, 1) := by decide +kernel
theorem dJ6_bitCount_9 : decode cJ6_bitCount 9 = .ok (.istore_n 0, 1) := by decide +kernel
theorem dJ6_bitCount_10 : decode cJ6_bitCount 10 = .ok (.iload_n 0, 1) := by decide +kernel
theorem dJ6_bitCount_11 : decode cJ6_bitCount 11 = .ok (.ldc_w 266, 3) := by decide +kernel
theorem dJ6_bitCount_14 : decode cJ6_bitCount 14 = .ok (.iand, 1) := by decide +kernel
theorem dJ6_bitCount_15 : decode cJ6_bitCount 15 = .ok (.iload_n 0, 1) := by decide +kernel
theorem dJ6_bitCount_16 : decode cJ6_bitCount 16 = .ok (.iconst 2, 1) := by decide +kernel
theorem dJ6_bitCount_17 : decode cJ6_bitCount 17 = .ok (.iushr, 1) := by decide +kernel
theorem dJ6_bitCount_18 : decode cJ6_bitCount 18 = .ok (.ldc_w 266, 3) := by decide +kernel
theorem dJ6_bitCount_21 : decode cJ6_bitCount 21 = .ok (.iand, 1) := by decide +kernel
theorem dJ6_bitCount_22 : decode cJ6_bitCount 22 = .ok (.iadd, 1) := by decide +kernel
theorem dJ6_bitCount_23 : decode cJ6_bitCount 23 = .ok (.istore_n 0, 1) := by decide +kernel
theorem dJ6_bitCount_24 : decode cJ6_bitCount 24 = .ok (.iload_n 0, 1) := by decide +kernel
theorem dJ6_bitCount_25 : decode cJ6_bitCount 25 = .ok (.iload_n 0, 1) := by decide +kernel
theorem dJ6_bitCount_26 : decode cJ6_bitCount 26 = .ok (.iconst 4, 1) := by decide +kernel
theorem dJ6_bitCount_27 : decode cJ6_bitCount 27 = .ok (.iushr, 1) := by decide +kernel
theorem dJ6_bitCount_28 : decode cJ6_bitCount 28 = .ok (.iadd, 1) := by decide +kernel
theorem dJ6_bitCount_29 : decode cJ6_bitCount 29 = .ok (.ldc_w 267, 3) := by decide +kernel
theorem dJ6_bitCount_32 : decode cJ6_bitCount 32 = .ok (.iand, 1) := by decide +kernel
theorem dJ6_bitCount_33 : decode cJ6_bitCount 33 = .ok (.istore_n 0, 1) := by decide +kernel
theorem dJ6_bitCount_34 : decode cJ6_bitCount 34 = .ok (.iload_n 0, 1) := by decide +kernel
theorem dJ6_bitCount_35 : decode cJ6_bitCount 35 = .ok (.iload_n 0, 1) := by decide +kernel
theorem dJ6_bitCount_36 : decode cJ6_bitCount 36 = .ok (.bipush 8, 2) := by decide +kernel
theorem dJ6_bitCount_38 : decode cJ6_bitCount 38 = .ok (.iushr, 1) := by decide +kernel
theorem dJ6_bitCount_39 : decode cJ6_bitCount 39 = .ok (.iadd, 1) := by decide +kernel
theorem dJ6_bitCount_40 : decode cJ6_bitCount 40 = .ok (.istore_n 0, 1) := by decide +kernel
theorem dJ6_bitCount_41 : decode cJ6_bitCount 41 = .ok (.iload_n 0, 1) := by decide +kernel
theorem dJ6_bitCount_42 : decode cJ6_bitCount 42 = .ok (.iload_n 0, 1) := by decide +kernel
theorem dJ6_bitCount_43 : decode cJ6_bitCount 43 = .ok (.bipush 16, 2) := by decide +kernel
theorem dJ6_bitCount_45 : decode cJ6_bitCount 45 = .ok (.iushr, 1) := by decide +kernel
theorem dJ6_bitCount_46 : decode cJ6_bitCount 46 = .ok (.iadd, 1) := by decide +kernel
theorem dJ6_bitCount_47 : decode cJ6_bitCount 47 = .ok (.istore_n 0, 1) := by decide +kernel
theorem dJ6_bitCount_48 : decode cJ6_bitCount 48 = .ok (.iload_n 0, 1) := by decide +kernel
theorem dJ6_bitCount_49 : decode cJ6_bitCount 49 = .ok (.bipush 63, 2) := by decide +kernel
theorem dJ6_bitCount_51 : decode cJ6_bitCount 51 = .ok (.iand, 1) := by decide +kernel
theorem dJ6_bitCount_52 : decode cJ6_bitCount 52 = .ok (.ireturn, 1) := by decide +kernel
theorem dX5_finishedWorth_0 : decode cX5_finishedWorth 0 = .ok (.aload_n 0, 1) := by decide +kernel
theorem dX5_finishedWorth_1 : decode cX5_finishedWorth 1 = .ok (.getfield 43, 3) := by decide +kernel
theorem dX5_finishedWorth_4 : decode cX5_finishedWorth 4 = .ok (.getfield 131, 3) := by decide +kernel
theorem dX5_finishedWorth_7 : decode cX5_finishedWorth 7 = .ok (.iload_n 1, 1) := by decide +kernel
theorem dX5_finishedWorth_8 : decode cX5_finishedWorth 8 = .ok (.iaload, 1) := by decide +kernel
theorem dX5_finishedWorth_9 : decode cX5_finishedWorth 9 = .ok (.invokestatic 134, 3) := by decide +kernel
theorem dX5_finishedWorth_12 : decode cX5_finishedWorth 12 = .ok (.istore_n 2, 1) := by decide +kernel
theorem dX5_finishedWorth_13 : decode cX5_finishedWorth 13 = .ok (.aload_n 0, 1) := by decide +kernel
theorem dX5_finishedWorth_14 : decode cX5_finishedWorth 14 = .ok (.iload_n 1, 1) := by decide +kernel
theorem dX5_finishedWorth_15 : decode cX5_finishedWorth 15 = .ok (.invokevirtual 122, 3) := by decide +kernel
theorem dX5_finishedWorth_18 : decode cX5_finishedWorth 18 = .ok (.lookupswitch 42 #[(1, 26), (2, 40)], 26) := by decide +kernel
theorem dX5_finishedWorth_44 : decode cX5_finishedWorth 44 = .ok (.iconst 2, 1) := by decide +kernel
theorem dX5_finishedWorth_45 : decode cX5_finishedWorth 45 = .ok (.iload_n 2, 1) := by decide +kernel
theorem dX5_finishedWorth_46 : decode cX5_finishedWorth 46 = .ok (.aload_n 0, 1) := by decide +kernel
theorem dX5_finishedWorth_47 : decode cX5_finishedWorth 47 = .ok (.getfield 43, 3) := by decide +kernel
theorem dX5_finishedWorth_50 : decode cX5_finishedWorth 50 = .ok (.getfield 139, 3) := by decide +kernel
theorem dX5_finishedWorth_53 : decode cX5_finishedWorth 53 = .ok (.iload_n 1, 1) := by decide +kernel
theorem dX5_finishedWorth_54 : decode cX5_finishedWorth 54 = .ok (.iaload, 1) := by decide +kernel
theorem dX5_finishedWorth_55 : decode cX5_finishedWorth 55 = .ok (.iadd, 1) := by decide +kernel
theorem dX5_finishedWorth_56 : decode cX5_finishedWorth 56 = .ok (.imul, 1) := by decide +kernel
theorem dX5_finishedWorth_57 : decode cX5_finishedWorth 57 = .ok (.ireturn, 1) := by decide +kernel
theorem dX5_finishedWorth_58 : decode cX5_finishedWorth 58 = .ok (.iload_n 2, 1) := by decide +kernel
theorem dX5_finishedWorth_59 : decode cX5_finishedWorth 59 = .ok (.ireturn, 1) := by decide +kernel
theorem dX5_finishedWorth_60 : decode cX5_finishedWorth 60 = .ok (.iconst 1, 1) := by decide +kernel
theorem dX5_finishedWorth_61 : decode cX5_finishedWorth 61 = .ok (.getstatic 93, 3) := by decide +kernel
theorem dX5_finishedWorth_64 : decode cX5_finishedWorth 64 = .ok (.arraylength, 1) := by decide +kernel
theorem dX5_finishedWorth_65 : decode cX5_finishedWorth 65 = .ok (.iadd, 1) := by decide +kernel
theorem dX5_finishedWorth_66 : decode cX5_finishedWorth 66 = .ok (.ireturn, 1) := by decide +kernel
theorem dX6_mostMen_0 : decode cX6_mostMen 0 = .ok (.iload_n 0, 1) := by decide +kernel
theorem dX6_mostMen_1 : decode cX6_mostMen 1 = .ok (.iconst 0, 1) := by decide +kernel
theorem dX6_mostMen_2 : decode cX6_mostMen 2 = .ok (.invokestatic 168, 3) := by decide +kernel
theorem dX6_mostMen_5 : decode cX6_mostMen 5 = .ok (.iload_n 0, 1) := by decide +kernel
theorem dX6_mostMen_6 : decode cX6_mostMen 6 = .ok (.iconst 1, 1) := by decide +kernel
theorem dX6_mostMen_7 : decode cX6_mostMen 7 = .ok (.invokestatic 168, 3) := by decide +kernel
theorem dX6_mostMen_10 : decode cX6_mostMen 10 = .ok (.iload_n 0, 1) := by decide +kernel
theorem dX6_mostMen_11 : decode cX6_mostMen 11 = .ok (.iconst 2, 1) := by decide +kernel
theorem dX6_mostMen_12 : decode cX6_mostMen 12 = .ok (.invokestatic 168, 3) := by decide +kernel
theorem dX6_mostMen_15 : decode cX6_mostMen 15 = .ok (.invokestatic 198, 3) := by decide +kernel
theorem dX6_mostMen_18 : decode cX6_mostMen 18 = .ok (.invokestatic 198, 3) := by decide +kernel
theorem dX6_mostMen_21 : decode cX6_mostMen 21 = .ok (.ireturn, 1) := by decide +kernel
theorem dX2_pay_0 : decode cX2_pay 0 = .ok (.aload_n 0, 1) := by decide +kernel
theorem dX2_pay_1 : decode cX2_pay 1 = .ok (.getfield 32, 3) := by decide +kernel
theorem dX2_pay_4 : decode cX2_pay 4 = .ok (.getfield 87, 3) := by decide +kernel
theorem dX2_pay_7 : decode cX2_pay 7 = .ok (.getfield 91, 3) := by decide +kernel
theorem dX2_pay_10 : decode cX2_pay 10 = .ok (.iload_n 1, 1) := by decide +kernel
theorem dX2_pay_11 : decode cX2_pay 11 = .ok (.iaload, 1) := by decide +kernel
theorem dX2_pay_12 : decode cX2_pay 12 = .ok (.istore_n 2, 1) := by decide +kernel
theorem dX2_pay_13 : decode cX2_pay 13 = .ok (.iload_n 2, 1) := by decide +kernel
theorem dX2_pay_14 : decode cX2_pay 14 = .ok (.ifCond .eq 14, 3) := by decide +kernel
theorem dX2_pay_17 : decode cX2_pay 17 = .ok (.aload_n 0, 1) := by decide +kernel
theorem dX2_pay_18 : decode cX2_pay 18 = .ok (.getfield 32, 3) := by decide +kernel
theorem dX2_pay_21 : decode cX2_pay 21 = .ok (.iload_n 1, 1) := by decide +kernel
theorem dX2_pay_22 : decode cX2_pay 22 = .ok (.invokevirtual 123, 3) := by decide +kernel
theorem dX2_pay_25 : decode cX2_pay 25 = .ok (.ifCond .ne 5, 3) := by decide +kernel
theorem dX2_pay_28 : decode cX2_pay 28 = .ok (.iconst 0, 1) := by decide +kernel
theorem dX2_pay_29 : decode cX2_pay 29 = .ok (.ireturn, 1) := by decide +kernel
theorem dX2_pay_30 : decode cX2_pay 30 = .ok (.aload_n 0, 1) := by decide +kernel
theorem dX2_pay_31 : decode cX2_pay 31 = .ok (.getfield 32, 3) := by decide +kernel
theorem dX2_pay_34 : decode cX2_pay 34 = .ok (.iload_n 1, 1) := by decide +kernel
theorem dX2_pay_35 : decode cX2_pay 35 = .ok (.invokevirtual 127, 3) := by decide +kernel
theorem dX2_pay_38 : decode cX2_pay 38 = .ok (.istore_n 3, 1) := by decide +kernel
theorem dX2_pay_39 : decode cX2_pay 39 = .ok (.iload_n 2, 1) := by decide +kernel
theorem dX2_pay_40 : decode cX2_pay 40 = .ok (.invokestatic 130, 3) := by decide +kernel
theorem dX2_pay_43 : decode cX2_pay 43 = .ok (.istore 4, 2) := by decide +kernel
theorem dX2_pay_45 : decode cX2_pay 45 = .ok (.iconst 0, 1) := by decide +kernel
theorem dX2_pay_46 : decode cX2_pay 46 = .ok (.istore 5, 2) := by decide +kernel
theorem dX2_pay_48 : decode cX2_pay 48 = .ok (.iconst 0, 1) := by decide +kernel
theorem dX2_pay_49 : decode cX2_pay 49 = .ok (.istore 6, 2) := by decide +kernel
theorem dX2_pay_51 : decode cX2_pay 51 = .ok (.iload 6, 2) := by decide +kernel
theorem dX2_pay_53 : decode cX2_pay 53 = .ok (.aload_n 0, 1) := by decide +kernel
theorem dX2_pay_54 : decode cX2_pay 54 = .ok (.getfield 43, 3) := by decide +kernel
theorem dX2_pay_57 : decode cX2_pay 57 = .ok (.if_icmp .ge 53, 3) := by decide +kernel
theorem dX2_pay_60 : decode cX2_pay 60 = .ok (.aload_n 0, 1) := by decide +kernel
theorem dX2_pay_61 : decode cX2_pay 61 = .ok (.getfield 19, 3) := by decide +kernel
theorem dX2_pay_64 : decode cX2_pay 64 = .ok (.iload 6, 2) := by decide +kernel
theorem dX2_pay_66 : decode cX2_pay 66 = .ok (.dup2, 1) := by decide +kernel
theorem dX2_pay_67 : decode cX2_pay 67 = .ok (.iaload, 1) := by decide +kernel
theorem dX2_pay_68 : decode cX2_pay 68 = .ok (.iload_n 2, 1) := by decide +kernel
theorem dX2_pay_69 : decode cX2_pay 69 = .ok (.iload 6, 2) := by decide +kernel
theorem dX2_pay_71 : decode cX2_pay 71 = .ok (.invokestatic 133, 3) := by decide +kernel
theorem dX2_pay_74 : decode cX2_pay 74 = .ok (.iadd, 1) := by decide +kernel
theorem dX2_pay_75 : decode cX2_pay 75 = .ok (.iastore, 1) := by decide +kernel
theorem dX2_pay_76 : decode cX2_pay 76 = .ok (.iload_n 2, 1) := by decide +kernel
theorem dX2_pay_77 : decode cX2_pay 77 = .ok (.iload 6, 2) := by decide +kernel
theorem dX2_pay_79 : decode cX2_pay 79 = .ok (.invokestatic 133, 3) := by decide +kernel
theorem dX2_pay_82 : decode cX2_pay 82 = .ok (.iload 4, 2) := by decide +kernel
theorem dX2_pay_84 : decode cX2_pay 84 = .ok (.if_icmp .ne 20, 3) := by decide +kernel
theorem dX2_pay_87 : decode cX2_pay 87 = .ok (.aload_n 0, 1) := by decide +kernel
theorem dX2_pay_88 : decode cX2_pay 88 = .ok (.getfield 15, 3) := by decide +kernel
theorem dX2_pay_91 : decode cX2_pay 91 = .ok (.iload 6, 2) := by decide +kernel
theorem dX2_pay_93 : decode cX2_pay 93 = .ok (.dup2, 1) := by decide +kernel
theorem dX2_pay_94 : decode cX2_pay 94 = .ok (.iaload, 1) := by decide +kernel
theorem dX2_pay_95 : decode cX2_pay 95 = .ok (.iload_n 3, 1) := by decide +kernel
theorem dX2_pay_96 : decode cX2_pay 96 = .ok (.iadd, 1) := by decide +kernel
theorem dX2_pay_97 : decode cX2_pay 97 = .ok (.iastore, 1) := by decide +kernel
theorem dX2_pay_98 : decode cX2_pay 98 = .ok (.iload 5, 2) := by decide +kernel
theorem dX2_pay_100 : decode cX2_pay 100 = .ok (.iload_n 3, 1) := by decide +kernel
theorem dX2_pay_101 : decode cX2_pay 101 = .ok (.iadd, 1) := by decide +kernel
theorem dX2_pay_102 : decode cX2_pay 102 = .ok (.istore 5, 2) := by decide +kernel
theorem dX2_pay_104 : decode cX2_pay 104 = .ok (.iinc 6 1, 3) := by decide +kernel
theorem dX2_pay_107 : decode cX2_pay 107 = .ok (.goto (-56), 3) := by decide +kernel
theorem dX2_pay_110 : decode cX2_pay 110 = .ok (.aload_n 0, 1) := by decide +kernel
theorem dX2_pay_111 : decode cX2_pay 111 = .ok (.getfield 32, 3) := by decide +kernel
theorem dX2_pay_114 : decode cX2_pay 114 = .ok (.getfield 87, 3) := by decide +kernel
theorem dX2_pay_117 : decode cX2_pay 117 = .ok (.iload_n 1, 1) := by decide +kernel
theorem dX2_pay_118 : decode cX2_pay 118 = .ok (.iconst 0, 1) := by decide +kernel
theorem dX2_pay_119 : decode cX2_pay 119 = .ok (.invokevirtual 105, 3) := by decide +kernel
theorem dX2_pay_122 : decode cX2_pay 122 = .ok (.iload 5, 2) := by decide +kernel
theorem dX2_pay_124 : decode cX2_pay 124 = .ok (.ireturn, 1) := by decide +kernel
theorem dX5_cloisterAt_0 : decode cX5_cloisterAt 0 = .ok (.aload_n 0, 1) := by decide +kernel
theorem dX5_cloisterAt_1 : decode cX5_cloisterAt 1 = .ok (.getfield 9, 3) := by decide +kernel
theorem dX5_cloisterAt_4 : decode cX5_cloisterAt 4 = .ok (.iload_n 1, 1) := by decide +kernel
theorem dX5_cloisterAt_5 : decode cX5_cloisterAt 5 = .ok (.iaload, 1) := by decide +kernel
theorem dX5_cloisterAt_6 : decode cX5_cloisterAt 6 = .ok (.istore_n 2, 1) := by decide +kernel
theorem dX5_cloisterAt_7 : decode cX5_cloisterAt 7 = .ok (.iload_n 2, 1) := by decide +kernel
theorem dX5_cloisterAt_8 : decode cX5_cloisterAt 8 = .ok (.iconst (-1), 1) := by decide +kernel
theorem dX5_cloisterAt_9 : decode cX5_cloisterAt 9 = .ok (.if_icmp .eq 21, 3) := by decide +kernel
theorem dX5_cloisterAt_12 : decode cX5_cloisterAt 12 = .ok (.aload_n 0, 1) := by decide +kernel
theorem dX5_cloisterAt_13 : decode cX5_cloisterAt 13 = .ok (.getfield 36, 3) := by decide +kernel
theorem dX5_cloisterAt_16 : decode cX5_cloisterAt 16 = .ok (.getfield 128, 3) := by decide +kernel
theorem dX5_cloisterAt_19 : decode cX5_cloisterAt 19 = .ok (.aload_n 0, 1) := by decide +kernel
theorem dX5_cloisterAt_20 : decode cX5_cloisterAt 20 = .ok (.getfield 24, 3) := by decide +kernel
theorem dX5_cloisterAt_23 : decode cX5_cloisterAt 23 = .ok (.iload_n 2, 1) := by decide +kernel
theorem dX5_cloisterAt_24 : decode cX5_cloisterAt 24 = .ok (.iaload, 1) := by decide +kernel
theorem dX5_cloisterAt_25 : decode cX5_cloisterAt 25 = .ok (.iaload, 1) := by decide +kernel
theorem dX5_cloisterAt_26 : decode cX5_cloisterAt 26 = .ok (.iconst (-1), 1) := by decide +kernel
theorem dX5_cloisterAt_27 : decode cX5_cloisterAt 27 = .ok (.if_icmp .ne 5, 3) := by decide +kernel
theorem dX5_cloisterAt_30 : decode cX5_cloisterAt 30 = .ok (.iconst (-1), 1) := by decide +kernel
theorem dX5_cloisterAt_31 : decode cX5_cloisterAt 31 = .ok (.ireturn, 1) := by decide +kernel
theorem dX5_cloisterAt_32 : decode cX5_cloisterAt 32 = .ok (.iload_n 2, 1) := by decide +kernel
theorem dX5_cloisterAt_33 : decode cX5_cloisterAt 33 = .ok (.bipush 8, 2) := by decide +kernel
theorem dX5_cloisterAt_35 : decode cX5_cloisterAt 35 = .ok (.imul, 1) := by decide +kernel
theorem dX5_cloisterAt_36 : decode cX5_cloisterAt 36 = .ok (.aload_n 0, 1) := by decide +kernel
theorem dX5_cloisterAt_37 : decode cX5_cloisterAt 37 = .ok (.getfield 36, 3) := by decide +kernel
theorem dX5_cloisterAt_40 : decode cX5_cloisterAt 40 = .ok (.getfield 128, 3) := by decide +kernel
theorem dX5_cloisterAt_43 : decode cX5_cloisterAt 43 = .ok (.aload_n 0, 1) := by decide +kernel
theorem dX5_cloisterAt_44 : decode cX5_cloisterAt 44 = .ok (.getfield 24, 3) := by decide +kernel
theorem dX5_cloisterAt_47 : decode cX5_cloisterAt 47 = .ok (.iload_n 2, 1) := by decide +kernel
theorem dX5_cloisterAt_48 : decode cX5_cloisterAt 48 = .ok (.iaload, 1) := by decide +kernel
theorem dX5_cloisterAt_49 : decode cX5_cloisterAt 49 = .ok (.iaload, 1) := by decide +kernel
theorem dX5_cloisterAt_50 : decode cX5_cloisterAt 50 = .ok (.iadd, 1) := by decide +kernel
theorem dX5_cloisterAt_51 : decode cX5_cloisterAt 51 = .ok (.ireturn, 1) := by decide +kernel
theorem dX2_settle_0 : decode cX2_settle 0 = .ok (.aload_n 0, 1) := by decide +kernel
theorem dX2_settle_1 : decode cX2_settle 1 = .ok (.getfield 32, 3) := by decide +kernel
theorem dX2_settle_4 : decode cX2_settle 4 = .ok (.getfield 74, 3) := by decide +kernel
theorem dX2_settle_7 : decode cX2_settle 7 = .ok (.iconst 1, 1) := by decide +kernel
theorem dX2_settle_8 : decode cX2_settle 8 = .ok (.isub, 1) := by decide +kernel
theorem dX2_settle_9 : decode cX2_settle 9 = .ok (.istore_n 1, 1) := by decide +kernel
theorem dX2_settle_10 : decode cX2_settle 10 = .ok (.iconst 0, 1) := by decide +kernel
theorem dX2_settle_11 : decode cX2_settle 11 = .ok (.istore_n 2, 1) := by decide +kernel
theorem dX2_settle_12 : decode cX2_settle 12 = .ok (.iconst 0, 1) := by decide +kernel
theorem dX2_settle_13 : decode cX2_settle 13 = .ok (.istore_n 3, 1) := by decide +kernel
theorem dX2_settle_14 : decode cX2_settle 14 = .ok (.iload_n 3, 1) := by decide +kernel
theorem dX2_settle_15 : decode cX2_settle 15 = .ok (.bipush 8, 2) := by decide +kernel
theorem dX2_settle_17 : decode cX2_settle 17 = .ok (.if_icmp .ge 32, 3) := by decide +kernel
theorem dX2_settle_20 : decode cX2_settle 20 = .ok (.iload_n 2, 1) := by decide +kernel
theorem dX2_settle_21 : decode cX2_settle 21 = .ok (.aload_n 0, 1) := by decide +kernel
theorem dX2_settle_22 : decode cX2_settle 22 = .ok (.aload_n 0, 1) := by decide +kernel
theorem dX2_settle_23 : decode cX2_settle 23 = .ok (.getfield 32, 3) := by decide +kernel
theorem dX2_settle_26 : decode cX2_settle 26 = .ok (.getfield 87, 3) := by decide +kernel
theorem dX2_settle_29 : decode cX2_settle 29 = .ok (.iload_n 1, 1) := by decide +kernel
theorem dX2_settle_30 : decode cX2_settle 30 = .ok (.bipush 8, 2) := by decide +kernel
theorem dX2_settle_32 : decode cX2_settle 32 = .ok (.imul, 1) := by decide +kernel
theorem dX2_settle_33 : decode cX2_settle 33 = .ok (.iload_n 3, 1) := by decide +kernel
theorem dX2_settle_34 : decode cX2_settle 34 = .ok (.iadd, 1) := by decide +kernel
theorem dX2_settle_35 : decode cX2_settle 35 = .ok (.invokevirtual 96, 3) := by decide +kernel
theorem dX2_settle_38 : decode cX2_settle 38 = .ok (.invokevirtual 111, 3) := by decide +kernel
theorem dX2_settle_41 : decode cX2_settle 41 = .ok (.iadd, 1) := by decide +kernel
theorem dX2_settle_42 : decode cX2_settle 42 = .ok (.istore_n 2, 1) := by decide +kernel
theorem dX2_settle_43 : decode cX2_settle 43 = .ok (.iinc 3 1, 3) := by decide +kernel
theorem dX2_settle_46 : decode cX2_settle 46 = .ok (.goto (-32), 3) := by decide +kernel
theorem dX2_settle_49 : decode cX2_settle 49 = .ok (.iconst 0, 1) := by decide +kernel
theorem dX2_settle_50 : decode cX2_settle 50 = .ok (.istore_n 3, 1) := by decide +kernel
theorem dX2_settle_51 : decode cX2_settle 51 = .ok (.iload_n 3, 1) := by decide +kernel
theorem dX2_settle_52 : decode cX2_settle 52 = .ok (.getstatic 114, 3) := by decide +kernel
theorem dX2_settle_55 : decode cX2_settle 55 = .ok (.arraylength, 1) := by decide +kernel
theorem dX2_settle_56 : decode cX2_settle 56 = .ok (.if_icmp .ge 48, 3) := by decide +kernel
theorem dX2_settle_59 : decode cX2_settle 59 = .ok (.aload_n 0, 1) := by decide +kernel
theorem dX2_settle_60 : decode cX2_settle 60 = .ok (.getfield 32, 3) := by decide +kernel
theorem dX2_settle_63 : decode cX2_settle 63 = .ok (.aload_n 0, 1) := by decide +kernel
theorem dX2_settle_64 : decode cX2_settle 64 = .ok (.getfield 32, 3) := by decide +kernel
theorem dX2_settle_67 : decode cX2_settle 67 = .ok (.getfield 117, 3) := by decide +kernel
theorem dX2_settle_70 : decode cX2_settle 70 = .ok (.iload_n 1, 1) := by decide +kernel
theorem dX2_settle_71 : decode cX2_settle 71 = .ok (.iaload, 1) := by decide +kernel
theorem dX2_settle_72 : decode cX2_settle 72 = .ok (.getstatic 114, 3) := by decide +kernel
theorem dX2_settle_75 : decode cX2_settle 75 = .ok (.iload_n 3, 1) := by decide +kernel
theorem dX2_settle_76 : decode cX2_settle 76 = .ok (.iaload, 1) := by decide +kernel
theorem dX2_settle_77 : decode cX2_settle 77 = .ok (.iadd, 1) := by decide +kernel
theorem dX2_settle_78 : decode cX2_settle 78 = .ok (.invokevirtual 120, 3) := by decide +kernel
theorem dX2_settle_81 : decode cX2_settle 81 = .ok (.istore 4, 2) := by decide +kernel
theorem dX2_settle_83 : decode cX2_settle 83 = .ok (.iload 4, 2) := by decide +kernel
theorem dX2_settle_85 : decode cX2_settle 85 = .ok (.iconst (-1), 1) := by decide +kernel
theorem dX2_settle_86 : decode cX2_settle 86 = .ok (.if_icmp .eq 12, 3) := by decide +kernel
theorem dX2_settle_89 : decode cX2_settle 89 = .ok (.iload_n 2, 1) := by decide +kernel
theorem dX2_settle_90 : decode cX2_settle 90 = .ok (.aload_n 0, 1) := by decide +kernel
theorem dX2_settle_91 : decode cX2_settle 91 = .ok (.iload 4, 2) := by decide +kernel
theorem dX2_settle_93 : decode cX2_settle 93 = .ok (.invokevirtual 111, 3) := by decide +kernel
theorem dX2_settle_96 : decode cX2_settle 96 = .ok (.iadd, 1) := by decide +kernel
theorem dX2_settle_97 : decode cX2_settle 97 = .ok (.istore_n 2, 1) := by decide +kernel
theorem dX2_settle_98 : decode cX2_settle 98 = .ok (.iinc 3 1, 3) := by decide +kernel
theorem dX2_settle_101 : decode cX2_settle 101 = .ok (.goto (-50), 3) := by decide +kernel
theorem dX2_settle_104 : decode cX2_settle 104 = .ok (.iload_n 2, 1) := by decide +kernel
theorem dX2_settle_105 : decode cX2_settle 105 = .ok (.ireturn, 1) := by decide +kernel
theorem dX2_save_0 : decode cX2_save 0 = .ok (.aload_n 0, 1) := by decide +kernel
theorem dX2_save_1 : decode cX2_save 1 = .ok (.getfield 32, 3) := by decide +kernel
theorem dX2_save_4 : decode cX2_save 4 = .ok (.getfield 74, 3) := by decide +kernel
theorem dX2_save_7 : decode cX2_save 7 = .ok (.iconst 1, 1) := by decide +kernel
theorem dX2_save_8 : decode cX2_save 8 = .ok (.isub, 1) := by decide +kernel
theorem dX2_save_9 : decode cX2_save 9 = .ok (.bipush 10, 2) := by decide +kernel
theorem dX2_save_11 : decode cX2_save 11 = .ok (.imul, 1) := by decide +kernel
theorem dX2_save_12 : decode cX2_save 12 = .ok (.istore_n 1, 1) := by decide +kernel
theorem dX2_save_13 : decode cX2_save 13 = .ok (.aload_n 0, 1) := by decide +kernel
theorem dX2_save_14 : decode cX2_save 14 = .ok (.getfield 25, 3) := by decide +kernel
theorem dX2_save_17 : decode cX2_save 17 = .ok (.iload_n 1, 1) := by decide +kernel
theorem dX2_save_18 : decode cX2_save 18 = .ok (.aload_n 0, 1) := by decide +kernel
theorem dX2_save_19 : decode cX2_save 19 = .ok (.getfield 56, 3) := by decide +kernel
theorem dX2_save_22 : decode cX2_save 22 = .ok (.iastore, 1) := by decide +kernel
theorem dX2_save_23 : decode cX2_save 23 = .ok (.aload_n 0, 1) := by decide +kernel
theorem dX2_save_24 : decode cX2_save 24 = .ok (.getfield 25, 3) := by decide +kernel
theorem dX2_save_27 : decode cX2_save 27 = .ok (.iload_n 1, 1) := by decide +kernel
theorem dX2_save_28 : decode cX2_save 28 = .ok (.iconst 1, 1) := by decide +kernel
theorem dX2_save_29 : decode cX2_save 29 = .ok (.iadd, 1) := by decide +kernel
theorem dX2_save_30 : decode cX2_save 30 = .ok (.aload_n 0, 1) := by decide +kernel
theorem dX2_save_31 : decode cX2_save 31 = .ok (.getfield 59, 3) := by decide +kernel
theorem dX2_save_34 : decode cX2_save 34 = .ok (.iastore, 1) := by decide +kernel
theorem dX2_save_35 : decode cX2_save 35 = .ok (.aload_n 0, 1) := by decide +kernel
theorem dX2_save_36 : decode cX2_save 36 = .ok (.getfield 25, 3) := by decide +kernel
theorem dX2_save_39 : decode cX2_save 39 = .ok (.iload_n 1, 1) := by decide +kernel
theorem dX2_save_40 : decode cX2_save 40 = .ok (.iconst 2, 1) := by decide +kernel
theorem dX2_save_41 : decode cX2_save 41 = .ok (.iadd, 1) := by decide +kernel
theorem dX2_save_42 : decode cX2_save 42 = .ok (.aload_n 0, 1) := by decide +kernel
theorem dX2_save_43 : decode cX2_save 43 = .ok (.getfield 62, 3) := by decide +kernel
theorem dX2_save_46 : decode cX2_save 46 = .ok (.iastore, 1) := by decide +kernel
theorem dX2_save_47 : decode cX2_save 47 = .ok (.aload_n 0, 1) := by decide +kernel
theorem dX2_save_48 : decode cX2_save 48 = .ok (.getfield 25, 3) := by decide +kernel
theorem dX2_save_51 : decode cX2_save 51 = .ok (.iload_n 1, 1) := by decide +kernel
theorem dX2_save_52 : decode cX2_save 52 = .ok (.iconst 3, 1) := by decide +kernel
theorem dX2_save_53 : decode cX2_save 53 = .ok (.iadd, 1) := by decide +kernel
theorem dX2_save_54 : decode cX2_save 54 = .ok (.aload_n 0, 1) := by decide +kernel
theorem dX2_save_55 : decode cX2_save 55 = .ok (.getfield 32, 3) := by decide +kernel
theorem dX2_save_58 : decode cX2_save 58 = .ok (.getfield 87, 3) := by decide +kernel
theorem dX2_save_61 : decode cX2_save 61 = .ok (.getfield 157, 3) := by decide +kernel
theorem dX2_save_64 : decode cX2_save 64 = .ok (.iastore, 1) := by decide +kernel
theorem dX2_save_65 : decode cX2_save 65 = .ok (.iconst 0, 1) := by decide +kernel
theorem dX2_save_66 : decode cX2_save 66 = .ok (.istore_n 2, 1) := by decide +kernel
theorem dX2_save_67 : decode cX2_save 67 = .ok (.iload_n 2, 1) := by decide +kernel
theorem dX2_save_68 : decode cX2_save 68 = .ok (.iconst 3, 1) := by decide +kernel
theorem dX2_save_69 : decode cX2_save 69 = .ok (.if_icmp .ge 43, 3) := by decide +kernel
theorem dX2_save_72 : decode cX2_save 72 = .ok (.aload_n 0, 1) := by decide +kernel
theorem dX2_save_73 : decode cX2_save 73 = .ok (.getfield 25, 3) := by decide +kernel
theorem dX2_save_76 : decode cX2_save 76 = .ok (.iload_n 1, 1) := by decide +kernel
theorem dX2_save_77 : decode cX2_save 77 = .ok (.iconst 4, 1) := by decide +kernel
theorem dX2_save_78 : decode cX2_save 78 = .ok (.iadd, 1) := by decide +kernel
theorem dX2_save_79 : decode cX2_save 79 = .ok (.iload_n 2, 1) := by decide +kernel
theorem dX2_save_80 : decode cX2_save 80 = .ok (.iadd, 1) := by decide +kernel
theorem dX2_save_81 : decode cX2_save 81 = .ok (.aload_n 0, 1) := by decide +kernel
theorem dX2_save_82 : decode cX2_save 82 = .ok (.getfield 15, 3) := by decide +kernel
theorem dX2_save_85 : decode cX2_save 85 = .ok (.iload_n 2, 1) := by decide +kernel
theorem dX2_save_86 : decode cX2_save 86 = .ok (.iaload, 1) := by decide +kernel
theorem dX2_save_87 : decode cX2_save 87 = .ok (.iastore, 1) := by decide +kernel
theorem dX2_save_88 : decode cX2_save 88 = .ok (.aload_n 0, 1) := by decide +kernel
theorem dX2_save_89 : decode cX2_save 89 = .ok (.getfield 25, 3) := by decide +kernel
theorem dX2_save_92 : decode cX2_save 92 = .ok (.iload_n 1, 1) := by decide +kernel
theorem dX2_save_93 : decode cX2_save 93 = .ok (.iconst 4, 1) := by decide +kernel
theorem dX2_save_94 : decode cX2_save 94 = .ok (.iadd, 1) := by decide +kernel
theorem dX2_save_95 : decode cX2_save 95 = .ok (.iconst 3, 1) := by decide +kernel
theorem dX2_save_96 : decode cX2_save 96 = .ok (.iadd, 1) := by decide +kernel
theorem dX2_save_97 : decode cX2_save 97 = .ok (.iload_n 2, 1) := by decide +kernel
theorem dX2_save_98 : decode cX2_save 98 = .ok (.iadd, 1) := by decide +kernel
theorem dX2_save_99 : decode cX2_save 99 = .ok (.aload_n 0, 1) := by decide +kernel
theorem dX2_save_100 : decode cX2_save 100 = .ok (.getfield 19, 3) := by decide +kernel
theorem dX2_save_103 : decode cX2_save 103 = .ok (.iload_n 2, 1) := by decide +kernel
theorem dX2_save_104 : decode cX2_save 104 = .ok (.iaload, 1) := by decide +kernel
theorem dX2_save_105 : decode cX2_save 105 = .ok (.iastore, 1) := by decide +kernel
theorem dX2_save_106 : decode cX2_save 106 = .ok (.iinc 2 1, 3) := by decide +kernel
theorem dX2_save_109 : decode cX2_save 109 = .ok (.goto (-42), 3) := by decide +kernel
theorem dX2_save_112 : decode cX2_save 112 = .ok (.return_, 1) := by decide +kernel
theorem dX6_oneMan_0 : decode cX6_oneMan 0 = .ok (.iconst 1, 1) := by decide +kernel
theorem dX6_oneMan_1 : decode cX6_oneMan 1 = .ok (.iconst 4, 1) := by decide +kernel
theorem dX6_oneMan_2 : decode cX6_oneMan 2 = .ok (.iload_n 0, 1) := by decide +kernel
theorem dX6_oneMan_3 : decode cX6_oneMan 3 = .ok (.imul, 1) := by decide +kernel
theorem dX6_oneMan_4 : decode cX6_oneMan 4 = .ok (.ishl, 1) := by decide +kernel
theorem dX6_oneMan_5 : decode cX6_oneMan 5 = .ok (.ireturn, 1) := by decide +kernel
theorem dX2_put_0 : decode cX2_put 0 = .ok (.aload_n 0, 1) := by decide +kernel
theorem dX2_put_1 : decode cX2_put 1 = .ok (.invokevirtual 99, 3) := by decide +kernel
theorem dX2_put_4 : decode cX2_put 4 = .ok (.iload_n 1, 1) := by decide +kernel
theorem dX2_put_5 : decode cX2_put 5 = .ok (.iconst (-1), 1) := by decide +kernel
theorem dX2_put_6 : decode cX2_put 6 = .ok (.if_icmp .eq 57, 3) := by decide +kernel
theorem dX2_put_9 : decode cX2_put 9 = .ok (.aload_n 0, 1) := by decide +kernel
theorem dX2_put_10 : decode cX2_put 10 = .ok (.getfield 19, 3) := by decide +kernel
theorem dX2_put_13 : decode cX2_put 13 = .ok (.aload_n 0, 1) := by decide +kernel
theorem dX2_put_14 : decode cX2_put 14 = .ok (.getfield 56, 3) := by decide +kernel
theorem dX2_put_17 : decode cX2_put 17 = .ok (.dup2, 1) := by decide +kernel
theorem dX2_put_18 : decode cX2_put 18 = .ok (.iaload, 1) := by decide +kernel
theorem dX2_put_19 : decode cX2_put 19 = .ok (.iconst 1, 1) := by decide +kernel
theorem dX2_put_20 : decode cX2_put 20 = .ok (.isub, 1) := by decide +kernel
theorem dX2_put_21 : decode cX2_put 21 = .ok (.iastore, 1) := by decide +kernel
theorem dX2_put_22 : decode cX2_put 22 = .ok (.aload_n 0, 1) := by decide +kernel
theorem dX2_put_23 : decode cX2_put 23 = .ok (.getfield 32, 3) := by decide +kernel
theorem dX2_put_26 : decode cX2_put 26 = .ok (.getfield 87, 3) := by decide +kernel
theorem dX2_put_29 : decode cX2_put 29 = .ok (.aload_n 0, 1) := by decide +kernel
theorem dX2_put_30 : decode cX2_put 30 = .ok (.getfield 32, 3) := by decide +kernel
theorem dX2_put_33 : decode cX2_put 33 = .ok (.getfield 87, 3) := by decide +kernel
theorem dX2_put_36 : decode cX2_put 36 = .ok (.aload_n 0, 1) := by decide +kernel
theorem dX2_put_37 : decode cX2_put 37 = .ok (.getfield 32, 3) := by decide +kernel
theorem dX2_put_40 : decode cX2_put 40 = .ok (.getfield 74, 3) := by decide +kernel
theorem dX2_put_43 : decode cX2_put 43 = .ok (.iconst 1, 1) := by decide +kernel
theorem dX2_put_44 : decode cX2_put 44 = .ok (.isub, 1) := by decide +kernel
theorem dX2_put_45 : decode cX2_put 45 = .ok (.bipush 8, 2) := by decide +kernel
theorem dX2_put_47 : decode cX2_put 47 = .ok (.imul, 1) := by decide +kernel
theorem dX2_put_48 : decode cX2_put 48 = .ok (.iload_n 1, 1) := by decide +kernel
theorem dX2_put_49 : decode cX2_put 49 = .ok (.iadd, 1) := by decide +kernel
theorem dX2_put_50 : decode cX2_put 50 = .ok (.invokevirtual 96, 3) := by decide +kernel
theorem dX2_put_53 : decode cX2_put 53 = .ok (.aload_n 0, 1) := by decide +kernel
theorem dX2_put_54 : decode cX2_put 54 = .ok (.getfield 56, 3) := by decide +kernel
theorem dX2_put_57 : decode cX2_put 57 = .ok (.invokestatic 102, 3) := by decide +kernel
theorem dX2_put_60 : decode cX2_put 60 = .ok (.invokevirtual 105, 3) := by decide +kernel
theorem dX2_put_63 : decode cX2_put 63 = .ok (.aload_n 0, 1) := by decide +kernel
theorem dX2_put_64 : decode cX2_put 64 = .ok (.invokevirtual 108, 3) := by decide +kernel
theorem dX2_put_67 : decode cX2_put 67 = .ok (.istore_n 2, 1) := by decide +kernel
theorem dX2_put_68 : decode cX2_put 68 = .ok (.aload_n 0, 1) := by decide +kernel
theorem dX2_put_69 : decode cX2_put 69 = .ok (.iconst 0, 1) := by decide +kernel
theorem dX2_put_70 : decode cX2_put 70 = .ok (.putfield 71, 3) := by decide +kernel
theorem dX2_put_73 : decode cX2_put 73 = .ok (.aload_n 0, 1) := by decide +kernel
theorem dX2_put_74 : decode cX2_put 74 = .ok (.aload_n 0, 1) := by decide +kernel
theorem dX2_put_75 : decode cX2_put 75 = .ok (.getfield 56, 3) := by decide +kernel
theorem dX2_put_78 : decode cX2_put 78 = .ok (.iconst 1, 1) := by decide +kernel
theorem dX2_put_79 : decode cX2_put 79 = .ok (.iadd, 1) := by decide +kernel
theorem dX2_put_80 : decode cX2_put 80 = .ok (.aload_n 0, 1) := by decide +kernel
theorem dX2_put_81 : decode cX2_put 81 = .ok (.getfield 43, 3) := by decide +kernel
theorem dX2_put_84 : decode cX2_put 84 = .ok (.if_icmp .ge 12, 3) := by decide +kernel
theorem dX2_put_87 : decode cX2_put 87 = .ok (.aload_n 0, 1) := by decide +kernel
theorem dX2_put_88 : decode cX2_put 88 = .ok (.getfield 56, 3) := by decide +kernel
theorem dX2_put_91 : decode cX2_put 91 = .ok (.iconst 1, 1) := by decide +kernel
theorem dX2_put_92 : decode cX2_put 92 = .ok (.iadd, 1) := by decide +kernel
theorem dX2_put_93 : decode cX2_put 93 = .ok (.goto 4, 3) := by decide +kernel
theorem dX2_put_96 : decode cX2_put 96 = .ok (.iconst 0, 1) := by decide +kernel
theorem dX2_put_97 : decode cX2_put 97 = .ok (.putfield 56, 3) := by decide +kernel
theorem dX2_put_100 : decode cX2_put 100 = .ok (.aload_n 0, 1) := by decide +kernel
theorem dX2_put_101 : decode cX2_put 101 = .ok (.invokevirtual 46, 3) := by decide +kernel
theorem dX2_put_104 : decode cX2_put 104 = .ok (.iload_n 2, 1) := by decide +kernel
theorem dX2_put_105 : decode cX2_put 105 = .ok (.ireturn, 1) := by decide +kernel
theorem dX6_follow_0 : decode cX6_follow 0 = .ok (.aload_n 0, 1) := by decide +kernel
theorem dX6_follow_1 : decode cX6_follow 1 = .ok (.getfield 30, 3) := by decide +kernel
theorem dX6_follow_4 : decode cX6_follow 4 = .ok (.iload_n 1, 1) := by decide +kernel
theorem dX6_follow_5 : decode cX6_follow 5 = .ok (.invokevirtual 119, 3) := by decide +kernel
theorem dX6_follow_8 : decode cX6_follow 8 = .ok (.ifCond .ne 6, 3) := by decide +kernel
theorem dX6_follow_11 : decode cX6_follow 11 = .ok (.bipush (-2), 2) := by decide +kernel
theorem dX6_follow_13 : decode cX6_follow 13 = .ok (.ireturn, 1) := by decide +kernel
theorem dX6_follow_14 : decode cX6_follow 14 = .ok (.aload_n 0, 1) := by decide +kernel
theorem dX6_follow_15 : decode cX6_follow 15 = .ok (.getfield 39, 3) := by decide +kernel
theorem dX6_follow_18 : decode cX6_follow 18 = .ok (.invokevirtual 66, 3) := by decide +kernel
theorem dX6_follow_21 : decode cX6_follow 21 = .ok (.aload_n 0, 1) := by decide +kernel
theorem dX6_follow_22 : decode cX6_follow 22 = .ok (.getfield 30, 3) := by decide +kernel
theorem dX6_follow_25 : decode cX6_follow 25 = .ok (.iload_n 1, 1) := by decide +kernel
theorem dX6_follow_26 : decode cX6_follow 26 = .ok (.invokevirtual 123, 3) := by decide +kernel
theorem dX6_follow_29 : decode cX6_follow 29 = .ok (.ireturn, 1) := by decide +kernel
theorem dX6_undo_0 : decode cX6_undo 0 = .ok (.aload_n 0, 1) := by decide +kernel
theorem dX6_undo_1 : decode cX6_undo 1 = .ok (.getfield 30, 3) := by decide +kernel
theorem dX6_undo_4 : decode cX6_undo 4 = .ok (.invokevirtual 90, 3) := by decide +kernel
theorem dX6_undo_7 : decode cX6_undo 7 = .ok (.ifCond .ne 5, 3) := by decide +kernel
theorem dX6_undo_10 : decode cX6_undo 10 = .ok (.iconst 0, 1) := by decide +kernel
theorem dX6_undo_11 : decode cX6_undo 11 = .ok (.ireturn, 1) := by decide +kernel
theorem dX6_undo_12 : decode cX6_undo 12 = .ok (.aload_n 0, 1) := by decide +kernel
theorem dX6_undo_13 : decode cX6_undo 13 = .ok (.getfield 39, 3) := by decide +kernel
theorem dX6_undo_16 : decode cX6_undo 16 = .ok (.invokevirtual 66, 3) := by decide +kernel
theorem dX6_undo_19 : decode cX6_undo 19 = .ok (.aload_n 0, 1) := by decide +kernel
theorem dX6_undo_20 : decode cX6_undo 20 = .ok (.getfield 30, 3) := by decide +kernel
theorem dX6_undo_23 : decode cX6_undo 23 = .ok (.invokevirtual 126, 3) := by decide +kernel
theorem dX6_undo_26 : decode cX6_undo 26 = .ok (.iconst 1, 1) := by decide +kernel
theorem dX6_undo_27 : decode cX6_undo 27 = .ok (.ireturn, 1) := by decide +kernel
theorem dX6_region_0 : decode cX6_region 0 = .ok (.iload_n 1, 1) := by decide +kernel
theorem dX6_region_1 : decode cX6_region 1 = .ok (.iload_n 2, 1) := by decide +kernel
theorem dX6_region_2 : decode cX6_region 2 = .ok (.invokestatic 106, 3) := by decide +kernel
theorem dX6_region_5 : decode cX6_region 5 = .ok (.ifCond .eq 13, 3) := by decide +kernel
theorem dX6_region_8 : decode cX6_region 8 = .ok (.iload_n 3, 1) := by decide +kernel
theorem dX6_region_9 : decode cX6_region 9 = .ok (.ifCond .lt 9, 3) := by decide +kernel
theorem dX6_region_12 : decode cX6_region 12 = .ok (.iload_n 3, 1) := by decide +kernel
theorem dX6_region_13 : decode cX6_region 13 = .ok (.bipush 8, 2) := by decide +kernel
theorem dX6_region_15 : decode cX6_region 15 = .ok (.if_icmp .lt 5, 3) := by decide +kernel
theorem dX6_region_18 : decode cX6_region 18 = .ok (.iconst (-1), 1) := by decide +kernel
theorem dX6_region_19 : decode cX6_region 19 = .ok (.ireturn, 1) := by decide +kernel
theorem dX6_region_20 : decode cX6_region 20 = .ok (.aload_n 0, 1) := by decide +kernel
theorem dX6_region_21 : decode cX6_region 21 = .ok (.getfield 21, 3) := by decide +kernel
theorem dX6_region_24 : decode cX6_region 24 = .ok (.getfield 129, 3) := by decide +kernel
theorem dX6_region_27 : decode cX6_region 27 = .ok (.iload_n 1, 1) := by decide +kernel
theorem dX6_region_28 : decode cX6_region 28 = .ok (.iload_n 2, 1) := by decide +kernel
theorem dX6_region_29 : decode cX6_region 29 = .ok (.invokestatic 110, 3) := by decide +kernel
theorem dX6_region_32 : decode cX6_region 32 = .ok (.iaload, 1) := by decide +kernel
theorem dX6_region_33 : decode cX6_region 33 = .ok (.istore 4, 2) := by decide +kernel
theorem dX6_region_35 : decode cX6_region 35 = .ok (.iload 4, 2) := by decide +kernel
theorem dX6_region_37 : decode cX6_region 37 = .ok (.iconst (-1), 1) := by decide +kernel
theorem dX6_region_38 : decode cX6_region 38 = .ok (.if_icmp .eq 20, 3) := by decide +kernel
theorem dX6_region_41 : decode cX6_region 41 = .ok (.aload_n 0, 1) := by decide +kernel
theorem dX6_region_42 : decode cX6_region 42 = .ok (.getfield 21, 3) := by decide +kernel
theorem dX6_region_45 : decode cX6_region 45 = .ok (.iload 4, 2) := by decide +kernel
theorem dX6_region_47 : decode cX6_region 47 = .ok (.bipush 8, 2) := by decide +kernel
theorem dX6_region_49 : decode cX6_region 49 = .ok (.imul, 1) := by decide +kernel
theorem dX6_region_50 : decode cX6_region 50 = .ok (.iload_n 3, 1) := by decide +kernel
theorem dX6_region_51 : decode cX6_region 51 = .ok (.iadd, 1) := by decide +kernel
theorem dX6_region_52 : decode cX6_region 52 = .ok (.invokevirtual 133, 3) := by decide +kernel
theorem dX6_region_55 : decode cX6_region 55 = .ok (.ifCond .ne 5, 3) := by decide +kernel
theorem dX6_region_58 : decode cX6_region 58 = .ok (.iconst (-1), 1) := by decide +kernel
theorem dX6_region_59 : decode cX6_region 59 = .ok (.ireturn, 1) := by decide +kernel
theorem dX6_region_60 : decode cX6_region 60 = .ok (.aload_n 0, 1) := by decide +kernel
theorem dX6_region_61 : decode cX6_region 61 = .ok (.getfield 21, 3) := by decide +kernel
theorem dX6_region_64 : decode cX6_region 64 = .ok (.getfield 136, 3) := by decide +kernel
theorem dX6_region_67 : decode cX6_region 67 = .ok (.iload 4, 2) := by decide +kernel
theorem dX6_region_69 : decode cX6_region 69 = .ok (.bipush 8, 2) := by decide +kernel
theorem dX6_region_71 : decode cX6_region 71 = .ok (.imul, 1) := by decide +kernel
theorem dX6_region_72 : decode cX6_region 72 = .ok (.iload_n 3, 1) := by decide +kernel
theorem dX6_region_73 : decode cX6_region 73 = .ok (.iadd, 1) := by decide +kernel
theorem dX6_region_74 : decode cX6_region 74 = .ok (.invokevirtual 140, 3) := by decide +kernel
theorem dX6_region_77 : decode cX6_region 77 = .ok (.ireturn, 1) := by decide +kernel
theorem dX5_isRegion_0 : decode cX5_isRegion 0 = .ok (.iload_n 1, 1) := by decide +kernel
theorem dX5_isRegion_1 : decode cX5_isRegion 1 = .ok (.ifCond .lt 39, 3) := by decide +kernel
theorem dX5_isRegion_4 : decode cX5_isRegion 4 = .ok (.iload_n 1, 1) := by decide +kernel
theorem dX5_isRegion_5 : decode cX5_isRegion 5 = .ok (.aload_n 0, 1) := by decide +kernel
theorem dX5_isRegion_6 : decode cX5_isRegion 6 = .ok (.getfield 69, 3) := by decide +kernel
theorem dX5_isRegion_9 : decode cX5_isRegion 9 = .ok (.bipush 8, 2) := by decide +kernel
theorem dX5_isRegion_11 : decode cX5_isRegion 11 = .ok (.imul, 1) := by decide +kernel
theorem dX5_isRegion_12 : decode cX5_isRegion 12 = .ok (.if_icmp .ge 28, 3) := by decide +kernel
theorem dX5_isRegion_15 : decode cX5_isRegion 15 = .ok (.aload_n 0, 1) := by decide +kernel
theorem dX5_isRegion_16 : decode cX5_isRegion 16 = .ok (.iload_n 1, 1) := by decide +kernel
theorem dX5_isRegion_17 : decode cX5_isRegion 17 = .ok (.invokevirtual 122, 3) := by decide +kernel
theorem dX5_isRegion_20 : decode cX5_isRegion 20 = .ok (.ifCond .eq 20, 3) := by decide +kernel
theorem dX5_isRegion_23 : decode cX5_isRegion 23 = .ok (.aload_n 0, 1) := by decide +kernel
theorem dX5_isRegion_24 : decode cX5_isRegion 24 = .ok (.getfield 43, 3) := by decide +kernel
theorem dX5_isRegion_27 : decode cX5_isRegion 27 = .ok (.getfield 125, 3) := by decide +kernel
theorem dX5_isRegion_30 : decode cX5_isRegion 30 = .ok (.iload_n 1, 1) := by decide +kernel
theorem dX5_isRegion_31 : decode cX5_isRegion 31 = .ok (.iaload, 1) := by decide +kernel
theorem dX5_isRegion_32 : decode cX5_isRegion 32 = .ok (.iload_n 1, 1) := by decide +kernel
theorem dX5_isRegion_33 : decode cX5_isRegion 33 = .ok (.if_icmp .ne 7, 3) := by decide +kernel
theorem dX5_isRegion_36 : decode cX5_isRegion 36 = .ok (.iconst 1, 1) := by decide +kernel
theorem dX5_isRegion_37 : decode cX5_isRegion 37 = .ok (.goto 4, 3) := by decide +kernel
theorem dX5_isRegion_40 : decode cX5_isRegion 40 = .ok (.iconst 0, 1) := by decide +kernel
theorem dX5_isRegion_41 : decode cX5_isRegion 41 = .ok (.ireturn, 1) := by decide +kernel
theorem dX6_about_0 : decode cX6_about 0 = .ok (.aload_n 0, 1) := by decide +kernel
theorem dX6_about_1 : decode cX6_about 1 = .ok (.getfield 21, 3) := by decide +kernel
theorem dX6_about_4 : decode cX6_about 4 = .ok (.iload_n 1, 1) := by decide +kernel
theorem dX6_about_5 : decode cX6_about 5 = .ok (.invokevirtual 145, 3) := by decide +kernel
theorem dX6_about_8 : decode cX6_about 8 = .ok (.ifCond .ne 5, 3) := by decide +kernel
theorem dX6_about_11 : decode cX6_about 11 = .ok (.iconst (-1), 1) := by decide +kernel
theorem dX6_about_12 : decode cX6_about 12 = .ok (.ireturn, 1) := by decide +kernel
theorem dX6_about_13 : decode cX6_about 13 = .ok (.iload_n 2, 1) := by decide +kernel
theorem dX6_about_14 : decode cX6_about 14 = .ok (.tableswitch 133 0 7 #[46, 55, 71, 84, 97, 114, 114, 114], 46) := by decide +kernel
theorem dX6_about_60 : decode cX6_about 60 = .ok (.aload_n 0, 1) := by decide +kernel
theorem dX6_about_61 : decode cX6_about 61 = .ok (.getfield 21, 3) := by decide +kernel
theorem dX6_about_64 : decode cX6_about 64 = .ok (.iload_n 1, 1) := by decide +kernel
theorem dX6_about_65 : decode cX6_about 65 = .ok (.invokevirtual 133, 3) := by decide +kernel
theorem dX6_about_68 : decode cX6_about 68 = .ok (.ireturn, 1) := by decide +kernel
theorem dX6_about_69 : decode cX6_about 69 = .ok (.aload_n 0, 1) := by decide +kernel
theorem dX6_about_70 : decode cX6_about 70 = .ok (.getfield 21, 3) := by decide +kernel
theorem dX6_about_73 : decode cX6_about 73 = .ok (.getfield 136, 3) := by decide +kernel
theorem dX6_about_76 : decode cX6_about 76 = .ok (.getfield 148, 3) := by decide +kernel
theorem dX6_about_79 : decode cX6_about 79 = .ok (.iload_n 1, 1) := by decide +kernel
theorem dX6_about_80 : decode cX6_about 80 = .ok (.iaload, 1) := by decide +kernel
theorem dX6_about_81 : decode cX6_about 81 = .ok (.invokestatic 151, 3) := by decide +kernel
theorem dX6_about_84 : decode cX6_about 84 = .ok (.ireturn, 1) := by decide +kernel
theorem dX6_about_85 : decode cX6_about 85 = .ok (.aload_n 0, 1) := by decide +kernel
theorem dX6_about_86 : decode cX6_about 86 = .ok (.getfield 21, 3) := by decide +kernel
theorem dX6_about_89 : decode cX6_about 89 = .ok (.getfield 136, 3) := by decide +kernel
theorem dX6_about_92 : decode cX6_about 92 = .ok (.getfield 156, 3) := by decide +kernel
theorem dX6_about_95 : decode cX6_about 95 = .ok (.iload_n 1, 1) := by decide +kernel
theorem dX6_about_96 : decode cX6_about 96 = .ok (.iaload, 1) := by decide +kernel
theorem dX6_about_97 : decode cX6_about 97 = .ok (.ireturn, 1) := by decide +kernel
theorem dX6_about_98 : decode cX6_about 98 = .ok (.aload_n 0, 1) := by decide +kernel
theorem dX6_about_99 : decode cX6_about 99 = .ok (.getfield 21, 3) := by decide +kernel
theorem dX6_about_102 : decode cX6_about 102 = .ok (.getfield 136, 3) := by decide +kernel
theorem dX6_about_105 : decode cX6_about 105 = .ok (.getfield 159, 3) := by decide +kernel
theorem dX6_about_108 : decode cX6_about 108 = .ok (.iload_n 1, 1) := by decide +kernel
theorem dX6_about_109 : decode cX6_about 109 = .ok (.iaload, 1) := by decide +kernel
theorem dX6_about_110 : decode cX6_about 110 = .ok (.ireturn, 1) := by decide +kernel
theorem dX6_about_111 : decode cX6_about 111 = .ok (.aload_n 0, 1) := by decide +kernel
theorem dX6_about_112 : decode cX6_about 112 = .ok (.getfield 21, 3) := by decide +kernel
theorem dX6_about_115 : decode cX6_about 115 = .ok (.iload_n 1, 1) := by decide +kernel
theorem dX6_about_116 : decode cX6_about 116 = .ok (.invokevirtual 162, 3) := by decide +kernel
theorem dX6_about_119 : decode cX6_about 119 = .ok (.ifCond .eq 7, 3) := by decide +kernel
theorem dX6_about_122 : decode cX6_about 122 = .ok (.iconst 1, 1) := by decide +kernel
theorem dX6_about_123 : decode cX6_about 123 = .ok (.goto 4, 3) := by decide +kernel
theorem dX6_about_126 : decode cX6_about 126 = .ok (.iconst 0, 1) := by decide +kernel
theorem dX6_about_127 : decode cX6_about 127 = .ok (.ireturn, 1) := by decide +kernel
theorem dX6_about_128 : decode cX6_about 128 = .ok (.aload_n 0, 1) := by decide +kernel
theorem dX6_about_129 : decode cX6_about 129 = .ok (.getfield 21, 3) := by decide +kernel
theorem dX6_about_132 : decode cX6_about 132 = .ok (.getfield 136, 3) := by decide +kernel
theorem dX6_about_135 : decode cX6_about 135 = .ok (.getfield 165, 3) := by decide +kernel
theorem dX6_about_138 : decode cX6_about 138 = .ok (.iload_n 1, 1) := by decide +kernel
theorem dX6_about_139 : decode cX6_about 139 = .ok (.iaload, 1) := by decide +kernel
theorem dX6_about_140 : decode cX6_about 140 = .ok (.iload_n 2, 1) := by decide +kernel
theorem dX6_about_141 : decode cX6_about 141 = .ok (.iconst 5, 1) := by decide +kernel
theorem dX6_about_142 : decode cX6_about 142 = .ok (.isub, 1) := by decide +kernel
theorem dX6_about_143 : decode cX6_about 143 = .ok (.invokestatic 168, 3) := by decide +kernel
theorem dX6_about_146 : decode cX6_about 146 = .ok (.ireturn, 1) := by decide +kernel
theorem dX6_about_147 : decode cX6_about 147 = .ok (.iconst (-1), 1) := by decide +kernel
theorem dX6_about_148 : decode cX6_about 148 = .ok (.ireturn, 1) := by decide +kernel
theorem dX5_newFinishedCities_0 : decode cX5_newFinishedCities 0 = .ok (.iconst 0, 1) := by decide +kernel
theorem dX5_newFinishedCities_1 : decode cX5_newFinishedCities 1 = .ok (.istore_n 3, 1) := by decide +kernel
theorem dX5_newFinishedCities_2 : decode cX5_newFinishedCities 2 = .ok (.iconst 0, 1) := by decide +kernel
theorem dX5_newFinishedCities_3 : decode cX5_newFinishedCities 3 = .ok (.istore 4, 2) := by decide +kernel
theorem dX5_newFinishedCities_5 : decode cX5_newFinishedCities 5 = .ok (.iload 4, 2) := by decide +kernel
theorem dX5_newFinishedCities_7 : decode cX5_newFinishedCities 7 = .ok (.bipush 8, 2) := by decide +kernel
theorem dX5_newFinishedCities_9 : decode cX5_newFinishedCities 9 = .ok (.if_icmp .ge 78, 3) := by decide +kernel
theorem dX5_newFinishedCities_12 : decode cX5_newFinishedCities 12 = .ok (.iload_n 2, 1) := by decide +kernel
theorem dX5_newFinishedCities_13 : decode cX5_newFinishedCities 13 = .ok (.iload 4, 2) := by decide +kernel
theorem dX5_newFinishedCities_15 : decode cX5_newFinishedCities 15 = .ok (.ishr, 1) := by decide +kernel
theorem dX5_newFinishedCities_16 : decode cX5_newFinishedCities 16 = .ok (.iconst 1, 1) := by decide +kernel
theorem dX5_newFinishedCities_17 : decode cX5_newFinishedCities 17 = .ok (.iand, 1) := by decide +kernel
theorem dX5_newFinishedCities_18 : decode cX5_newFinishedCities 18 = .ok (.ifCond .ne 6, 3) := by decide +kernel
theorem dX5_newFinishedCities_21 : decode cX5_newFinishedCities 21 = .ok (.goto 60, 3) := by decide +kernel
theorem dX5_newFinishedCities_24 : decode cX5_newFinishedCities 24 = .ok (.aload_n 0, 1) := by decide +kernel
theorem dX5_newFinishedCities_25 : decode cX5_newFinishedCities 25 = .ok (.getfield 43, 3) := by decide +kernel
theorem dX5_newFinishedCities_28 : decode cX5_newFinishedCities 28 = .ok (.iload_n 1, 1) := by decide +kernel
theorem dX5_newFinishedCities_29 : decode cX5_newFinishedCities 29 = .ok (.bipush 8, 2) := by decide +kernel
theorem dX5_newFinishedCities_31 : decode cX5_newFinishedCities 31 = .ok (.imul, 1) := by decide +kernel
theorem dX5_newFinishedCities_32 : decode cX5_newFinishedCities 32 = .ok (.iload 4, 2) := by decide +kernel
theorem dX5_newFinishedCities_34 : decode cX5_newFinishedCities 34 = .ok (.iadd, 1) := by decide +kernel
theorem dX5_newFinishedCities_35 : decode cX5_newFinishedCities 35 = .ok (.invokevirtual 110, 3) := by decide +kernel
theorem dX5_newFinishedCities_38 : decode cX5_newFinishedCities 38 = .ok (.istore 5, 2) := by decide +kernel
theorem dX5_newFinishedCities_40 : decode cX5_newFinishedCities 40 = .ok (.aload_n 0, 1) := by decide +kernel
theorem dX5_newFinishedCities_41 : decode cX5_newFinishedCities 41 = .ok (.getfield 43, 3) := by decide +kernel
theorem dX5_newFinishedCities_44 : decode cX5_newFinishedCities 44 = .ok (.getfield 100, 3) := by decide +kernel
theorem dX5_newFinishedCities_47 : decode cX5_newFinishedCities 47 = .ok (.iload 5, 2) := by decide +kernel
theorem dX5_newFinishedCities_49 : decode cX5_newFinishedCities 49 = .ok (.iaload, 1) := by decide +kernel
theorem dX5_newFinishedCities_50 : decode cX5_newFinishedCities 50 = .ok (.ifCond .ne 31, 3) := by decide +kernel
theorem dX5_newFinishedCities_53 : decode cX5_newFinishedCities 53 = .ok (.aload_n 0, 1) := by decide +kernel
theorem dX5_newFinishedCities_54 : decode cX5_newFinishedCities 54 = .ok (.getfield 33, 3) := by decide +kernel
theorem dX5_newFinishedCities_57 : decode cX5_newFinishedCities 57 = .ok (.iload 5, 2) := by decide +kernel
theorem dX5_newFinishedCities_59 : decode cX5_newFinishedCities 59 = .ok (.iaload, 1) := by decide +kernel
theorem dX5_newFinishedCities_60 : decode cX5_newFinishedCities 60 = .ok (.aload_n 0, 1) := by decide +kernel
theorem dX5_newFinishedCities_61 : decode cX5_newFinishedCities 61 = .ok (.getfield 143, 3) := by decide +kernel
theorem dX5_newFinishedCities_64 : decode cX5_newFinishedCities 64 = .ok (.if_icmp .eq 17, 3) := by decide +kernel
theorem dX5_newFinishedCities_67 : decode cX5_newFinishedCities 67 = .ok (.aload_n 0, 1) := by decide +kernel
theorem dX5_newFinishedCities_68 : decode cX5_newFinishedCities 68 = .ok (.getfield 33, 3) := by decide +kernel
theorem dX5_newFinishedCities_71 : decode cX5_newFinishedCities 71 = .ok (.iload 5, 2) := by decide +kernel
theorem dX5_newFinishedCities_73 : decode cX5_newFinishedCities 73 = .ok (.aload_n 0, 1) := by decide +kernel
theorem dX5_newFinishedCities_74 : decode cX5_newFinishedCities 74 = .ok (.getfield 143, 3) := by decide +kernel
theorem dX5_newFinishedCities_77 : decode cX5_newFinishedCities 77 = .ok (.iastore, 1) := by decide +kernel
theorem dX5_newFinishedCities_78 : decode cX5_newFinishedCities 78 = .ok (.iinc 3 1, 3) := by decide +kernel
theorem dX5_newFinishedCities_81 : decode cX5_newFinishedCities 81 = .ok (.iinc 4 1, 3) := by decide +kernel
theorem dX5_newFinishedCities_84 : decode cX5_newFinishedCities 84 = .ok (.goto (-79), 3) := by decide +kernel
theorem dX5_newFinishedCities_87 : decode cX5_newFinishedCities 87 = .ok (.iload_n 3, 1) := by decide +kernel
theorem dX5_newFinishedCities_88 : decode cX5_newFinishedCities 88 = .ok (.ireturn, 1) := by decide +kernel
theorem dX5_finishedCitiesAt_0 : decode cX5_finishedCitiesAt 0 = .ok (.aload_n 0, 1) := by decide +kernel
theorem dX5_finishedCitiesAt_1 : decode cX5_finishedCitiesAt 1 = .ok (.dup, 1) := by decide +kernel
theorem dX5_finishedCitiesAt_2 : decode cX5_finishedCitiesAt 2 = .ok (.getfield 143, 3) := by decide +kernel
theorem dX5_finishedCitiesAt_5 : decode cX5_finishedCitiesAt 5 = .ok (.iconst 1, 1) := by decide +kernel
theorem dX5_finishedCitiesAt_6 : decode cX5_finishedCitiesAt 6 = .ok (.iadd, 1) := by decide +kernel
theorem dX5_finishedCitiesAt_7 : decode cX5_finishedCitiesAt 7 = .ok (.putfield 143, 3) := by decide +kernel
theorem dX5_finishedCitiesAt_10 : decode cX5_finishedCitiesAt 10 = .ok (.iconst 0, 1) := by decide +kernel
theorem dX5_finishedCitiesAt_11 : decode cX5_finishedCitiesAt 11 = .ok (.istore_n 2, 1) := by decide +kernel
theorem dX5_finishedCitiesAt_12 : decode cX5_finishedCitiesAt 12 = .ok (.iconst 0, 1) := by decide +kernel
theorem dX5_finishedCitiesAt_13 : decode cX5_finishedCitiesAt 13 = .ok (.istore_n 3, 1) := by decide +kernel
theorem dX5_finishedCitiesAt_14 : decode cX5_finishedCitiesAt 14 = .ok (.iload_n 3, 1) := by decide +kernel
theorem dX5_finishedCitiesAt_15 : decode cX5_finishedCitiesAt 15 = .ok (.aload_n 0, 1) := by decide +kernel
theorem dX5_finishedCitiesAt_16 : decode cX5_finishedCitiesAt 16 = .ok (.getfield 69, 3) := by decide +kernel
theorem dX5_finishedCitiesAt_19 : decode cX5_finishedCitiesAt 19 = .ok (.if_icmp .ge 99, 3) := by decide +kernel
theorem dX5_finishedCitiesAt_22 : decode cX5_finishedCitiesAt 22 = .ok (.aload_n 0, 1) := by decide +kernel
theorem dX5_finishedCitiesAt_23 : decode cX5_finishedCitiesAt 23 = .ok (.getfield 43, 3) := by decide +kernel
theorem dX5_finishedCitiesAt_26 : decode cX5_finishedCitiesAt 26 = .ok (.getfield 131, 3) := by decide +kernel
theorem dX5_finishedCitiesAt_29 : decode cX5_finishedCitiesAt 29 = .ok (.iload_n 1, 1) := by decide +kernel
theorem dX5_finishedCitiesAt_30 : decode cX5_finishedCitiesAt 30 = .ok (.iaload, 1) := by decide +kernel
theorem dX5_finishedCitiesAt_31 : decode cX5_finishedCitiesAt 31 = .ok (.iload_n 3, 1) := by decide +kernel
theorem dX5_finishedCitiesAt_32 : decode cX5_finishedCitiesAt 32 = .ok (.ishr, 1) := by decide +kernel
theorem dX5_finishedCitiesAt_33 : decode cX5_finishedCitiesAt 33 = .ok (.iconst 1, 1) := by decide +kernel
theorem dX5_finishedCitiesAt_34 : decode cX5_finishedCitiesAt 34 = .ok (.iand, 1) := by decide +kernel
theorem dX5_finishedCitiesAt_35 : decode cX5_finishedCitiesAt 35 = .ok (.ifCond .ne 6, 3) := by decide +kernel
theorem dX5_finishedCitiesAt_38 : decode cX5_finishedCitiesAt 38 = .ok (.goto 74, 3) := by decide +kernel
theorem dX5_finishedCitiesAt_41 : decode cX5_finishedCitiesAt 41 = .ok (.iconst 0, 1) := by decide +kernel
theorem dX5_finishedCitiesAt_42 : decode cX5_finishedCitiesAt 42 = .ok (.istore 4, 2) := by decide +kernel
theorem dX5_finishedCitiesAt_44 : decode cX5_finishedCitiesAt 44 = .ok (.iload 4, 2) := by decide +kernel
theorem dX5_finishedCitiesAt_46 : decode cX5_finishedCitiesAt 46 = .ok (.bipush 8, 2) := by decide +kernel
theorem dX5_finishedCitiesAt_48 : decode cX5_finishedCitiesAt 48 = .ok (.if_icmp .ge 64, 3) := by decide +kernel
theorem dX5_finishedCitiesAt_51 : decode cX5_finishedCitiesAt 51 = .ok (.aload_n 0, 1) := by decide +kernel
theorem dX5_finishedCitiesAt_52 : decode cX5_finishedCitiesAt 52 = .ok (.getfield 36, 3) := by decide +kernel
theorem dX5_finishedCitiesAt_55 : decode cX5_finishedCitiesAt 55 = .ok (.getfield 146, 3) := by decide +kernel
theorem dX5_finishedCitiesAt_58 : decode cX5_finishedCitiesAt 58 = .ok (.aload_n 0, 1) := by decide +kernel
theorem dX5_finishedCitiesAt_59 : decode cX5_finishedCitiesAt 59 = .ok (.getfield 24, 3) := by decide +kernel
theorem dX5_finishedCitiesAt_62 : decode cX5_finishedCitiesAt 62 = .ok (.iload_n 3, 1) := by decide +kernel
theorem dX5_finishedCitiesAt_63 : decode cX5_finishedCitiesAt 63 = .ok (.iaload, 1) := by decide +kernel
theorem dX5_finishedCitiesAt_64 : decode cX5_finishedCitiesAt 64 = .ok (.bipush 8, 2) := by decide +kernel
theorem dX5_finishedCitiesAt_66 : decode cX5_finishedCitiesAt 66 = .ok (.imul, 1) := by decide +kernel
theorem dX5_finishedCitiesAt_67 : decode cX5_finishedCitiesAt 67 = .ok (.iload 4, 2) := by decide +kernel
theorem dX5_finishedCitiesAt_69 : decode cX5_finishedCitiesAt 69 = .ok (.iadd, 1) := by decide +kernel
theorem dX5_finishedCitiesAt_70 : decode cX5_finishedCitiesAt 70 = .ok (.iaload, 1) := by decide +kernel
theorem dX5_finishedCitiesAt_71 : decode cX5_finishedCitiesAt 71 = .ok (.istore 5, 2) := by decide +kernel
theorem dX5_finishedCitiesAt_73 : decode cX5_finishedCitiesAt 73 = .ok (.iload 5, 2) := by decide +kernel
theorem dX5_finishedCitiesAt_75 : decode cX5_finishedCitiesAt 75 = .ok (.ifCond .eq 31, 3) := by decide +kernel
theorem dX5_finishedCitiesAt_78 : decode cX5_finishedCitiesAt 78 = .ok (.aload_n 0, 1) := by decide +kernel
theorem dX5_finishedCitiesAt_79 : decode cX5_finishedCitiesAt 79 = .ok (.getfield 43, 3) := by decide +kernel
theorem dX5_finishedCitiesAt_82 : decode cX5_finishedCitiesAt 82 = .ok (.iload_n 3, 1) := by decide +kernel
theorem dX5_finishedCitiesAt_83 : decode cX5_finishedCitiesAt 83 = .ok (.bipush 8, 2) := by decide +kernel
theorem dX5_finishedCitiesAt_85 : decode cX5_finishedCitiesAt 85 = .ok (.imul, 1) := by decide +kernel
theorem dX5_finishedCitiesAt_86 : decode cX5_finishedCitiesAt 86 = .ok (.iload 4, 2) := by decide +kernel
theorem dX5_finishedCitiesAt_88 : decode cX5_finishedCitiesAt 88 = .ok (.iadd, 1) := by decide +kernel
theorem dX5_finishedCitiesAt_89 : decode cX5_finishedCitiesAt 89 = .ok (.invokevirtual 110, 3) := by decide +kernel
theorem dX5_finishedCitiesAt_92 : decode cX5_finishedCitiesAt 92 = .ok (.iload_n 1, 1) := by decide +kernel
theorem dX5_finishedCitiesAt_93 : decode cX5_finishedCitiesAt 93 = .ok (.if_icmp .ne 13, 3) := by decide +kernel
theorem dX5_finishedCitiesAt_96 : decode cX5_finishedCitiesAt 96 = .ok (.iload_n 2, 1) := by decide +kernel
theorem dX5_finishedCitiesAt_97 : decode cX5_finishedCitiesAt 97 = .ok (.aload_n 0, 1) := by decide +kernel
theorem dX5_finishedCitiesAt_98 : decode cX5_finishedCitiesAt 98 = .ok (.iload_n 3, 1) := by decide +kernel
theorem dX5_finishedCitiesAt_99 : decode cX5_finishedCitiesAt 99 = .ok (.iload 5, 2) := by decide +kernel
theorem dX5_finishedCitiesAt_101 : decode cX5_finishedCitiesAt 101 = .ok (.invokevirtual 149, 3) := by decide +kernel
theorem dX5_finishedCitiesAt_104 : decode cX5_finishedCitiesAt 104 = .ok (.iadd, 1) := by decide +kernel
theorem dX5_finishedCitiesAt_105 : decode cX5_finishedCitiesAt 105 = .ok (.istore_n 2, 1) := by decide +kernel
theorem dX5_finishedCitiesAt_106 : decode cX5_finishedCitiesAt 106 = .ok (.iinc 4 1, 3) := by decide +kernel
theorem dX5_finishedCitiesAt_109 : decode cX5_finishedCitiesAt 109 = .ok (.goto (-65), 3) := by decide +kernel
theorem dX5_finishedCitiesAt_112 : decode cX5_finishedCitiesAt 112 = .ok (.iinc 3 1, 3) := by decide +kernel
theorem dX5_finishedCitiesAt_115 : decode cX5_finishedCitiesAt 115 = .ok (.goto (-101), 3) := by decide +kernel
theorem dX5_finishedCitiesAt_118 : decode cX5_finishedCitiesAt 118 = .ok (.iload_n 2, 1) := by decide +kernel
theorem dX5_finishedCitiesAt_119 : decode cX5_finishedCitiesAt 119 = .ok (.ireturn, 1) := by decide +kernel
theorem dX5_finalWorth_0 : decode cX5_finalWorth 0 = .ok (.aload_n 0, 1) := by decide +kernel
theorem dX5_finalWorth_1 : decode cX5_finalWorth 1 = .ok (.getfield 43, 3) := by decide +kernel
theorem dX5_finalWorth_4 : decode cX5_finalWorth 4 = .ok (.getfield 131, 3) := by decide +kernel
theorem dX5_finalWorth_7 : decode cX5_finalWorth 7 = .ok (.iload_n 1, 1) := by decide +kernel
theorem dX5_finalWorth_8 : decode cX5_finalWorth 8 = .ok (.iaload, 1) := by decide +kernel
theorem dX5_finalWorth_9 : decode cX5_finalWorth 9 = .ok (.invokestatic 134, 3) := by decide +kernel
theorem dX5_finalWorth_12 : decode cX5_finalWorth 12 = .ok (.istore_n 2, 1) := by decide +kernel
theorem dX5_finalWorth_13 : decode cX5_finalWorth 13 = .ok (.aload_n 0, 1) := by decide +kernel
theorem dX5_finalWorth_14 : decode cX5_finalWorth 14 = .ok (.iload_n 1, 1) := by decide +kernel
theorem dX5_finalWorth_15 : decode cX5_finalWorth 15 = .ok (.invokevirtual 122, 3) := by decide +kernel
theorem dX5_finalWorth_18 : decode cX5_finalWorth 18 = .ok (.tableswitch 61 1 4 #[30, 42, 61, 44], 30) := by decide +kernel
theorem dX5_finalWorth_48 : decode cX5_finalWorth 48 = .ok (.iload_n 2, 1) := by decide +kernel
theorem dX5_finalWorth_49 : decode cX5_finalWorth 49 = .ok (.aload_n 0, 1) := by decide +kernel
theorem dX5_finalWorth_50 : decode cX5_finalWorth 50 = .ok (.getfield 43, 3) := by decide +kernel
theorem dX5_finalWorth_53 : decode cX5_finalWorth 53 = .ok (.getfield 139, 3) := by decide +kernel
theorem dX5_finalWorth_56 : decode cX5_finalWorth 56 = .ok (.iload_n 1, 1) := by decide +kernel
theorem dX5_finalWorth_57 : decode cX5_finalWorth 57 = .ok (.iaload, 1) := by decide +kernel
theorem dX5_finalWorth_58 : decode cX5_finalWorth 58 = .ok (.iadd, 1) := by decide +kernel
theorem dX5_finalWorth_59 : decode cX5_finalWorth 59 = .ok (.ireturn, 1) := by decide +kernel
theorem dX5_finalWorth_60 : decode cX5_finalWorth 60 = .ok (.iload_n 2, 1) := by decide +kernel
theorem dX5_finalWorth_61 : decode cX5_finalWorth 61 = .ok (.ireturn, 1) := by decide +kernel
theorem dX5_finalWorth_62 : decode cX5_finalWorth 62 = .ok (.iconst 1, 1) := by decide +kernel
theorem dX5_finalWorth_63 : decode cX5_finalWorth 63 = .ok (.aload_n 0, 1) := by decide +kernel
theorem dX5_finalWorth_64 : decode cX5_finalWorth 64 = .ok (.getfield 18, 3) := by decide +kernel
theorem dX5_finalWorth_67 : decode cX5_finalWorth 67 = .ok (.aload_n 0, 1) := by decide +kernel
theorem dX5_finalWorth_68 : decode cX5_finalWorth 68 = .ok (.getfield 21, 3) := by decide +kernel
theorem dX5_finalWorth_71 : decode cX5_finalWorth 71 = .ok (.iload_n 1, 1) := by decide +kernel
theorem dX5_finalWorth_72 : decode cX5_finalWorth 72 = .ok (.bipush 8, 2) := by decide +kernel
theorem dX5_finalWorth_74 : decode cX5_finalWorth 74 = .ok (.idiv, 1) := by decide +kernel
theorem dX5_finalWorth_75 : decode cX5_finalWorth 75 = .ok (.iaload, 1) := by decide +kernel
theorem dX5_finalWorth_76 : decode cX5_finalWorth 76 = .ok (.iaload, 1) := by decide +kernel
theorem dX5_finalWorth_77 : decode cX5_finalWorth 77 = .ok (.iadd, 1) := by decide +kernel
theorem dX5_finalWorth_78 : decode cX5_finalWorth 78 = .ok (.ireturn, 1) := by decide +kernel
theorem dX5_finalWorth_79 : decode cX5_finalWorth 79 = .ok (.iconst 3, 1) := by decide +kernel
theorem dX5_finalWorth_80 : decode cX5_finalWorth 80 = .ok (.aload_n 0, 1) := by decide +kernel
theorem dX5_finalWorth_81 : decode cX5_finalWorth 81 = .ok (.iload_n 1, 1) := by decide +kernel
theorem dX5_finalWorth_82 : decode cX5_finalWorth 82 = .ok (.invokevirtual 140, 3) := by decide +kernel
theorem dX5_finalWorth_85 : decode cX5_finalWorth 85 = .ok (.imul, 1) := by decide +kernel
theorem dX5_finalWorth_86 : decode cX5_finalWorth 86 = .ok (.ireturn, 1) := by decide +kernel
theorem dX2_addFinals_0 : decode cX2_addFinals 0 = .ok (.iload_n 1, 1) := by decide +kernel
theorem dX2_addFinals_1 : decode cX2_addFinals 1 = .ok (.invokestatic 130, 3) := by decide +kernel
theorem dX2_addFinals_4 : decode cX2_addFinals 4 = .ok (.istore_n 3, 1) := by decide +kernel
theorem dX2_addFinals_5 : decode cX2_addFinals 5 = .ok (.iconst 0, 1) := by decide +kernel
theorem dX2_addFinals_6 : decode cX2_addFinals 6 = .ok (.istore 4, 2) := by decide +kernel
theorem dX2_addFinals_8 : decode cX2_addFinals 8 = .ok (.iload 4, 2) := by decide +kernel
theorem dX2_addFinals_10 : decode cX2_addFinals 10 = .ok (.aload_n 0, 1) := by decide +kernel
theorem dX2_addFinals_11 : decode cX2_addFinals 11 = .ok (.getfield 43, 3) := by decide +kernel
theorem dX2_addFinals_14 : decode cX2_addFinals 14 = .ok (.if_icmp .ge 30, 3) := by decide +kernel
theorem dX2_addFinals_17 : decode cX2_addFinals 17 = .ok (.iload_n 1, 1) := by decide +kernel
theorem dX2_addFinals_18 : decode cX2_addFinals 18 = .ok (.iload 4, 2) := by decide +kernel
theorem dX2_addFinals_20 : decode cX2_addFinals 20 = .ok (.invokestatic 133, 3) := by decide +kernel
theorem dX2_addFinals_23 : decode cX2_addFinals 23 = .ok (.iload_n 3, 1) := by decide +kernel
theorem dX2_addFinals_24 : decode cX2_addFinals 24 = .ok (.if_icmp .ne 14, 3) := by decide +kernel
theorem dX2_addFinals_27 : decode cX2_addFinals 27 = .ok (.aload_n 0, 1) := by decide +kernel
theorem dX2_addFinals_28 : decode cX2_addFinals 28 = .ok (.getfield 22, 3) := by decide +kernel
theorem dX2_addFinals_31 : decode cX2_addFinals 31 = .ok (.iload 4, 2) := by decide +kernel
theorem dX2_addFinals_33 : decode cX2_addFinals 33 = .ok (.dup2, 1) := by decide +kernel
theorem dX2_addFinals_34 : decode cX2_addFinals 34 = .ok (.iaload, 1) := by decide +kernel
theorem dX2_addFinals_35 : decode cX2_addFinals 35 = .ok (.iload_n 2, 1) := by decide +kernel
theorem dX2_addFinals_36 : decode cX2_addFinals 36 = .ok (.iadd, 1) := by decide +kernel
theorem dX2_addFinals_37 : decode cX2_addFinals 37 = .ok (.iastore, 1) := by decide +kernel
theorem dX2_addFinals_38 : decode cX2_addFinals 38 = .ok (.iinc 4 1, 3) := by decide +kernel
theorem dX2_addFinals_41 : decode cX2_addFinals 41 = .ok (.goto (-33), 3) := by decide +kernel
theorem dX2_addFinals_44 : decode cX2_addFinals 44 = .ok (.return_, 1) := by decide +kernel
theorem dX2_reckonFinals_0 : decode cX2_reckonFinals 0 = .ok (.iconst 0, 1) := by decide +kernel
theorem dX2_reckonFinals_1 : decode cX2_reckonFinals 1 = .ok (.istore_n 1, 1) := by decide +kernel
theorem dX2_reckonFinals_2 : decode cX2_reckonFinals 2 = .ok (.iload_n 1, 1) := by decide +kernel
theorem dX2_reckonFinals_3 : decode cX2_reckonFinals 3 = .ok (.aload_n 0, 1) := by decide +kernel
theorem dX2_reckonFinals_4 : decode cX2_reckonFinals 4 = .ok (.getfield 43, 3) := by decide +kernel
theorem dX2_reckonFinals_7 : decode cX2_reckonFinals 7 = .ok (.if_icmp .ge 21, 3) := by decide +kernel
theorem dX2_reckonFinals_10 : decode cX2_reckonFinals 10 = .ok (.aload_n 0, 1) := by decide +kernel
theorem dX2_reckonFinals_11 : decode cX2_reckonFinals 11 = .ok (.getfield 22, 3) := by decide +kernel
theorem dX2_reckonFinals_14 : decode cX2_reckonFinals 14 = .ok (.iload_n 1, 1) := by decide +kernel
theorem dX2_reckonFinals_15 : decode cX2_reckonFinals 15 = .ok (.aload_n 0, 1) := by decide +kernel
theorem dX2_reckonFinals_16 : decode cX2_reckonFinals 16 = .ok (.getfield 15, 3) := by decide +kernel
theorem dX2_reckonFinals_19 : decode cX2_reckonFinals 19 = .ok (.iload_n 1, 1) := by decide +kernel
theorem dX2_reckonFinals_20 : decode cX2_reckonFinals 20 = .ok (.iaload, 1) := by decide +kernel
theorem dX2_reckonFinals_21 : decode cX2_reckonFinals 21 = .ok (.iastore, 1) := by decide +kernel
theorem dX2_reckonFinals_22 : decode cX2_reckonFinals 22 = .ok (.iinc 1 1, 3) := by decide +kernel
theorem dX2_reckonFinals_25 : decode cX2_reckonFinals 25 = .ok (.goto (-23), 3) := by decide +kernel
theorem dX2_reckonFinals_28 : decode cX2_reckonFinals 28 = .ok (.iconst 0, 1) := by decide +kernel
theorem dX2_reckonFinals_29 : decode cX2_reckonFinals 29 = .ok (.istore_n 1, 1) := by decide +kernel
theorem dX2_reckonFinals_30 : decode cX2_reckonFinals 30 = .ok (.iload_n 1, 1) := by decide +kernel
theorem dX2_reckonFinals_31 : decode cX2_reckonFinals 31 = .ok (.aload_n 0, 1) := by decide +kernel
theorem dX2_reckonFinals_32 : decode cX2_reckonFinals 32 = .ok (.getfield 32, 3) := by decide +kernel
theorem dX2_reckonFinals_35 : decode cX2_reckonFinals 35 = .ok (.getfield 74, 3) := by decide +kernel
theorem dX2_reckonFinals_38 : decode cX2_reckonFinals 38 = .ok (.bipush 8, 2) := by decide +kernel
theorem dX2_reckonFinals_40 : decode cX2_reckonFinals 40 = .ok (.imul, 1) := by decide +kernel
theorem dX2_reckonFinals_41 : decode cX2_reckonFinals 41 = .ok (.if_icmp .ge 55, 3) := by decide +kernel
theorem dX2_reckonFinals_44 : decode cX2_reckonFinals 44 = .ok (.aload_n 0, 1) := by decide +kernel
theorem dX2_reckonFinals_45 : decode cX2_reckonFinals 45 = .ok (.getfield 32, 3) := by decide +kernel
theorem dX2_reckonFinals_48 : decode cX2_reckonFinals 48 = .ok (.getfield 87, 3) := by decide +kernel
theorem dX2_reckonFinals_51 : decode cX2_reckonFinals 51 = .ok (.getfield 91, 3) := by decide +kernel
theorem dX2_reckonFinals_54 : decode cX2_reckonFinals 54 = .ok (.iload_n 1, 1) := by decide +kernel
theorem dX2_reckonFinals_55 : decode cX2_reckonFinals 55 = .ok (.iaload, 1) := by decide +kernel
theorem dX2_reckonFinals_56 : decode cX2_reckonFinals 56 = .ok (.istore_n 2, 1) := by decide +kernel
theorem dX2_reckonFinals_57 : decode cX2_reckonFinals 57 = .ok (.iload_n 2, 1) := by decide +kernel
theorem dX2_reckonFinals_58 : decode cX2_reckonFinals 58 = .ok (.ifCond .eq 32, 3) := by decide +kernel
theorem dX2_reckonFinals_61 : decode cX2_reckonFinals 61 = .ok (.aload_n 0, 1) := by decide +kernel
theorem dX2_reckonFinals_62 : decode cX2_reckonFinals 62 = .ok (.getfield 32, 3) := by decide +kernel
theorem dX2_reckonFinals_65 : decode cX2_reckonFinals 65 = .ok (.getfield 87, 3) := by decide +kernel
theorem dX2_reckonFinals_68 : decode cX2_reckonFinals 68 = .ok (.getfield 164, 3) := by decide +kernel
theorem dX2_reckonFinals_71 : decode cX2_reckonFinals 71 = .ok (.iload_n 1, 1) := by decide +kernel
theorem dX2_reckonFinals_72 : decode cX2_reckonFinals 72 = .ok (.iaload, 1) := by decide +kernel
theorem dX2_reckonFinals_73 : decode cX2_reckonFinals 73 = .ok (.iload_n 1, 1) := by decide +kernel
theorem dX2_reckonFinals_74 : decode cX2_reckonFinals 74 = .ok (.if_icmp .ne 16, 3) := by decide +kernel
theorem dX2_reckonFinals_77 : decode cX2_reckonFinals 77 = .ok (.aload_n 0, 1) := by decide +kernel
theorem dX2_reckonFinals_78 : decode cX2_reckonFinals 78 = .ok (.iload_n 2, 1) := by decide +kernel
theorem dX2_reckonFinals_79 : decode cX2_reckonFinals 79 = .ok (.aload_n 0, 1) := by decide +kernel
theorem dX2_reckonFinals_80 : decode cX2_reckonFinals 80 = .ok (.getfield 32, 3) := by decide +kernel
theorem dX2_reckonFinals_83 : decode cX2_reckonFinals 83 = .ok (.iload_n 1, 1) := by decide +kernel
theorem dX2_reckonFinals_84 : decode cX2_reckonFinals 84 = .ok (.invokevirtual 167, 3) := by decide +kernel
theorem dX2_reckonFinals_87 : decode cX2_reckonFinals 87 = .ok (.invokevirtual 170, 3) := by decide +kernel
theorem dX2_reckonFinals_90 : decode cX2_reckonFinals 90 = .ok (.iinc 1 1, 3) := by decide +kernel
theorem dX2_reckonFinals_93 : decode cX2_reckonFinals 93 = .ok (.goto (-63), 3) := by decide +kernel
theorem dX2_reckonFinals_96 : decode cX2_reckonFinals 96 = .ok (.return_, 1) := by decide +kernel
theorem dX6_player_0 : decode cX6_player 0 = .ok (.aload_n 0, 1) := by decide +kernel
theorem dX6_player_1 : decode cX6_player 1 = .ok (.getfield 30, 3) := by decide +kernel
theorem dX6_player_4 : decode cX6_player 4 = .ok (.getfield 47, 3) := by decide +kernel
theorem dX6_player_7 : decode cX6_player 7 = .ok (.ifCond .eq 18, 3) := by decide +kernel
theorem dX6_player_10 : decode cX6_player 10 = .ok (.iload_n 1, 1) := by decide +kernel
theorem dX6_player_11 : decode cX6_player 11 = .ok (.ifCond .lt 14, 3) := by decide +kernel
theorem dX6_player_14 : decode cX6_player 14 = .ok (.iload_n 1, 1) := by decide +kernel
theorem dX6_player_15 : decode cX6_player 15 = .ok (.aload_n 0, 1) := by decide +kernel
theorem dX6_player_16 : decode cX6_player 16 = .ok (.getfield 30, 3) := by decide +kernel
theorem dX6_player_19 : decode cX6_player 19 = .ok (.getfield 171, 3) := by decide +kernel
theorem dX6_player_22 : decode cX6_player 22 = .ok (.if_icmp .lt 5, 3) := by decide +kernel
theorem dX6_player_25 : decode cX6_player 25 = .ok (.iconst (-1), 1) := by decide +kernel
theorem dX6_player_26 : decode cX6_player 26 = .ok (.ireturn, 1) := by decide +kernel
theorem dX6_player_27 : decode cX6_player 27 = .ok (.iload_n 2, 1) := by decide +kernel
theorem dX6_player_28 : decode cX6_player 28 = .ok (.tableswitch 65 0 2 #[28, 38, 48], 28) := by decide +kernel
theorem dX6_player_56 : decode cX6_player 56 = .ok (.aload_n 0, 1) := by decide +kernel
theorem dX6_player_57 : decode cX6_player 57 = .ok (.getfield 30, 3) := by decide +kernel
theorem dX6_player_60 : decode cX6_player 60 = .ok (.getfield 174, 3) := by decide +kernel
theorem dX6_player_63 : decode cX6_player 63 = .ok (.iload_n 1, 1) := by decide +kernel
theorem dX6_player_64 : decode cX6_player 64 = .ok (.iaload, 1) := by decide +kernel
theorem dX6_player_65 : decode cX6_player 65 = .ok (.ireturn, 1) := by decide +kernel
theorem dX6_player_66 : decode cX6_player 66 = .ok (.aload_n 0, 1) := by decide +kernel
theorem dX6_player_67 : decode cX6_player 67 = .ok (.getfield 30, 3) := by decide +kernel
theorem dX6_player_70 : decode cX6_player 70 = .ok (.getfield 177, 3) := by decide +kernel
theorem dX6_player_73 : decode cX6_player 73 = .ok (.iload_n 1, 1) := by decide +kernel
theorem dX6_player_74 : decode cX6_player 74 = .ok (.iaload, 1) := by decide +kernel
theorem dX6_player_75 : decode cX6_player 75 = .ok (.ireturn, 1) := by decide +kernel
theorem dX6_player_76 : decode cX6_player 76 = .ok (.aload_n 0, 1) := by decide +kernel
theorem dX6_player_77 : decode cX6_player 77 = .ok (.getfield 30, 3) := by decide +kernel
theorem dX6_player_80 : decode cX6_player 80 = .ok (.invokevirtual 180, 3) := by decide +kernel
theorem dX6_player_83 : decode cX6_player 83 = .ok (.aload_n 0, 1) := by decide +kernel
theorem dX6_player_84 : decode cX6_player 84 = .ok (.getfield 30, 3) := by decide +kernel
theorem dX6_player_87 : decode cX6_player 87 = .ok (.getfield 183, 3) := by decide +kernel
theorem dX6_player_90 : decode cX6_player 90 = .ok (.iload_n 1, 1) := by decide +kernel
theorem dX6_player_91 : decode cX6_player 91 = .ok (.iaload, 1) := by decide +kernel
theorem dX6_player_92 : decode cX6_player 92 = .ok (.ireturn, 1) := by decide +kernel
theorem dX6_player_93 : decode cX6_player 93 = .ok (.iconst (-1), 1) := by decide +kernel
theorem dX6_player_94 : decode cX6_player 94 = .ok (.ireturn, 1) := by decide +kernel
theorem dX4_makeNextLine_0 : decode cX4_makeNextLine 0 = .ok (.aload_n 1, 1) := by decide +kernel
theorem dX4_makeNextLine_1 : decode cX4_makeNextLine 1 = .ok (.getfield 88, 3) := by decide +kernel
theorem dX4_makeNextLine_4 : decode cX4_makeNextLine 4 = .ok (.ifCond .eq 61, 3) := by decide +kernel
theorem dX4_makeNextLine_7 : decode cX4_makeNextLine 7 = .ok (.aload_n 1, 1) := by decide +kernel
theorem dX4_makeNextLine_8 : decode cX4_makeNextLine 8 = .ok (.getfield 92, 3) := by decide +kernel
theorem dX4_makeNextLine_11 : decode cX4_makeNextLine 11 = .ok (.iconst 1, 1) := by decide +kernel
theorem dX4_makeNextLine_12 : decode cX4_makeNextLine 12 = .ok (.iadd, 1) := by decide +kernel
theorem dX4_makeNextLine_13 : decode cX4_makeNextLine 13 = .ok (.istore_n 2, 1) := by decide +kernel
theorem dX4_makeNextLine_14 : decode cX4_makeNextLine 14 = .ok (.iload_n 2, 1) := by decide +kernel
theorem dX4_makeNextLine_15 : decode cX4_makeNextLine 15 = .ok (.bipush 8, 2) := by decide +kernel
theorem dX4_makeNextLine_17 : decode cX4_makeNextLine 17 = .ok (.if_icmp .ge 36, 3) := by decide +kernel
theorem dX4_makeNextLine_20 : decode cX4_makeNextLine 20 = .ok (.aload_n 0, 1) := by decide +kernel
theorem dX4_makeNextLine_21 : decode cX4_makeNextLine 21 = .ok (.getfield 22, 3) := by decide +kernel
theorem dX4_makeNextLine_24 : decode cX4_makeNextLine 24 = .ok (.iload_n 2, 1) := by decide +kernel
theorem dX4_makeNextLine_25 : decode cX4_makeNextLine 25 = .ok (.invokevirtual 93, 3) := by decide +kernel
theorem dX4_makeNextLine_28 : decode cX4_makeNextLine 28 = .ok (.ifCond .eq 19, 3) := by decide +kernel
theorem dX4_makeNextLine_31 : decode cX4_makeNextLine 31 = .ok (.aload_n 1, 1) := by decide +kernel
theorem dX4_makeNextLine_32 : decode cX4_makeNextLine 32 = .ok (.iload_n 2, 1) := by decide +kernel
theorem dX4_makeNextLine_33 : decode cX4_makeNextLine 33 = .ok (.putfield 92, 3) := by decide +kernel
theorem dX4_makeNextLine_36 : decode cX4_makeNextLine 36 = .ok (.aload_n 0, 1) := by decide +kernel
theorem dX4_makeNextLine_37 : decode cX4_makeNextLine 37 = .ok (.getfield 22, 3) := by decide +kernel
theorem dX4_makeNextLine_40 : decode cX4_makeNextLine 40 = .ok (.iload_n 2, 1) := by decide +kernel
theorem dX4_makeNextLine_41 : decode cX4_makeNextLine 41 = .ok (.invokevirtual 97, 3) := by decide +kernel
theorem dX4_makeNextLine_44 : decode cX4_makeNextLine 44 = .ok (.pop, 1) := by decide +kernel
theorem dX4_makeNextLine_45 : decode cX4_makeNextLine 45 = .ok (.iconst 1, 1) := by decide +kernel
theorem dX4_makeNextLine_46 : decode cX4_makeNextLine 46 = .ok (.ireturn, 1) := by decide +kernel
theorem dX4_makeNextLine_47 : decode cX4_makeNextLine 47 = .ok (.iinc 2 1, 3) := by decide +kernel
theorem dX4_makeNextLine_50 : decode cX4_makeNextLine 50 = .ok (.goto (-36), 3) := by decide +kernel
theorem dX4_makeNextLine_53 : decode cX4_makeNextLine 53 = .ok (.aload_n 0, 1) := by decide +kernel
theorem dX4_makeNextLine_54 : decode cX4_makeNextLine 54 = .ok (.getfield 22, 3) := by decide +kernel
theorem dX4_makeNextLine_57 : decode cX4_makeNextLine 57 = .ok (.invokevirtual 54, 3) := by decide +kernel
theorem dX4_makeNextLine_60 : decode cX4_makeNextLine 60 = .ok (.aload_n 1, 1) := by decide +kernel
theorem dX4_makeNextLine_61 : decode cX4_makeNextLine 61 = .ok (.iconst 0, 1) := by decide +kernel
theorem dX4_makeNextLine_62 : decode cX4_makeNextLine 62 = .ok (.putfield 88, 3) := by decide +kernel
theorem dX4_makeNextLine_65 : decode cX4_makeNextLine 65 = .ok (.aload_n 1, 1) := by decide +kernel
theorem dX4_makeNextLine_66 : decode cX4_makeNextLine 66 = .ok (.aload_n 0, 1) := by decide +kernel
theorem dX4_makeNextLine_67 : decode cX4_makeNextLine 67 = .ok (.getfield 26, 3) := by decide +kernel
theorem dX4_makeNextLine_70 : decode cX4_makeNextLine 70 = .ok (.aload_n 0, 1) := by decide +kernel
theorem dX4_makeNextLine_71 : decode cX4_makeNextLine 71 = .ok (.getfield 22, 3) := by decide +kernel
theorem dX4_makeNextLine_74 : decode cX4_makeNextLine 74 = .ok (.getfield 70, 3) := by decide +kernel
theorem dX4_makeNextLine_77 : decode cX4_makeNextLine 77 = .ok (.aload_n 1, 1) := by decide +kernel
theorem dX4_makeNextLine_78 : decode cX4_makeNextLine 78 = .ok (.getfield 100, 3) := by decide +kernel
theorem dX4_makeNextLine_81 : decode cX4_makeNextLine 81 = .ok (.iconst 1, 1) := by decide +kernel
theorem dX4_makeNextLine_82 : decode cX4_makeNextLine 82 = .ok (.iadd, 1) := by decide +kernel
theorem dX4_makeNextLine_83 : decode cX4_makeNextLine 83 = .ok (.invokevirtual 101, 3) := by decide +kernel
theorem dX4_makeNextLine_86 : decode cX4_makeNextLine 86 = .ok (.putfield 100, 3) := by decide +kernel
theorem dX4_makeNextLine_89 : decode cX4_makeNextLine 89 = .ok (.aload_n 1, 1) := by decide +kernel
theorem dX4_makeNextLine_90 : decode cX4_makeNextLine 90 = .ok (.getfield 100, 3) := by decide +kernel
theorem dX4_makeNextLine_93 : decode cX4_makeNextLine 93 = .ok (.iconst (-1), 1) := by decide +kernel
theorem dX4_makeNextLine_94 : decode cX4_makeNextLine 94 = .ok (.if_icmp .ne 5, 3) := by decide +kernel
theorem dX4_makeNextLine_97 : decode cX4_makeNextLine 97 = .ok (.iconst 0, 1) := by decide +kernel
theorem dX4_makeNextLine_98 : decode cX4_makeNextLine 98 = .ok (.ireturn, 1) := by decide +kernel
theorem dX4_makeNextLine_99 : decode cX4_makeNextLine 99 = .ok (.aload_n 0, 1) := by decide +kernel
theorem dX4_makeNextLine_100 : decode cX4_makeNextLine 100 = .ok (.getfield 22, 3) := by decide +kernel
theorem dX4_makeNextLine_103 : decode cX4_makeNextLine 103 = .ok (.aload_n 1, 1) := by decide +kernel
theorem dX4_makeNextLine_104 : decode cX4_makeNextLine 104 = .ok (.getfield 100, 3) := by decide +kernel
theorem dX4_makeNextLine_107 : decode cX4_makeNextLine 107 = .ok (.invokevirtual 107, 3) := by decide +kernel
theorem dX4_makeNextLine_110 : decode cX4_makeNextLine 110 = .ok (.aload_n 0, 1) := by decide +kernel
theorem dX4_makeNextLine_111 : decode cX4_makeNextLine 111 = .ok (.getfield 22, 3) := by decide +kernel
theorem dX4_makeNextLine_114 : decode cX4_makeNextLine 114 = .ok (.iconst (-1), 1) := by decide +kernel
theorem dX4_makeNextLine_115 : decode cX4_makeNextLine 115 = .ok (.invokevirtual 97, 3) := by decide +kernel
theorem dX4_makeNextLine_118 : decode cX4_makeNextLine 118 = .ok (.pop, 1) := by decide +kernel
theorem dX4_makeNextLine_119 : decode cX4_makeNextLine 119 = .ok (.aload_n 1, 1) := by decide +kernel
theorem dX4_makeNextLine_120 : decode cX4_makeNextLine 120 = .ok (.iconst 1, 1) := by decide +kernel
theorem dX4_makeNextLine_121 : decode cX4_makeNextLine 121 = .ok (.putfield 88, 3) := by decide +kernel
theorem dX4_makeNextLine_124 : decode cX4_makeNextLine 124 = .ok (.aload_n 1, 1) := by decide +kernel
theorem dX4_makeNextLine_125 : decode cX4_makeNextLine 125 = .ok (.iconst (-1), 1) := by decide +kernel
theorem dX4_makeNextLine_126 : decode cX4_makeNextLine 126 = .ok (.putfield 92, 3) := by decide +kernel
theorem dX4_makeNextLine_129 : decode cX4_makeNextLine 129 = .ok (.iconst 1, 1) := by decide +kernel
theorem dX4_makeNextLine_130 : decode cX4_makeNextLine 130 = .ok (.ireturn, 1) := by decide +kernel
theorem dX1_weigh_0 : decode cX1_weigh 0 = .ok (.iconst 0, 1) := by decide +kernel
theorem dX1_weigh_1 : decode cX1_weigh 1 = .ok (.istore_n 3, 1) := by decide +kernel
theorem dX1_weigh_2 : decode cX1_weigh 2 = .ok (.iconst 0, 1) := by decide +kernel
theorem dX1_weigh_3 : decode cX1_weigh 3 = .ok (.istore 4, 2) := by decide +kernel
theorem dX1_weigh_5 : decode cX1_weigh 5 = .ok (.iload 4, 2) := by decide +kernel
theorem dX1_weigh_7 : decode cX1_weigh 7 = .ok (.iload_n 2, 1) := by decide +kernel
theorem dX1_weigh_8 : decode cX1_weigh 8 = .ok (.if_icmp .ge 27, 3) := by decide +kernel
theorem dX1_weigh_11 : decode cX1_weigh 11 = .ok (.iload 4, 2) := by decide +kernel
theorem dX1_weigh_13 : decode cX1_weigh 13 = .ok (.aload_n 0, 1) := by decide +kernel
theorem dX1_weigh_14 : decode cX1_weigh 14 = .ok (.getfield 15, 3) := by decide +kernel
theorem dX1_weigh_17 : decode cX1_weigh 17 = .ok (.if_icmp .eq 12, 3) := by decide +kernel
theorem dX1_weigh_20 : decode cX1_weigh 20 = .ok (.iload_n 3, 1) := by decide +kernel
theorem dX1_weigh_21 : decode cX1_weigh 21 = .ok (.aload_n 1, 1) := by decide +kernel
theorem dX1_weigh_22 : decode cX1_weigh 22 = .ok (.iload 4, 2) := by decide +kernel
theorem dX1_weigh_24 : decode cX1_weigh 24 = .ok (.iaload, 1) := by decide +kernel
theorem dX1_weigh_25 : decode cX1_weigh 25 = .ok (.invokestatic 29, 3) := by decide +kernel
theorem dX1_weigh_28 : decode cX1_weigh 28 = .ok (.istore_n 3, 1) := by decide +kernel
theorem dX1_weigh_29 : decode cX1_weigh 29 = .ok (.iinc 4 1, 3) := by decide +kernel
theorem dX1_weigh_32 : decode cX1_weigh 32 = .ok (.goto (-27), 3) := by decide +kernel
theorem dX1_weigh_35 : decode cX1_weigh 35 = .ok (.aload_n 1, 1) := by decide +kernel
theorem dX1_weigh_36 : decode cX1_weigh 36 = .ok (.aload_n 0, 1) := by decide +kernel
theorem dX1_weigh_37 : decode cX1_weigh 37 = .ok (.getfield 15, 3) := by decide +kernel
theorem dX1_weigh_40 : decode cX1_weigh 40 = .ok (.iaload, 1) := by decide +kernel
theorem dX1_weigh_41 : decode cX1_weigh 41 = .ok (.iload_n 3, 1) := by decide +kernel
theorem dX1_weigh_42 : decode cX1_weigh 42 = .ok (.isub, 1) := by decide +kernel
theorem dX1_weigh_43 : decode cX1_weigh 43 = .ok (.istore 4, 2) := by decide +kernel
theorem dX1_weigh_45 : decode cX1_weigh 45 = .ok (.aload_n 0, 1) := by decide +kernel
theorem dX1_weigh_46 : decode cX1_weigh 46 = .ok (.getfield 26, 3) := by decide +kernel
theorem dX1_weigh_49 : decode cX1_weigh 49 = .ok (.ifCond .eq 13, 3) := by decide +kernel
theorem dX1_weigh_52 : decode cX1_weigh 52 = .ok (.iload 4, 2) := by decide +kernel
theorem dX1_weigh_54 : decode cX1_weigh 54 = .ok (.aload_n 0, 1) := by decide +kernel
theorem dX1_weigh_55 : decode cX1_weigh 55 = .ok (.getfield 35, 3) := by decide +kernel
theorem dX1_weigh_58 : decode cX1_weigh 58 = .ok (.if_icmp .gt 4, 3) := by decide +kernel
theorem dX1_weigh_61 : decode cX1_weigh 61 = .ok (.return_, 1) := by decide +kernel
theorem dX1_weigh_62 : decode cX1_weigh 62 = .ok (.aload_n 0, 1) := by decide +kernel
theorem dX1_weigh_63 : decode cX1_weigh 63 = .ok (.iconst 1, 1) := by decide +kernel
theorem dX1_weigh_64 : decode cX1_weigh 64 = .ok (.putfield 26, 3) := by decide +kernel
theorem dX1_weigh_67 : decode cX1_weigh 67 = .ok (.aload_n 0, 1) := by decide +kernel
theorem dX1_weigh_68 : decode cX1_weigh 68 = .ok (.iload 4, 2) := by decide +kernel
theorem dX1_weigh_70 : decode cX1_weigh 70 = .ok (.putfield 35, 3) := by decide +kernel
theorem dX1_weigh_73 : decode cX1_weigh 73 = .ok (.aload_n 0, 1) := by decide +kernel
theorem dX1_weigh_74 : decode cX1_weigh 74 = .ok (.aload_n 0, 1) := by decide +kernel
theorem dX1_weigh_75 : decode cX1_weigh 75 = .ok (.getfield 19, 3) := by decide +kernel
theorem dX1_weigh_78 : decode cX1_weigh 78 = .ok (.putfield 38, 3) := by decide +kernel
theorem dX1_weigh_81 : decode cX1_weigh 81 = .ok (.aload_n 0, 1) := by decide +kernel
theorem dX1_weigh_82 : decode cX1_weigh 82 = .ok (.aload_n 0, 1) := by decide +kernel
theorem dX1_weigh_83 : decode cX1_weigh 83 = .ok (.getfield 41, 3) := by decide +kernel
theorem dX1_weigh_86 : decode cX1_weigh 86 = .ok (.putfield 44, 3) := by decide +kernel
theorem dX1_weigh_89 : decode cX1_weigh 89 = .ok (.aload_n 1, 1) := by decide +kernel
theorem dX1_weigh_90 : decode cX1_weigh 90 = .ok (.iconst 0, 1) := by decide +kernel
theorem dX1_weigh_91 : decode cX1_weigh 91 = .ok (.aload_n 0, 1) := by decide +kernel
theorem dX1_weigh_92 : decode cX1_weigh 92 = .ok (.getfield 9, 3) := by decide +kernel
theorem dX1_weigh_95 : decode cX1_weigh 95 = .ok (.iconst 0, 1) := by decide +kernel
theorem dX1_weigh_96 : decode cX1_weigh 96 = .ok (.iconst 3, 1) := by decide +kernel
theorem dX1_weigh_97 : decode cX1_weigh 97 = .ok (.invokestatic 47, 3) := by decide +kernel
theorem dX1_weigh_100 : decode cX1_weigh 100 = .ok (.return_, 1) := by decide +kernel
theorem dX4_endLine_0 : decode cX4_endLine 0 = .ok (.iload_n 1, 1) := by decide +kernel
theorem dX4_endLine_1 : decode cX4_endLine 1 = .ok (.ifCond .lt 37, 3) := by decide +kernel
theorem dX4_endLine_4 : decode cX4_endLine 4 = .ok (.aload_n 0, 1) := by decide +kernel
theorem dX4_endLine_5 : decode cX4_endLine 5 = .ok (.getfield 12, 3) := by decide +kernel
theorem dX4_endLine_8 : decode cX4_endLine 8 = .ok (.iload_n 1, 1) := by decide +kernel
theorem dX4_endLine_9 : decode cX4_endLine 9 = .ok (.aaload, 1) := by decide +kernel
theorem dX4_endLine_10 : decode cX4_endLine 10 = .ok (.aload_n 0, 1) := by decide +kernel
theorem dX4_endLine_11 : decode cX4_endLine 11 = .ok (.getfield 12, 3) := by decide +kernel
theorem dX4_endLine_14 : decode cX4_endLine 14 = .ok (.iload_n 1, 1) := by decide +kernel
theorem dX4_endLine_15 : decode cX4_endLine 15 = .ok (.iconst 1, 1) := by decide +kernel
theorem dX4_endLine_16 : decode cX4_endLine 16 = .ok (.iadd, 1) := by decide +kernel
theorem dX4_endLine_17 : decode cX4_endLine 17 = .ok (.aaload, 1) := by decide +kernel
theorem dX4_endLine_18 : decode cX4_endLine 18 = .ok (.getfield 87, 3) := by decide +kernel
theorem dX4_endLine_21 : decode cX4_endLine 21 = .ok (.aload_n 0, 1) := by decide +kernel
theorem dX4_endLine_22 : decode cX4_endLine 22 = .ok (.getfield 22, 3) := by decide +kernel
theorem dX4_endLine_25 : decode cX4_endLine 25 = .ok (.getfield 80, 3) := by decide +kernel
theorem dX4_endLine_28 : decode cX4_endLine 28 = .ok (.invokevirtual 83, 3) := by decide +kernel
theorem dX4_endLine_31 : decode cX4_endLine 31 = .ok (.aload_n 0, 1) := by decide +kernel
theorem dX4_endLine_32 : decode cX4_endLine 32 = .ok (.getfield 22, 3) := by decide +kernel
theorem dX4_endLine_35 : decode cX4_endLine 35 = .ok (.invokevirtual 54, 3) := by decide +kernel
theorem dX4_endLine_38 : decode cX4_endLine 38 = .ok (.return_, 1) := by decide +kernel
theorem dX1_begin_0 : decode cX1_begin 0 = .ok (.aload_n 0, 1) := by decide +kernel
theorem dX1_begin_1 : decode cX1_begin 1 = .ok (.iload_n 1, 1) := by decide +kernel
theorem dX1_begin_2 : decode cX1_begin 2 = .ok (.putfield 15, 3) := by decide +kernel
theorem dX1_begin_5 : decode cX1_begin 5 = .ok (.aload_n 0, 1) := by decide +kernel
theorem dX1_begin_6 : decode cX1_begin 6 = .ok (.iconst (-1), 1) := by decide +kernel
theorem dX1_begin_7 : decode cX1_begin 7 = .ok (.putfield 19, 3) := by decide +kernel
theorem dX1_begin_10 : decode cX1_begin 10 = .ok (.aload_n 0, 1) := by decide +kernel
theorem dX1_begin_11 : decode cX1_begin 11 = .ok (.iconst 0, 1) := by decide +kernel
theorem dX1_begin_12 : decode cX1_begin 12 = .ok (.putfield 22, 3) := by decide +kernel
theorem dX1_begin_15 : decode cX1_begin 15 = .ok (.aload_n 0, 1) := by decide +kernel
theorem dX1_begin_16 : decode cX1_begin 16 = .ok (.iconst 0, 1) := by decide +kernel
theorem dX1_begin_17 : decode cX1_begin 17 = .ok (.putfield 26, 3) := by decide +kernel
theorem dX1_begin_20 : decode cX1_begin 20 = .ok (.return_, 1) := by decide +kernel
theorem dX4_lookBehindLine_0 : decode cX4_lookBehindLine 0 = .ok (.aload_n 0, 1) := by decide +kernel
theorem dX4_lookBehindLine_1 : decode cX4_lookBehindLine 1 = .ok (.getfield 22, 3) := by decide +kernel
theorem dX4_lookBehindLine_4 : decode cX4_lookBehindLine 4 = .ok (.getfield 70, 3) := by decide +kernel
theorem dX4_lookBehindLine_7 : decode cX4_lookBehindLine 7 = .ok (.iconst (-1), 1) := by decide +kernel
theorem dX4_lookBehindLine_8 : decode cX4_lookBehindLine 8 = .ok (.if_icmp .eq 36, 3) := by decide +kernel
theorem dX4_lookBehindLine_11 : decode cX4_lookBehindLine 11 = .ok (.iload_n 1, 1) := by decide +kernel
theorem dX4_lookBehindLine_12 : decode cX4_lookBehindLine 12 = .ok (.iconst 1, 1) := by decide +kernel
theorem dX4_lookBehindLine_13 : decode cX4_lookBehindLine 13 = .ok (.iadd, 1) := by decide +kernel
theorem dX4_lookBehindLine_14 : decode cX4_lookBehindLine 14 = .ok (.aload_n 0, 1) := by decide +kernel
theorem dX4_lookBehindLine_15 : decode cX4_lookBehindLine 15 = .ok (.getfield 12, 3) := by decide +kernel
theorem dX4_lookBehindLine_18 : decode cX4_lookBehindLine 18 = .ok (.arraylength, 1) := by decide +kernel
theorem dX4_lookBehindLine_19 : decode cX4_lookBehindLine 19 = .ok (.if_icmp .ge 25, 3) := by decide +kernel
theorem dX4_lookBehindLine_22 : decode cX4_lookBehindLine 22 = .ok (.aload_n 0, 1) := by decide +kernel
theorem dX4_lookBehindLine_23 : decode cX4_lookBehindLine 23 = .ok (.getfield 12, 3) := by decide +kernel
theorem dX4_lookBehindLine_26 : decode cX4_lookBehindLine 26 = .ok (.iload_n 1, 1) := by decide +kernel
theorem dX4_lookBehindLine_27 : decode cX4_lookBehindLine 27 = .ok (.iconst 1, 1) := by decide +kernel
theorem dX4_lookBehindLine_28 : decode cX4_lookBehindLine 28 = .ok (.iadd, 1) := by decide +kernel
theorem dX4_lookBehindLine_29 : decode cX4_lookBehindLine 29 = .ok (.aaload, 1) := by decide +kernel
theorem dX4_lookBehindLine_30 : decode cX4_lookBehindLine 30 = .ok (.aload_n 0, 1) := by decide +kernel
theorem dX4_lookBehindLine_31 : decode cX4_lookBehindLine 31 = .ok (.getfield 22, 3) := by decide +kernel
theorem dX4_lookBehindLine_34 : decode cX4_lookBehindLine 34 = .ok (.getfield 36, 3) := by decide +kernel
theorem dX4_lookBehindLine_37 : decode cX4_lookBehindLine 37 = .ok (.invokevirtual 39, 3) := by decide +kernel
theorem dX4_lookBehindLine_40 : decode cX4_lookBehindLine 40 = .ok (.iload_n 1, 1) := by decide +kernel
theorem dX4_lookBehindLine_41 : decode cX4_lookBehindLine 41 = .ok (.iconst 1, 1) := by decide +kernel
theorem dX4_lookBehindLine_42 : decode cX4_lookBehindLine 42 = .ok (.iadd, 1) := by decide +kernel
theorem dX4_lookBehindLine_43 : decode cX4_lookBehindLine 43 = .ok (.ireturn, 1) := by decide +kernel
theorem dX4_lookBehindLine_44 : decode cX4_lookBehindLine 44 = .ok (.aload_n 0, 1) := by decide +kernel
theorem dX4_lookBehindLine_45 : decode cX4_lookBehindLine 45 = .ok (.getfield 22, 3) := by decide +kernel
theorem dX4_lookBehindLine_48 : decode cX4_lookBehindLine 48 = .ok (.invokevirtual 73, 3) := by decide +kernel
theorem dX4_lookBehindLine_51 : decode cX4_lookBehindLine 51 = .ok (.aload_n 0, 1) := by decide +kernel
theorem dX4_lookBehindLine_52 : decode cX4_lookBehindLine 52 = .ok (.getfield 12, 3) := by decide +kernel
theorem dX4_lookBehindLine_55 : decode cX4_lookBehindLine 55 = .ok (.iload_n 1, 1) := by decide +kernel
theorem dX4_lookBehindLine_56 : decode cX4_lookBehindLine 56 = .ok (.aaload, 1) := by decide +kernel
theorem dX4_lookBehindLine_57 : decode cX4_lookBehindLine 57 = .ok (.aload_n 0, 1) := by decide +kernel
theorem dX4_lookBehindLine_58 : decode cX4_lookBehindLine 58 = .ok (.getfield 22, 3) := by decide +kernel
theorem dX4_lookBehindLine_61 : decode cX4_lookBehindLine 61 = .ok (.getfield 76, 3) := by decide +kernel
theorem dX4_lookBehindLine_64 : decode cX4_lookBehindLine 64 = .ok (.aload_n 0, 1) := by decide +kernel
theorem dX4_lookBehindLine_65 : decode cX4_lookBehindLine 65 = .ok (.getfield 22, 3) := by decide +kernel
theorem dX4_lookBehindLine_68 : decode cX4_lookBehindLine 68 = .ok (.getfield 80, 3) := by decide +kernel
theorem dX4_lookBehindLine_71 : decode cX4_lookBehindLine 71 = .ok (.invokevirtual 83, 3) := by decide +kernel
theorem dX4_lookBehindLine_74 : decode cX4_lookBehindLine 74 = .ok (.aload_n 0, 1) := by decide +kernel
theorem dX4_lookBehindLine_75 : decode cX4_lookBehindLine 75 = .ok (.getfield 22, 3) := by decide +kernel
theorem dX4_lookBehindLine_78 : decode cX4_lookBehindLine 78 = .ok (.invokevirtual 54, 3) := by decide +kernel
theorem dX4_lookBehindLine_81 : decode cX4_lookBehindLine 81 = .ok (.iload_n 1, 1) := by decide +kernel
theorem dX4_lookBehindLine_82 : decode cX4_lookBehindLine 82 = .ok (.ireturn, 1) := by decide +kernel
theorem dX4_seek_0 : decode cX4_seek 0 = .ok (.aload_n 0, 1) := by decide +kernel
theorem dX4_seek_1 : decode cX4_seek 1 = .ok (.getfield 22, 3) := by decide +kernel
theorem dX4_seek_4 : decode cX4_seek 4 = .ok (.invokevirtual 30, 3) := by decide +kernel
theorem dX4_seek_7 : decode cX4_seek 7 = .ok (.istore_n 2, 1) := by decide +kernel
theorem dX4_seek_8 : decode cX4_seek 8 = .ok (.iconst 0, 1) := by decide +kernel
theorem dX4_seek_9 : decode cX4_seek 9 = .ok (.istore_n 3, 1) := by decide +kernel
theorem dX4_seek_10 : decode cX4_seek 10 = .ok (.iconst 0, 1) := by decide +kernel
theorem dX4_seek_11 : decode cX4_seek 11 = .ok (.istore 4, 2) := by decide +kernel
theorem dX4_seek_13 : decode cX4_seek 13 = .ok (.aload_n 0, 1) := by decide +kernel
theorem dX4_seek_14 : decode cX4_seek 14 = .ok (.getfield 12, 3) := by decide +kernel
theorem dX4_seek_17 : decode cX4_seek 17 = .ok (.iconst 0, 1) := by decide +kernel
theorem dX4_seek_18 : decode cX4_seek 18 = .ok (.aaload, 1) := by decide +kernel
theorem dX4_seek_19 : decode cX4_seek 19 = .ok (.aload_n 0, 1) := by decide +kernel
theorem dX4_seek_20 : decode cX4_seek 20 = .ok (.getfield 22, 3) := by decide +kernel
theorem dX4_seek_23 : decode cX4_seek 23 = .ok (.getfield 36, 3) := by decide +kernel
theorem dX4_seek_26 : decode cX4_seek 26 = .ok (.invokevirtual 39, 3) := by decide +kernel
theorem dX4_seek_29 : decode cX4_seek 29 = .ok (.iconst 0, 1) := by decide +kernel
theorem dX4_seek_30 : decode cX4_seek 30 = .ok (.istore 5, 2) := by decide +kernel
theorem dX4_seek_32 : decode cX4_seek 32 = .ok (.iload 5, 2) := by decide +kernel
theorem dX4_seek_34 : decode cX4_seek 34 = .ok (.sipush 3004, 3) := by decide +kernel
theorem dX4_seek_37 : decode cX4_seek 37 = .ok (.if_icmp .ge 56, 3) := by decide +kernel
theorem dX4_seek_40 : decode cX4_seek 40 = .ok (.iload 4, 2) := by decide +kernel
theorem dX4_seek_42 : decode cX4_seek 42 = .ok (.ifCond .lt 51, 3) := by decide +kernel
theorem dX4_seek_45 : decode cX4_seek 45 = .ok (.iload_n 3, 1) := by decide +kernel
theorem dX4_seek_46 : decode cX4_seek 46 = .ok (.iload_n 1, 1) := by decide +kernel
theorem dX4_seek_47 : decode cX4_seek 47 = .ok (.if_icmp .gt 46, 3) := by decide +kernel
theorem dX4_seek_50 : decode cX4_seek 50 = .ok (.aload_n 0, 1) := by decide +kernel
theorem dX4_seek_51 : decode cX4_seek 51 = .ok (.aload_n 0, 1) := by decide +kernel
theorem dX4_seek_52 : decode cX4_seek 52 = .ok (.getfield 12, 3) := by decide +kernel
theorem dX4_seek_55 : decode cX4_seek 55 = .ok (.iload 4, 2) := by decide +kernel
theorem dX4_seek_57 : decode cX4_seek 57 = .ok (.aaload, 1) := by decide +kernel
theorem dX4_seek_58 : decode cX4_seek 58 = .ok (.invokevirtual 43, 3) := by decide +kernel
theorem dX4_seek_61 : decode cX4_seek 61 = .ok (.ifCond .eq 17, 3) := by decide +kernel
theorem dX4_seek_64 : decode cX4_seek 64 = .ok (.iinc 3 1, 3) := by decide +kernel
theorem dX4_seek_67 : decode cX4_seek 67 = .ok (.aload_n 0, 1) := by decide +kernel
theorem dX4_seek_68 : decode cX4_seek 68 = .ok (.iload 4, 2) := by decide +kernel
theorem dX4_seek_70 : decode cX4_seek 70 = .ok (.invokevirtual 47, 3) := by decide +kernel
theorem dX4_seek_73 : decode cX4_seek 73 = .ok (.istore 4, 2) := by decide +kernel
theorem dX4_seek_75 : decode cX4_seek 75 = .ok (.goto 12, 3) := by decide +kernel
theorem dX4_seek_78 : decode cX4_seek 78 = .ok (.iinc 4 (-1), 3) := by decide +kernel
theorem dX4_seek_81 : decode cX4_seek 81 = .ok (.aload_n 0, 1) := by decide +kernel
theorem dX4_seek_82 : decode cX4_seek 82 = .ok (.iload 4, 2) := by decide +kernel
theorem dX4_seek_84 : decode cX4_seek 84 = .ok (.invokevirtual 51, 3) := by decide +kernel
theorem dX4_seek_87 : decode cX4_seek 87 = .ok (.iinc 5 1, 3) := by decide +kernel
theorem dX4_seek_90 : decode cX4_seek 90 = .ok (.goto (-58), 3) := by decide +kernel
theorem dX4_seek_93 : decode cX4_seek 93 = .ok (.aload_n 0, 1) := by decide +kernel
theorem dX4_seek_94 : decode cX4_seek 94 = .ok (.getfield 22, 3) := by decide +kernel
theorem dX4_seek_97 : decode cX4_seek 97 = .ok (.invokevirtual 30, 3) := by decide +kernel
theorem dX4_seek_100 : decode cX4_seek 100 = .ok (.istore 5, 2) := by decide +kernel
theorem dX4_seek_102 : decode cX4_seek 102 = .ok (.iload 5, 2) := by decide +kernel
theorem dX4_seek_104 : decode cX4_seek 104 = .ok (.iload_n 2, 1) := by decide +kernel
theorem dX4_seek_105 : decode cX4_seek 105 = .ok (.if_icmp .le 16, 3) := by decide +kernel
theorem dX4_seek_108 : decode cX4_seek 108 = .ok (.aload_n 0, 1) := by decide +kernel
theorem dX4_seek_109 : decode cX4_seek 109 = .ok (.getfield 22, 3) := by decide +kernel
theorem dX4_seek_112 : decode cX4_seek 112 = .ok (.invokevirtual 54, 3) := by decide +kernel
theorem dX4_seek_115 : decode cX4_seek 115 = .ok (.iinc 5 (-1), 3) := by decide +kernel
theorem dX4_seek_118 : decode cX4_seek 118 = .ok (.goto (-16), 3) := by decide +kernel
theorem dX4_seek_121 : decode cX4_seek 121 = .ok (.iload_n 3, 1) := by decide +kernel
theorem dX4_seek_122 : decode cX4_seek 122 = .ok (.iload_n 1, 1) := by decide +kernel
theorem dX4_seek_123 : decode cX4_seek 123 = .ok (.if_icmp .le 5, 3) := by decide +kernel
theorem dX4_seek_126 : decode cX4_seek 126 = .ok (.iconst 0, 1) := by decide +kernel
theorem dX4_seek_127 : decode cX4_seek 127 = .ok (.ireturn, 1) := by decide +kernel
theorem dX4_seek_128 : decode cX4_seek 128 = .ok (.aload_n 0, 1) := by decide +kernel
theorem dX4_seek_129 : decode cX4_seek 129 = .ok (.aload_n 0, 1) := by decide +kernel
theorem dX4_seek_130 : decode cX4_seek 130 = .ok (.getfield 12, 3) := by decide +kernel
theorem dX4_seek_133 : decode cX4_seek 133 = .ok (.iconst 0, 1) := by decide +kernel
theorem dX4_seek_134 : decode cX4_seek 134 = .ok (.aaload, 1) := by decide +kernel
theorem dX4_seek_135 : decode cX4_seek 135 = .ok (.getfield 57, 3) := by decide +kernel
theorem dX4_seek_138 : decode cX4_seek 138 = .ok (.putfield 18, 3) := by decide +kernel
theorem dX4_seek_141 : decode cX4_seek 141 = .ok (.aload_n 0, 1) := by decide +kernel
theorem dX4_seek_142 : decode cX4_seek 142 = .ok (.aload_n 0, 1) := by decide +kernel
theorem dX4_seek_143 : decode cX4_seek 143 = .ok (.getfield 12, 3) := by decide +kernel
theorem dX4_seek_146 : decode cX4_seek 146 = .ok (.iconst 0, 1) := by decide +kernel
theorem dX4_seek_147 : decode cX4_seek 147 = .ok (.aaload, 1) := by decide +kernel
theorem dX4_seek_148 : decode cX4_seek 148 = .ok (.getfield 60, 3) := by decide +kernel
theorem dX4_seek_151 : decode cX4_seek 151 = .ok (.putfield 63, 3) := by decide +kernel
theorem dX4_seek_154 : decode cX4_seek 154 = .ok (.aload_n 0, 1) := by decide +kernel
theorem dX4_seek_155 : decode cX4_seek 155 = .ok (.aload_n 0, 1) := by decide +kernel
theorem dX4_seek_156 : decode cX4_seek 156 = .ok (.getfield 12, 3) := by decide +kernel
theorem dX4_seek_159 : decode cX4_seek 159 = .ok (.iconst 0, 1) := by decide +kernel
theorem dX4_seek_160 : decode cX4_seek 160 = .ok (.aaload, 1) := by decide +kernel
theorem dX4_seek_161 : decode cX4_seek 161 = .ok (.getfield 66, 3) := by decide +kernel
theorem dX4_seek_164 : decode cX4_seek 164 = .ok (.putfield 69, 3) := by decide +kernel
theorem dX4_seek_167 : decode cX4_seek 167 = .ok (.iconst 1, 1) := by decide +kernel
theorem dX4_seek_168 : decode cX4_seek 168 = .ok (.ireturn, 1) := by decide +kernel
theorem dX6_search_0 : decode cX6_search 0 = .ok (.aload_n 0, 1) := by decide +kernel
theorem dX6_search_1 : decode cX6_search 1 = .ok (.getfield 30, 3) := by decide +kernel
theorem dX6_search_4 : decode cX6_search 4 = .ok (.getfield 77, 3) := by decide +kernel
theorem dX6_search_7 : decode cX6_search 7 = .ok (.iconst (-1), 1) := by decide +kernel
theorem dX6_search_8 : decode cX6_search 8 = .ok (.if_icmp .eq 22, 3) := by decide +kernel
theorem dX6_search_11 : decode cX6_search 11 = .ok (.aload_n 0, 1) := by decide +kernel
theorem dX6_search_12 : decode cX6_search 12 = .ok (.getfield 12, 3) := by decide +kernel
theorem dX6_search_15 : decode cX6_search 15 = .ok (.getfield 59, 3) := by decide +kernel
theorem dX6_search_18 : decode cX6_search 18 = .ok (.aload_n 0, 1) := by decide +kernel
theorem dX6_search_19 : decode cX6_search 19 = .ok (.getfield 30, 3) := by decide +kernel
theorem dX6_search_22 : decode cX6_search 22 = .ok (.getfield 96, 3) := by decide +kernel
theorem dX6_search_25 : decode cX6_search 25 = .ok (.isub, 1) := by decide +kernel
theorem dX6_search_26 : decode cX6_search 26 = .ok (.iconst 1, 1) := by decide +kernel
theorem dX6_search_27 : decode cX6_search 27 = .ok (.if_icmp .le 5, 3) := by decide +kernel
theorem dX6_search_30 : decode cX6_search 30 = .ok (.iconst (-1), 1) := by decide +kernel
theorem dX6_search_31 : decode cX6_search 31 = .ok (.ireturn, 1) := by decide +kernel
theorem dX6_search_32 : decode cX6_search 32 = .ok (.iload_n 1, 1) := by decide +kernel
theorem dX6_search_33 : decode cX6_search 33 = .ok (.iconst 1, 1) := by decide +kernel
theorem dX6_search_34 : decode cX6_search 34 = .ok (.if_icmp .lt 10, 3) := by decide +kernel
theorem dX6_search_37 : decode cX6_search 37 = .ok (.iload_n 1, 1) := by decide +kernel
theorem dX6_search_38 : decode cX6_search 38 = .ok (.sipush 1500, 3) := by decide +kernel
theorem dX6_search_41 : decode cX6_search 41 = .ok (.if_icmp .le 6, 3) := by decide +kernel
theorem dX6_search_44 : decode cX6_search 44 = .ok (.bipush (-2), 2) := by decide +kernel
theorem dX6_search_46 : decode cX6_search 46 = .ok (.ireturn, 1) := by decide +kernel
theorem dX6_search_47 : decode cX6_search 47 = .ok (.aload_n 0, 1) := by decide +kernel
theorem dX6_search_48 : decode cX6_search 48 = .ok (.getfield 39, 3) := by decide +kernel
theorem dX6_search_51 : decode cX6_search 51 = .ok (.iload_n 1, 1) := by decide +kernel
theorem dX6_search_52 : decode cX6_search 52 = .ok (.invokevirtual 186, 3) := by decide +kernel
theorem dX6_search_55 : decode cX6_search 55 = .ok (.ifCond .eq 17, 3) := by decide +kernel
theorem dX6_search_58 : decode cX6_search 58 = .ok (.sipush 1000, 3) := by decide +kernel
theorem dX6_search_61 : decode cX6_search 61 = .ok (.aload_n 0, 1) := by decide +kernel
theorem dX6_search_62 : decode cX6_search 62 = .ok (.getfield 39, 3) := by decide +kernel
theorem dX6_search_65 : decode cX6_search 65 = .ok (.getfield 189, 3) := by decide +kernel
theorem dX6_search_68 : decode cX6_search 68 = .ok (.iadd, 1) := by decide +kernel
theorem dX6_search_69 : decode cX6_search 69 = .ok (.goto 5, 3) := by decide +kernel
theorem dX6_search_72 : decode cX6_search 72 = .ok (.bipush (-4), 2) := by decide +kernel
theorem dX6_search_74 : decode cX6_search 74 = .ok (.ireturn, 1) := by decide +kernel
theorem dX6_best_0 : decode cX6_best 0 = .ok (.iload_n 1, 1) := by decide +kernel
theorem dX6_best_1 : decode cX6_best 1 = .ok (.iconst 3, 1) := by decide +kernel
theorem dX6_best_2 : decode cX6_best 2 = .ok (.if_icmp .ne 27, 3) := by decide +kernel
theorem dX6_best_5 : decode cX6_best 5 = .ok (.aload_n 0, 1) := by decide +kernel
theorem dX6_best_6 : decode cX6_best 6 = .ok (.getfield 39, 3) := by decide +kernel
theorem dX6_best_9 : decode cX6_best 9 = .ok (.getfield 192, 3) := by decide +kernel
theorem dX6_best_12 : decode cX6_best 12 = .ok (.iconst (-1), 1) := by decide +kernel
theorem dX6_best_13 : decode cX6_best 13 = .ok (.if_icmp .ne 8, 3) := by decide +kernel
theorem dX6_best_16 : decode cX6_best 16 = .ok (.bipush (-100), 2) := by decide +kernel
theorem dX6_best_18 : decode cX6_best 18 = .ok (.goto 10, 3) := by decide +kernel
theorem dX6_best_21 : decode cX6_best 21 = .ok (.aload_n 0, 1) := by decide +kernel
theorem dX6_best_22 : decode cX6_best 22 = .ok (.getfield 39, 3) := by decide +kernel
theorem dX6_best_25 : decode cX6_best 25 = .ok (.getfield 195, 3) := by decide +kernel
theorem dX6_best_28 : decode cX6_best 28 = .ok (.ireturn, 1) := by decide +kernel
theorem dX6_best_29 : decode cX6_best 29 = .ok (.aload_n 0, 1) := by decide +kernel
theorem dX6_best_30 : decode cX6_best 30 = .ok (.getfield 39, 3) := by decide +kernel
theorem dX6_best_33 : decode cX6_best 33 = .ok (.getfield 192, 3) := by decide +kernel
theorem dX6_best_36 : decode cX6_best 36 = .ok (.iload_n 1, 1) := by decide +kernel
theorem dX6_best_37 : decode cX6_best 37 = .ok (.invokestatic 103, 3) := by decide +kernel
theorem dX6_best_40 : decode cX6_best 40 = .ok (.ireturn, 1) := by decide +kernel
theorem dX7_partIn_0 : decode cX7_partIn 0 = .ok (.lload_n 0, 1) := by decide +kernel
theorem dX7_partIn_1 : decode cX7_partIn 1 = .ok (.iconst 4, 1) := by decide +kernel
theorem dX7_partIn_2 : decode cX7_partIn 2 = .ok (.iload_n 2, 1) := by decide +kernel
theorem dX7_partIn_3 : decode cX7_partIn 3 = .ok (.imul, 1) := by decide +kernel
theorem dX7_partIn_4 : decode cX7_partIn 4 = .ok (.lshr, 1) := by decide +kernel
theorem dX7_partIn_5 : decode cX7_partIn 5 = .ok (.ldc2_w 77, 3) := by decide +kernel
theorem dX7_partIn_8 : decode cX7_partIn 8 = .ok (.land, 1) := by decide +kernel
theorem dX7_partIn_9 : decode cX7_partIn 9 = .ok (.l2i, 1) := by decide +kernel
theorem dX7_partIn_10 : decode cX7_partIn 10 = .ok (.ireturn, 1) := by decide +kernel
theorem dX7_kindIn_0 : decode cX7_kindIn 0 = .ok (.lload_n 0, 1) := by decide +kernel
theorem dX7_kindIn_1 : decode cX7_kindIn 1 = .ok (.bipush 8, 2) := by decide +kernel
theorem dX7_kindIn_3 : decode cX7_kindIn 3 = .ok (.iload_n 2, 1) := by decide +kernel
theorem dX7_kindIn_4 : decode cX7_kindIn 4 = .ok (.imul, 1) := by decide +kernel
theorem dX7_kindIn_5 : decode cX7_kindIn 5 = .ok (.lshr, 1) := by decide +kernel
theorem dX7_kindIn_6 : decode cX7_kindIn 6 = .ok (.ldc2_w 75, 3) := by decide +kernel
theorem dX7_kindIn_9 : decode cX7_kindIn 9 = .ok (.land, 1) := by decide +kernel
theorem dX7_kindIn_10 : decode cX7_kindIn 10 = .ok (.l2i, 1) := by decide +kernel
theorem dX7_kindIn_11 : decode cX7_kindIn 11 = .ok (.bipush 8, 2) := by decide +kernel
theorem dX7_kindIn_13 : decode cX7_kindIn 13 = .ok (.irem, 1) := by decide +kernel
theorem dX7_kindIn_14 : decode cX7_kindIn 14 = .ok (.ireturn, 1) := by decide +kernel
theorem dX7_isKind_0 : decode cX7_isKind 0 = .ok (.iload_n 0, 1) := by decide +kernel
theorem dX7_isKind_1 : decode cX7_isKind 1 = .ok (.ifCond .lt 8, 3) := by decide +kernel
theorem dX7_isKind_4 : decode cX7_isKind 4 = .ok (.iload_n 0, 1) := by decide +kernel
theorem dX7_isKind_5 : decode cX7_isKind 5 = .ok (.iconst 4, 1) := by decide +kernel
theorem dX7_isKind_6 : decode cX7_isKind 6 = .ok (.if_icmp .le 9, 3) := by decide +kernel
theorem dX7_isKind_9 : decode cX7_isKind 9 = .ok (.iload_n 0, 1) := by decide +kernel
theorem dX7_isKind_10 : decode cX7_isKind 10 = .ok (.bipush 9, 2) := by decide +kernel
theorem dX7_isKind_12 : decode cX7_isKind 12 = .ok (.if_icmp .ne 7, 3) := by decide +kernel
theorem dX7_isKind_15 : decode cX7_isKind 15 = .ok (.iconst 1, 1) := by decide +kernel
theorem dX7_isKind_16 : decode cX7_isKind 16 = .ok (.goto 4, 3) := by decide +kernel
theorem dX7_isKind_19 : decode cX7_isKind 19 = .ok (.iconst 0, 1) := by decide +kernel
theorem dX7_isKind_20 : decode cX7_isKind 20 = .ok (.ireturn, 1) := by decide +kernel
theorem dX7_isSide_0 : decode cX7_isSide 0 = .ok (.lload_n 0, 1) := by decide +kernel
theorem dX7_isSide_1 : decode cX7_isSide 1 = .ok (.iload 4, 2) := by decide +kernel
theorem dX7_isSide_3 : decode cX7_isSide 3 = .ok (.invokestatic 79, 3) := by decide +kernel
theorem dX7_isSide_6 : decode cX7_isSide 6 = .ok (.istore 5, 2) := by decide +kernel
theorem dX7_isSide_8 : decode cX7_isSide 8 = .ok (.lload_n 0, 1) := by decide +kernel
theorem dX7_isSide_9 : decode cX7_isSide 9 = .ok (.iload 4, 2) := by decide +kernel
theorem dX7_isSide_11 : decode cX7_isSide 11 = .ok (.iconst 1, 1) := by decide +kernel
theorem dX7_isSide_12 : decode cX7_isSide 12 = .ok (.iadd, 1) := by decide +kernel
theorem dX7_isSide_13 : decode cX7_isSide 13 = .ok (.invokestatic 79, 3) := by decide +kernel
theorem dX7_isSide_16 : decode cX7_isSide 16 = .ok (.istore 6, 2) := by decide +kernel
theorem dX7_isSide_18 : decode cX7_isSide 18 = .ok (.lload_n 0, 1) := by decide +kernel
theorem dX7_isSide_19 : decode cX7_isSide 19 = .ok (.iload 4, 2) := by decide +kernel
theorem dX7_isSide_21 : decode cX7_isSide 21 = .ok (.iconst 2, 1) := by decide +kernel
theorem dX7_isSide_22 : decode cX7_isSide 22 = .ok (.iadd, 1) := by decide +kernel
theorem dX7_isSide_23 : decode cX7_isSide 23 = .ok (.invokestatic 79, 3) := by decide +kernel
theorem dX7_isSide_26 : decode cX7_isSide 26 = .ok (.istore 7, 2) := by decide +kernel
theorem dX7_isSide_28 : decode cX7_isSide 28 = .ok (.iload 5, 2) := by decide +kernel
theorem dX7_isSide_30 : decode cX7_isSide 30 = .ok (.iload 6, 2) := by decide +kernel
theorem dX7_isSide_32 : decode cX7_isSide 32 = .ok (.if_icmp .ne 24, 3) := by decide +kernel
theorem dX7_isSide_35 : decode cX7_isSide 35 = .ok (.iload 6, 2) := by decide +kernel
theorem dX7_isSide_37 : decode cX7_isSide 37 = .ok (.iload 7, 2) := by decide +kernel
theorem dX7_isSide_39 : decode cX7_isSide 39 = .ok (.if_icmp .ne 17, 3) := by decide +kernel
theorem dX7_isSide_42 : decode cX7_isSide 42 = .ok (.lload_n 2, 1) := by decide +kernel
theorem dX7_isSide_43 : decode cX7_isSide 43 = .ok (.iload 5, 2) := by decide +kernel
theorem dX7_isSide_45 : decode cX7_isSide 45 = .ok (.invokestatic 83, 3) := by decide +kernel
theorem dX7_isSide_48 : decode cX7_isSide 48 = .ok (.iconst 2, 1) := by decide +kernel
theorem dX7_isSide_49 : decode cX7_isSide 49 = .ok (.if_icmp .eq 7, 3) := by decide +kernel
theorem dX7_isSide_52 : decode cX7_isSide 52 = .ok (.iconst 1, 1) := by decide +kernel
theorem dX7_isSide_53 : decode cX7_isSide 53 = .ok (.goto 4, 3) := by decide +kernel
theorem dX7_isSide_56 : decode cX7_isSide 56 = .ok (.iconst 0, 1) := by decide +kernel
theorem dX7_isSide_57 : decode cX7_isSide 57 = .ok (.istore 8, 2) := by decide +kernel
theorem dX7_isSide_59 : decode cX7_isSide 59 = .ok (.iload 8, 2) := by decide +kernel
theorem dX7_isSide_61 : decode cX7_isSide 61 = .ok (.ifCond .ne 33, 3) := by decide +kernel
theorem dX7_isSide_64 : decode cX7_isSide 64 = .ok (.lload_n 2, 1) := by decide +kernel
theorem dX7_isSide_65 : decode cX7_isSide 65 = .ok (.iload 5, 2) := by decide +kernel
theorem dX7_isSide_67 : decode cX7_isSide 67 = .ok (.invokestatic 83, 3) := by decide +kernel
theorem dX7_isSide_70 : decode cX7_isSide 70 = .ok (.iconst 3, 1) := by decide +kernel
