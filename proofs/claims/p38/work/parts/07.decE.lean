theorem dL_cell_0 : decode cL_cell 0 = .ok (.iload_n 1, 1) := by decide +kernel
theorem dL_cell_1 : decode cL_cell 1 = .ok (.aload_n 0, 1) := by decide +kernel
theorem dL_cell_2 : decode cL_cell 2 = .ok (.arraylength, 1) := by decide +kernel
theorem dL_cell_3 : decode cL_cell 3 = .ok (.if_icmp .ge 9, 3) := by decide +kernel
theorem dL_cell_6 : decode cL_cell 6 = .ok (.aload_n 0, 1) := by decide +kernel
theorem dL_cell_7 : decode cL_cell 7 = .ok (.iload_n 1, 1) := by decide +kernel
theorem dL_cell_8 : decode cL_cell 8 = .ok (.iaload, 1) := by decide +kernel
theorem dL_cell_9 : decode cL_cell 9 = .ok (.goto 9, 3) := by decide +kernel
theorem dL_cell_12 : decode cL_cell 12 = .ok (.ldc 7, 2) := by decide +kernel
theorem dL_cell_14 : decode cL_cell 14 = .ok (.iload_n 1, 1) := by decide +kernel
theorem dL_cell_15 : decode cL_cell 15 = .ok (.iconst 3, 1) := by decide +kernel
theorem dL_cell_16 : decode cL_cell 16 = .ok (.iadd, 1) := by decide +kernel
theorem dL_cell_17 : decode cL_cell 17 = .ok (.imul, 1) := by decide +kernel
theorem dL_cell_18 : decode cL_cell 18 = .ok (.ireturn, 1) := by decide +kernel
theorem dL_up_0 : decode cL_up 0 = .ok (.iload_n 0, 1) := by decide +kernel
theorem dL_up_1 : decode cL_up 1 = .ok (.ldc 8, 2) := by decide +kernel
theorem dL_up_3 : decode cL_up 3 = .ok (.iand, 1) := by decide +kernel
theorem dL_up_4 : decode cL_up 4 = .ok (.iload_n 1, 1) := by decide +kernel
theorem dL_up_5 : decode cL_up 5 = .ok (.irem, 1) := by decide +kernel
theorem dL_up_6 : decode cL_up 6 = .ok (.ireturn, 1) := by decide +kernel
theorem dL_power_0 : decode cL_power 0 = .ok (.iload_n 0, 1) := by decide +kernel
theorem dL_power_1 : decode cL_power 1 = .ok (.ifCond .ne 7, 3) := by decide +kernel
theorem dL_power_4 : decode cL_power 4 = .ok (.iconst 1, 1) := by decide +kernel
theorem dL_power_5 : decode cL_power 5 = .ok (.goto 24, 3) := by decide +kernel
theorem dL_power_8 : decode cL_power 8 = .ok (.iload_n 0, 1) := by decide +kernel
theorem dL_power_9 : decode cL_power 9 = .ok (.iconst 1, 1) := by decide +kernel
theorem dL_power_10 : decode cL_power 10 = .ok (.if_icmp .ne 7, 3) := by decide +kernel
theorem dL_power_13 : decode cL_power 13 = .ok (.iconst 3, 1) := by decide +kernel
theorem dL_power_14 : decode cL_power 14 = .ok (.goto 15, 3) := by decide +kernel
theorem dL_power_17 : decode cL_power 17 = .ok (.iload_n 0, 1) := by decide +kernel
theorem dL_power_18 : decode cL_power 18 = .ok (.iconst 2, 1) := by decide +kernel
theorem dL_power_19 : decode cL_power 19 = .ok (.if_icmp .ne 8, 3) := by decide +kernel
theorem dL_power_22 : decode cL_power 22 = .ok (.bipush 9, 2) := by decide +kernel
theorem dL_power_24 : decode cL_power 24 = .ok (.goto 5, 3) := by decide +kernel
theorem dL_power_27 : decode cL_power 27 = .ok (.bipush 27, 2) := by decide +kernel
theorem dL_power_29 : decode cL_power 29 = .ok (.ireturn, 1) := by decide +kernel
theorem dL_fails_0 : decode cL_fails 0 = .ok (.aload_n 0, 1) := by decide +kernel
theorem dL_fails_1 : decode cL_fails 1 = .ok (.invokevirtual 9, 3) := by decide +kernel
theorem dL_fails_4 : decode cL_fails 4 = .ok (.lstore_n 3, 1) := by decide +kernel
theorem dL_fails_5 : decode cL_fails 5 = .ok (.iconst 1, 1) := by decide +kernel
theorem dL_fails_6 : decode cL_fails 6 = .ok (.iload_n 2, 1) := by decide +kernel
theorem dL_fails_7 : decode cL_fails 7 = .ok (.ishl, 1) := by decide +kernel
theorem dL_fails_8 : decode cL_fails 8 = .ok (.istore 5, 2) := by decide +kernel
theorem dL_fails_10 : decode cL_fails 10 = .ok (.aload_n 0, 1) := by decide +kernel
theorem dL_fails_11 : decode cL_fails 11 = .ok (.iload_n 2, 1) := by decide +kernel
theorem dL_fails_12 : decode cL_fails 12 = .ok (.iconst 0, 1) := by decide +kernel
theorem dL_fails_13 : decode cL_fails 13 = .ok (.iconst 1, 1) := by decide +kernel
theorem dL_fails_14 : decode cL_fails 14 = .ok (.invokevirtual 15, 3) := by decide +kernel
theorem dL_fails_17 : decode cL_fails 17 = .ok (.iconst (-1), 1) := by decide +kernel
theorem dL_fails_18 : decode cL_fails 18 = .ok (.if_icmp .ne 85, 3) := by decide +kernel
theorem dL_fails_21 : decode cL_fails 21 = .ok (.aload_n 0, 1) := by decide +kernel
theorem dL_fails_22 : decode cL_fails 22 = .ok (.iconst 0, 1) := by decide +kernel
theorem dL_fails_23 : decode cL_fails 23 = .ok (.iload_n 1, 1) := by decide +kernel
theorem dL_fails_24 : decode cL_fails 24 = .ok (.iconst 1, 1) := by decide +kernel
theorem dL_fails_25 : decode cL_fails 25 = .ok (.invokevirtual 15, 3) := by decide +kernel
theorem dL_fails_28 : decode cL_fails 28 = .ok (.iconst (-1), 1) := by decide +kernel
theorem dL_fails_29 : decode cL_fails 29 = .ok (.if_icmp .ne 74, 3) := by decide +kernel
theorem dL_fails_32 : decode cL_fails 32 = .ok (.aload_n 0, 1) := by decide +kernel
theorem dL_fails_33 : decode cL_fails 33 = .ok (.iconst 0, 1) := by decide +kernel
theorem dL_fails_34 : decode cL_fails 34 = .ok (.iconst 0, 1) := by decide +kernel
theorem dL_fails_35 : decode cL_fails 35 = .ok (.iconst 4, 1) := by decide +kernel
theorem dL_fails_36 : decode cL_fails 36 = .ok (.invokevirtual 15, 3) := by decide +kernel
theorem dL_fails_39 : decode cL_fails 39 = .ok (.iconst (-1), 1) := by decide +kernel
theorem dL_fails_40 : decode cL_fails 40 = .ok (.if_icmp .ne 63, 3) := by decide +kernel
theorem dL_fails_43 : decode cL_fails 43 = .ok (.aload_n 0, 1) := by decide +kernel
theorem dL_fails_44 : decode cL_fails 44 = .ok (.iconst 0, 1) := by decide +kernel
theorem dL_fails_45 : decode cL_fails 45 = .ok (.bipush 65, 2) := by decide +kernel
theorem dL_fails_47 : decode cL_fails 47 = .ok (.iconst 1, 1) := by decide +kernel
theorem dL_fails_48 : decode cL_fails 48 = .ok (.invokevirtual 19, 3) := by decide +kernel
theorem dL_fails_51 : decode cL_fails 51 = .ok (.iconst (-1), 1) := by decide +kernel
theorem dL_fails_52 : decode cL_fails 52 = .ok (.if_icmp .ne 51, 3) := by decide +kernel
theorem dL_fails_55 : decode cL_fails 55 = .ok (.aload_n 0, 1) := by decide +kernel
theorem dL_fails_56 : decode cL_fails 56 = .ok (.iconst (-1), 1) := by decide +kernel
theorem dL_fails_57 : decode cL_fails 57 = .ok (.invokevirtual 23, 3) := by decide +kernel
theorem dL_fails_60 : decode cL_fails 60 = .ok (.iconst (-1), 1) := by decide +kernel
theorem dL_fails_61 : decode cL_fails 61 = .ok (.if_icmp .ne 42, 3) := by decide +kernel
theorem dL_fails_64 : decode cL_fails 64 = .ok (.aload_n 0, 1) := by decide +kernel
theorem dL_fails_65 : decode cL_fails 65 = .ok (.iconst 0, 1) := by decide +kernel
theorem dL_fails_66 : decode cL_fails 66 = .ok (.iconst 0, 1) := by decide +kernel
theorem dL_fails_67 : decode cL_fails 67 = .ok (.iload_n 2, 1) := by decide +kernel
theorem dL_fails_68 : decode cL_fails 68 = .ok (.invokevirtual 27, 3) := by decide +kernel
theorem dL_fails_71 : decode cL_fails 71 = .ok (.iconst (-1), 1) := by decide +kernel
theorem dL_fails_72 : decode cL_fails 72 = .ok (.if_icmp .ne 31, 3) := by decide +kernel
theorem dL_fails_75 : decode cL_fails 75 = .ok (.aload_n 0, 1) := by decide +kernel
theorem dL_fails_76 : decode cL_fails 76 = .ok (.iconst 0, 1) := by decide +kernel
theorem dL_fails_77 : decode cL_fails 77 = .ok (.bipush 81, 2) := by decide +kernel
theorem dL_fails_79 : decode cL_fails 79 = .ok (.iconst 0, 1) := by decide +kernel
theorem dL_fails_80 : decode cL_fails 80 = .ok (.invokevirtual 27, 3) := by decide +kernel
theorem dL_fails_83 : decode cL_fails 83 = .ok (.iconst (-1), 1) := by decide +kernel
theorem dL_fails_84 : decode cL_fails 84 = .ok (.if_icmp .ne 19, 3) := by decide +kernel
theorem dL_fails_87 : decode cL_fails 87 = .ok (.aload_n 0, 1) := by decide +kernel
theorem dL_fails_88 : decode cL_fails 88 = .ok (.iconst 0, 1) := by decide +kernel
theorem dL_fails_89 : decode cL_fails 89 = .ok (.iconst 0, 1) := by decide +kernel
theorem dL_fails_90 : decode cL_fails 90 = .ok (.iconst 3, 1) := by decide +kernel
theorem dL_fails_91 : decode cL_fails 91 = .ok (.iconst 0, 1) := by decide +kernel
theorem dL_fails_92 : decode cL_fails 92 = .ok (.invokevirtual 30, 3) := by decide +kernel
theorem dL_fails_95 : decode cL_fails 95 = .ok (.iconst (-1), 1) := by decide +kernel
theorem dL_fails_96 : decode cL_fails 96 = .ok (.if_icmp .ne 7, 3) := by decide +kernel
theorem dL_fails_99 : decode cL_fails 99 = .ok (.iconst 1, 1) := by decide +kernel
theorem dL_fails_100 : decode cL_fails 100 = .ok (.goto 4, 3) := by decide +kernel
theorem dL_fails_103 : decode cL_fails 103 = .ok (.iconst 0, 1) := by decide +kernel
theorem dL_fails_104 : decode cL_fails 104 = .ok (.istore 6, 2) := by decide +kernel
theorem dL_fails_106 : decode cL_fails 106 = .ok (.iload 6, 2) := by decide +kernel
theorem dL_fails_108 : decode cL_fails 108 = .ok (.ifCond .eq 125, 3) := by decide +kernel
theorem dL_fails_111 : decode cL_fails 111 = .ok (.aload_n 0, 1) := by decide +kernel
theorem dL_fails_112 : decode cL_fails 112 = .ok (.iload_n 2, 1) := by decide +kernel
theorem dL_fails_113 : decode cL_fails 113 = .ok (.iconst 0, 1) := by decide +kernel
theorem dL_fails_114 : decode cL_fails 114 = .ok (.invokevirtual 34, 3) := by decide +kernel
theorem dL_fails_117 : decode cL_fails 117 = .ok (.iconst (-1), 1) := by decide +kernel
theorem dL_fails_118 : decode cL_fails 118 = .ok (.if_icmp .ne 115, 3) := by decide +kernel
theorem dL_fails_121 : decode cL_fails 121 = .ok (.aload_n 0, 1) := by decide +kernel
theorem dL_fails_122 : decode cL_fails 122 = .ok (.iconst 1, 1) := by decide +kernel
theorem dL_fails_123 : decode cL_fails 123 = .ok (.iload_n 1, 1) := by decide +kernel
theorem dL_fails_124 : decode cL_fails 124 = .ok (.ishl, 1) := by decide +kernel
theorem dL_fails_125 : decode cL_fails 125 = .ok (.iconst 0, 1) := by decide +kernel
theorem dL_fails_126 : decode cL_fails 126 = .ok (.iconst 0, 1) := by decide +kernel
theorem dL_fails_127 : decode cL_fails 127 = .ok (.invokevirtual 38, 3) := by decide +kernel
theorem dL_fails_130 : decode cL_fails 130 = .ok (.iconst (-1), 1) := by decide +kernel
theorem dL_fails_131 : decode cL_fails 131 = .ok (.if_icmp .ne 102, 3) := by decide +kernel
theorem dL_fails_134 : decode cL_fails 134 = .ok (.aload_n 0, 1) := by decide +kernel
theorem dL_fails_135 : decode cL_fails 135 = .ok (.iconst 0, 1) := by decide +kernel
theorem dL_fails_136 : decode cL_fails 136 = .ok (.iconst 0, 1) := by decide +kernel
theorem dL_fails_137 : decode cL_fails 137 = .ok (.iload 5, 2) := by decide +kernel
theorem dL_fails_139 : decode cL_fails 139 = .ok (.invokevirtual 38, 3) := by decide +kernel
theorem dL_fails_142 : decode cL_fails 142 = .ok (.iconst (-1), 1) := by decide +kernel
theorem dL_fails_143 : decode cL_fails 143 = .ok (.if_icmp .ne 90, 3) := by decide +kernel
theorem dL_fails_146 : decode cL_fails 146 = .ok (.aload_n 0, 1) := by decide +kernel
theorem dL_fails_147 : decode cL_fails 147 = .ok (.iconst 0, 1) := by decide +kernel
theorem dL_fails_148 : decode cL_fails 148 = .ok (.iconst 0, 1) := by decide +kernel
theorem dL_fails_149 : decode cL_fails 149 = .ok (.iconst 1, 1) := by decide +kernel
theorem dL_fails_150 : decode cL_fails 150 = .ok (.iconst 0, 1) := by decide +kernel
theorem dL_fails_151 : decode cL_fails 151 = .ok (.invokevirtual 41, 3) := by decide +kernel
theorem dL_fails_154 : decode cL_fails 154 = .ok (.iconst (-1), 1) := by decide +kernel
theorem dL_fails_155 : decode cL_fails 155 = .ok (.if_icmp .ne 78, 3) := by decide +kernel
theorem dL_fails_158 : decode cL_fails 158 = .ok (.aload_n 0, 1) := by decide +kernel
theorem dL_fails_159 : decode cL_fails 159 = .ok (.iconst (-1), 1) := by decide +kernel
theorem dL_fails_160 : decode cL_fails 160 = .ok (.iconst 0, 1) := by decide +kernel
theorem dL_fails_161 : decode cL_fails 161 = .ok (.invokevirtual 44, 3) := by decide +kernel
theorem dL_fails_164 : decode cL_fails 164 = .ok (.iconst (-1), 1) := by decide +kernel
theorem dL_fails_165 : decode cL_fails 165 = .ok (.if_icmp .ne 68, 3) := by decide +kernel
theorem dL_fails_168 : decode cL_fails 168 = .ok (.aload_n 0, 1) := by decide +kernel
theorem dL_fails_169 : decode cL_fails 169 = .ok (.bipush 31, 2) := by decide +kernel
theorem dL_fails_171 : decode cL_fails 171 = .ok (.invokevirtual 47, 3) := by decide +kernel
theorem dL_fails_174 : decode cL_fails 174 = .ok (.iconst (-1), 1) := by decide +kernel
theorem dL_fails_175 : decode cL_fails 175 = .ok (.if_icmp .ne 58, 3) := by decide +kernel
theorem dL_fails_178 : decode cL_fails 178 = .ok (.aload_n 0, 1) := by decide +kernel
theorem dL_fails_179 : decode cL_fails 179 = .ok (.bipush 8, 2) := by decide +kernel
theorem dL_fails_181 : decode cL_fails 181 = .ok (.iconst 0, 1) := by decide +kernel
theorem dL_fails_182 : decode cL_fails 182 = .ok (.invokevirtual 50, 3) := by decide +kernel
theorem dL_fails_185 : decode cL_fails 185 = .ok (.iconst (-1), 1) := by decide +kernel
theorem dL_fails_186 : decode cL_fails 186 = .ok (.if_icmp .ne 47, 3) := by decide +kernel
theorem dL_fails_189 : decode cL_fails 189 = .ok (.aload_n 0, 1) := by decide +kernel
theorem dL_fails_190 : decode cL_fails 190 = .ok (.iconst (-1), 1) := by decide +kernel
theorem dL_fails_191 : decode cL_fails 191 = .ok (.iconst 0, 1) := by decide +kernel
theorem dL_fails_192 : decode cL_fails 192 = .ok (.invokevirtual 53, 3) := by decide +kernel
theorem dL_fails_195 : decode cL_fails 195 = .ok (.iconst (-1), 1) := by decide +kernel
theorem dL_fails_196 : decode cL_fails 196 = .ok (.if_icmp .ne 37, 3) := by decide +kernel
theorem dL_fails_199 : decode cL_fails 199 = .ok (.aload_n 0, 1) := by decide +kernel
theorem dL_fails_200 : decode cL_fails 200 = .ok (.iconst 0, 1) := by decide +kernel
theorem dL_fails_201 : decode cL_fails 201 = .ok (.iconst 0, 1) := by decide +kernel
theorem dL_fails_202 : decode cL_fails 202 = .ok (.iconst 3, 1) := by decide +kernel
theorem dL_fails_203 : decode cL_fails 203 = .ok (.invokevirtual 56, 3) := by decide +kernel
theorem dL_fails_206 : decode cL_fails 206 = .ok (.iconst (-1), 1) := by decide +kernel
theorem dL_fails_207 : decode cL_fails 207 = .ok (.if_icmp .ne 26, 3) := by decide +kernel
theorem dL_fails_210 : decode cL_fails 210 = .ok (.aload_n 0, 1) := by decide +kernel
theorem dL_fails_211 : decode cL_fails 211 = .ok (.iconst 0, 1) := by decide +kernel
theorem dL_fails_212 : decode cL_fails 212 = .ok (.iload_n 1, 1) := by decide +kernel
theorem dL_fails_213 : decode cL_fails 213 = .ok (.invokevirtual 59, 3) := by decide +kernel
theorem dL_fails_216 : decode cL_fails 216 = .ok (.iconst (-1), 1) := by decide +kernel
theorem dL_fails_217 : decode cL_fails 217 = .ok (.if_icmp .ne 16, 3) := by decide +kernel
theorem dL_fails_220 : decode cL_fails 220 = .ok (.aload_n 0, 1) := by decide +kernel
theorem dL_fails_221 : decode cL_fails 221 = .ok (.iload_n 2, 1) := by decide +kernel
theorem dL_fails_222 : decode cL_fails 222 = .ok (.invokevirtual 62, 3) := by decide +kernel
theorem dL_fails_225 : decode cL_fails 225 = .ok (.iconst (-1), 1) := by decide +kernel
theorem dL_fails_226 : decode cL_fails 226 = .ok (.if_icmp .ne 7, 3) := by decide +kernel
theorem dL_fails_229 : decode cL_fails 229 = .ok (.iconst 1, 1) := by decide +kernel
theorem dL_fails_230 : decode cL_fails 230 = .ok (.goto 4, 3) := by decide +kernel
theorem dL_fails_233 : decode cL_fails 233 = .ok (.iconst 0, 1) := by decide +kernel
theorem dL_fails_234 : decode cL_fails 234 = .ok (.istore 6, 2) := by decide +kernel
theorem dL_fails_236 : decode cL_fails 236 = .ok (.iload 6, 2) := by decide +kernel
theorem dL_fails_238 : decode cL_fails 238 = .ok (.ifCond .eq 16, 3) := by decide +kernel
theorem dL_fails_241 : decode cL_fails 241 = .ok (.aload_n 0, 1) := by decide +kernel
theorem dL_fails_242 : decode cL_fails 242 = .ok (.invokevirtual 9, 3) := by decide +kernel
theorem dL_fails_245 : decode cL_fails 245 = .ok (.lload_n 3, 1) := by decide +kernel
theorem dL_fails_246 : decode cL_fails 246 = .ok (.lcmp, 1) := by decide +kernel
theorem dL_fails_247 : decode cL_fails 247 = .ok (.ifCond .ne 7, 3) := by decide +kernel
theorem dL_fails_250 : decode cL_fails 250 = .ok (.iconst 1, 1) := by decide +kernel
theorem dL_fails_251 : decode cL_fails 251 = .ok (.goto 4, 3) := by decide +kernel
theorem dL_fails_254 : decode cL_fails 254 = .ok (.iconst 0, 1) := by decide +kernel
theorem dL_fails_255 : decode cL_fails 255 = .ok (.ireturn, 1) := by decide +kernel
theorem dL_builds_0 : decode cL_builds 0 = .ok (.iconst 0, 1) := by decide +kernel
theorem dL_builds_1 : decode cL_builds 1 = .ok (.istore 4, 2) := by decide +kernel
theorem dL_builds_3 : decode cL_builds 3 = .ok (.iload 4, 2) := by decide +kernel
theorem dL_builds_5 : decode cL_builds 5 = .ok (.iload_n 3, 1) := by decide +kernel
theorem dL_builds_6 : decode cL_builds 6 = .ok (.if_icmp .ge 20, 3) := by decide +kernel
theorem dL_builds_9 : decode cL_builds 9 = .ok (.aload_n 0, 1) := by decide +kernel
theorem dL_builds_10 : decode cL_builds 10 = .ok (.invokevirtual 65, 3) := by decide +kernel
theorem dL_builds_13 : decode cL_builds 13 = .ok (.iload 4, 2) := by decide +kernel
theorem dL_builds_15 : decode cL_builds 15 = .ok (.if_icmp .eq 5, 3) := by decide +kernel
theorem dL_builds_18 : decode cL_builds 18 = .ok (.iconst 0, 1) := by decide +kernel
theorem dL_builds_19 : decode cL_builds 19 = .ok (.ireturn, 1) := by decide +kernel
theorem dL_builds_20 : decode cL_builds 20 = .ok (.iinc 4 1, 3) := by decide +kernel
theorem dL_builds_23 : decode cL_builds 23 = .ok (.goto (-20), 3) := by decide +kernel
theorem dL_builds_26 : decode cL_builds 26 = .ok (.iconst 0, 1) := by decide +kernel
theorem dL_builds_27 : decode cL_builds 27 = .ok (.istore 4, 2) := by decide +kernel
theorem dL_builds_29 : decode cL_builds 29 = .ok (.iload 4, 2) := by decide +kernel
theorem dL_builds_31 : decode cL_builds 31 = .ok (.iload_n 3, 1) := by decide +kernel
theorem dL_builds_32 : decode cL_builds 32 = .ok (.if_icmp .ge 257, 3) := by decide +kernel
theorem dL_builds_35 : decode cL_builds 35 = .ok (.aload_n 1, 1) := by decide +kernel
theorem dL_builds_36 : decode cL_builds 36 = .ok (.iconst 2, 1) := by decide +kernel
theorem dL_builds_37 : decode cL_builds 37 = .ok (.iload 4, 2) := by decide +kernel
theorem dL_builds_39 : decode cL_builds 39 = .ok (.iadd, 1) := by decide +kernel
theorem dL_builds_40 : decode cL_builds 40 = .ok (.invokestatic 69, 3) := by decide +kernel
theorem dL_builds_43 : decode cL_builds 43 = .ok (.istore 5, 2) := by decide +kernel
theorem dL_builds_45 : decode cL_builds 45 = .ok (.iconst 0, 1) := by decide +kernel
theorem dL_builds_46 : decode cL_builds 46 = .ok (.istore 6, 2) := by decide +kernel
theorem dL_builds_48 : decode cL_builds 48 = .ok (.iload 6, 2) := by decide +kernel
theorem dL_builds_50 : decode cL_builds 50 = .ok (.iload_n 2, 1) := by decide +kernel
theorem dL_builds_51 : decode cL_builds 51 = .ok (.if_icmp .ge 53, 3) := by decide +kernel
theorem dL_builds_54 : decode cL_builds 54 = .ok (.iconst 1, 1) := by decide +kernel
theorem dL_builds_55 : decode cL_builds 55 = .ok (.iload 5, 2) := by decide +kernel
theorem dL_builds_57 : decode cL_builds 57 = .ok (.iconst 2, 1) := by decide +kernel
theorem dL_builds_58 : decode cL_builds 58 = .ok (.iload 6, 2) := by decide +kernel
theorem dL_builds_60 : decode cL_builds 60 = .ok (.imul, 1) := by decide +kernel
theorem dL_builds_61 : decode cL_builds 61 = .ok (.ishr, 1) := by decide +kernel
theorem dL_builds_62 : decode cL_builds 62 = .ok (.iconst 3, 1) := by decide +kernel
theorem dL_builds_63 : decode cL_builds 63 = .ok (.invokestatic 75, 3) := by decide +kernel
theorem dL_builds_66 : decode cL_builds 66 = .ok (.iadd, 1) := by decide +kernel
theorem dL_builds_67 : decode cL_builds 67 = .ok (.istore 7, 2) := by decide +kernel
theorem dL_builds_69 : decode cL_builds 69 = .ok (.aload_n 0, 1) := by decide +kernel
theorem dL_builds_70 : decode cL_builds 70 = .ok (.iload 4, 2) := by decide +kernel
theorem dL_builds_72 : decode cL_builds 72 = .ok (.iload 6, 2) := by decide +kernel
theorem dL_builds_74 : decode cL_builds 74 = .ok (.iload 7, 2) := by decide +kernel
theorem dL_builds_76 : decode cL_builds 76 = .ok (.invokevirtual 15, 3) := by decide +kernel
theorem dL_builds_79 : decode cL_builds 79 = .ok (.iconst 1, 1) := by decide +kernel
theorem dL_builds_80 : decode cL_builds 80 = .ok (.if_icmp .ne 16, 3) := by decide +kernel
theorem dL_builds_83 : decode cL_builds 83 = .ok (.aload_n 0, 1) := by decide +kernel
theorem dL_builds_84 : decode cL_builds 84 = .ok (.iload 4, 2) := by decide +kernel
theorem dL_builds_86 : decode cL_builds 86 = .ok (.iload 6, 2) := by decide +kernel
theorem dL_builds_88 : decode cL_builds 88 = .ok (.invokevirtual 78, 3) := by decide +kernel
theorem dL_builds_91 : decode cL_builds 91 = .ok (.iload 7, 2) := by decide +kernel
theorem dL_builds_93 : decode cL_builds 93 = .ok (.if_icmp .eq 5, 3) := by decide +kernel
theorem dL_builds_96 : decode cL_builds 96 = .ok (.iconst 0, 1) := by decide +kernel
theorem dL_builds_97 : decode cL_builds 97 = .ok (.ireturn, 1) := by decide +kernel
theorem dL_builds_98 : decode cL_builds 98 = .ok (.iinc 6 1, 3) := by decide +kernel
theorem dL_builds_101 : decode cL_builds 101 = .ok (.goto (-53), 3) := by decide +kernel
theorem dL_builds_104 : decode cL_builds 104 = .ok (.aload_n 0, 1) := by decide +kernel
theorem dL_builds_105 : decode cL_builds 105 = .ok (.iload 4, 2) := by decide +kernel
theorem dL_builds_107 : decode cL_builds 107 = .ok (.bipush 97, 2) := by decide +kernel
theorem dL_builds_109 : decode cL_builds 109 = .ok (.iload 5, 2) := by decide +kernel
theorem dL_builds_111 : decode cL_builds 111 = .ok (.bipush 10, 2) := by decide +kernel
theorem dL_builds_113 : decode cL_builds 113 = .ok (.ishr, 1) := by decide +kernel
theorem dL_builds_114 : decode cL_builds 114 = .ok (.iconst 1, 1) := by decide +kernel
theorem dL_builds_115 : decode cL_builds 115 = .ok (.iand, 1) := by decide +kernel
theorem dL_builds_116 : decode cL_builds 116 = .ok (.iconst 1, 1) := by decide +kernel
theorem dL_builds_117 : decode cL_builds 117 = .ok (.if_icmp .ne 7, 3) := by decide +kernel
theorem dL_builds_120 : decode cL_builds 120 = .ok (.iconst 1, 1) := by decide +kernel
theorem dL_builds_121 : decode cL_builds 121 = .ok (.goto 4, 3) := by decide +kernel
theorem dL_builds_124 : decode cL_builds 124 = .ok (.iconst 0, 1) := by decide +kernel
theorem dL_builds_125 : decode cL_builds 125 = .ok (.invokevirtual 19, 3) := by decide +kernel
theorem dL_builds_128 : decode cL_builds 128 = .ok (.ifCond .ne 46, 3) := by decide +kernel
theorem dL_builds_131 : decode cL_builds 131 = .ok (.aload_n 0, 1) := by decide +kernel
theorem dL_builds_132 : decode cL_builds 132 = .ok (.iload 4, 2) := by decide +kernel
theorem dL_builds_134 : decode cL_builds 134 = .ok (.bipush 98, 2) := by decide +kernel
theorem dL_builds_136 : decode cL_builds 136 = .ok (.iload 5, 2) := by decide +kernel
theorem dL_builds_138 : decode cL_builds 138 = .ok (.bipush 11, 2) := by decide +kernel
theorem dL_builds_140 : decode cL_builds 140 = .ok (.ishr, 1) := by decide +kernel
theorem dL_builds_141 : decode cL_builds 141 = .ok (.iconst 1, 1) := by decide +kernel
theorem dL_builds_142 : decode cL_builds 142 = .ok (.iand, 1) := by decide +kernel
theorem dL_builds_143 : decode cL_builds 143 = .ok (.iconst 1, 1) := by decide +kernel
theorem dL_builds_144 : decode cL_builds 144 = .ok (.if_icmp .ne 7, 3) := by decide +kernel
theorem dL_builds_147 : decode cL_builds 147 = .ok (.iconst 1, 1) := by decide +kernel
theorem dL_builds_148 : decode cL_builds 148 = .ok (.goto 4, 3) := by decide +kernel
theorem dL_builds_151 : decode cL_builds 151 = .ok (.iconst 0, 1) := by decide +kernel
theorem dL_builds_152 : decode cL_builds 152 = .ok (.invokevirtual 19, 3) := by decide +kernel
theorem dL_builds_155 : decode cL_builds 155 = .ok (.ifCond .ne 19, 3) := by decide +kernel
theorem dL_builds_158 : decode cL_builds 158 = .ok (.aload_n 0, 1) := by decide +kernel
theorem dL_builds_159 : decode cL_builds 159 = .ok (.iload 4, 2) := by decide +kernel
theorem dL_builds_161 : decode cL_builds 161 = .ok (.invokevirtual 23, 3) := by decide +kernel
theorem dL_builds_164 : decode cL_builds 164 = .ok (.iload 5, 2) := by decide +kernel
theorem dL_builds_166 : decode cL_builds 166 = .ok (.bipush 10, 2) := by decide +kernel
theorem dL_builds_168 : decode cL_builds 168 = .ok (.ishr, 1) := by decide +kernel
theorem dL_builds_169 : decode cL_builds 169 = .ok (.iconst 3, 1) := by decide +kernel
theorem dL_builds_170 : decode cL_builds 170 = .ok (.iand, 1) := by decide +kernel
theorem dL_builds_171 : decode cL_builds 171 = .ok (.if_icmp .eq 5, 3) := by decide +kernel
theorem dL_builds_174 : decode cL_builds 174 = .ok (.iconst 0, 1) := by decide +kernel
theorem dL_builds_175 : decode cL_builds 175 = .ok (.ireturn, 1) := by decide +kernel
theorem dL_builds_176 : decode cL_builds 176 = .ok (.iconst 0, 1) := by decide +kernel
theorem dL_builds_177 : decode cL_builds 177 = .ok (.istore 6, 2) := by decide +kernel
theorem dL_builds_179 : decode cL_builds 179 = .ok (.iconst 0, 1) := by decide +kernel
theorem dL_builds_180 : decode cL_builds 180 = .ok (.istore 7, 2) := by decide +kernel
theorem dL_builds_182 : decode cL_builds 182 = .ok (.iload 7, 2) := by decide +kernel
theorem dL_builds_184 : decode cL_builds 184 = .ok (.bipush 27, 2) := by decide +kernel
theorem dL_builds_186 : decode cL_builds 186 = .ok (.if_icmp .ge 84, 3) := by decide +kernel
theorem dL_builds_189 : decode cL_builds 189 = .ok (.aload_n 0, 1) := by decide +kernel
theorem dL_builds_190 : decode cL_builds 190 = .ok (.iload 4, 2) := by decide +kernel
theorem dL_builds_192 : decode cL_builds 192 = .ok (.iload 7, 2) := by decide +kernel
theorem dL_builds_194 : decode cL_builds 194 = .ok (.invokevirtual 34, 3) := by decide +kernel
theorem dL_builds_197 : decode cL_builds 197 = .ok (.istore 8, 2) := by decide +kernel
theorem dL_builds_199 : decode cL_builds 199 = .ok (.iload 8, 2) := by decide +kernel
theorem dL_builds_201 : decode cL_builds 201 = .ok (.ifCond .lt 63, 3) := by decide +kernel
theorem dL_builds_204 : decode cL_builds 204 = .ok (.aload_n 1, 1) := by decide +kernel
theorem dL_builds_205 : decode cL_builds 205 = .ok (.bipush 8, 2) := by decide +kernel
theorem dL_builds_207 : decode cL_builds 207 = .ok (.iload 7, 2) := by decide +kernel
theorem dL_builds_209 : decode cL_builds 209 = .ok (.iadd, 1) := by decide +kernel
theorem dL_builds_210 : decode cL_builds 210 = .ok (.invokestatic 69, 3) := by decide +kernel
theorem dL_builds_213 : decode cL_builds 213 = .ok (.iconst 3, 1) := by decide +kernel
theorem dL_builds_214 : decode cL_builds 214 = .ok (.iload 4, 2) := by decide +kernel
theorem dL_builds_216 : decode cL_builds 216 = .ok (.imul, 1) := by decide +kernel
theorem dL_builds_217 : decode cL_builds 217 = .ok (.ishr, 1) := by decide +kernel
theorem dL_builds_218 : decode cL_builds 218 = .ok (.iload_n 3, 1) := by decide +kernel
theorem dL_builds_219 : decode cL_builds 219 = .ok (.invokestatic 75, 3) := by decide +kernel
theorem dL_builds_222 : decode cL_builds 222 = .ok (.istore 9, 2) := by decide +kernel
theorem dL_builds_224 : decode cL_builds 224 = .ok (.iinc 6 1, 3) := by decide +kernel
theorem dL_builds_227 : decode cL_builds 227 = .ok (.iload 8, 2) := by decide +kernel
theorem dL_builds_229 : decode cL_builds 229 = .ok (.iload 4, 2) := by decide +kernel
theorem dL_builds_231 : decode cL_builds 231 = .ok (.if_icmp .ne 31, 3) := by decide +kernel
theorem dL_builds_234 : decode cL_builds 234 = .ok (.aload_n 0, 1) := by decide +kernel
theorem dL_builds_235 : decode cL_builds 235 = .ok (.iload 4, 2) := by decide +kernel
theorem dL_builds_237 : decode cL_builds 237 = .ok (.iload 7, 2) := by decide +kernel
theorem dL_builds_239 : decode cL_builds 239 = .ok (.iload 9, 2) := by decide +kernel
theorem dL_builds_241 : decode cL_builds 241 = .ok (.invokevirtual 27, 3) := by decide +kernel
theorem dL_builds_244 : decode cL_builds 244 = .ok (.iload 4, 2) := by decide +kernel
theorem dL_builds_246 : decode cL_builds 246 = .ok (.if_icmp .ne 16, 3) := by decide +kernel
theorem dL_builds_249 : decode cL_builds 249 = .ok (.aload_n 0, 1) := by decide +kernel
theorem dL_builds_250 : decode cL_builds 250 = .ok (.iload 4, 2) := by decide +kernel
theorem dL_builds_252 : decode cL_builds 252 = .ok (.iload 7, 2) := by decide +kernel
theorem dL_builds_254 : decode cL_builds 254 = .ok (.invokevirtual 34, 3) := by decide +kernel
theorem dL_builds_257 : decode cL_builds 257 = .ok (.iload 9, 2) := by decide +kernel
theorem dL_builds_259 : decode cL_builds 259 = .ok (.if_icmp .eq 5, 3) := by decide +kernel
theorem dL_builds_262 : decode cL_builds 262 = .ok (.iconst 0, 1) := by decide +kernel
theorem dL_builds_263 : decode cL_builds 263 = .ok (.ireturn, 1) := by decide +kernel
theorem dL_builds_264 : decode cL_builds 264 = .ok (.iinc 7 1, 3) := by decide +kernel
theorem dL_builds_267 : decode cL_builds 267 = .ok (.goto (-85), 3) := by decide +kernel
theorem dL_builds_270 : decode cL_builds 270 = .ok (.aload_n 0, 1) := by decide +kernel
theorem dL_builds_271 : decode cL_builds 271 = .ok (.iload 4, 2) := by decide +kernel
theorem dL_builds_273 : decode cL_builds 273 = .ok (.invokevirtual 81, 3) := by decide +kernel
theorem dL_builds_276 : decode cL_builds 276 = .ok (.iload 6, 2) := by decide +kernel
theorem dL_builds_278 : decode cL_builds 278 = .ok (.if_icmp .eq 5, 3) := by decide +kernel
theorem dL_builds_281 : decode cL_builds 281 = .ok (.iconst 0, 1) := by decide +kernel
theorem dL_builds_282 : decode cL_builds 282 = .ok (.ireturn, 1) := by decide +kernel
theorem dL_builds_283 : decode cL_builds 283 = .ok (.iinc 4 1, 3) := by decide +kernel
theorem dL_builds_286 : decode cL_builds 286 = .ok (.goto (-257), 3) := by decide +kernel
theorem dL_builds_289 : decode cL_builds 289 = .ok (.aload_n 0, 1) := by decide +kernel
theorem dL_builds_290 : decode cL_builds 290 = .ok (.invokevirtual 84, 3) := by decide +kernel
theorem dL_builds_293 : decode cL_builds 293 = .ok (.iload_n 3, 1) := by decide +kernel
theorem dL_builds_294 : decode cL_builds 294 = .ok (.if_icmp .ne 7, 3) := by decide +kernel
theorem dL_builds_297 : decode cL_builds 297 = .ok (.iconst 1, 1) := by decide +kernel
theorem dL_builds_298 : decode cL_builds 298 = .ok (.goto 4, 3) := by decide +kernel
theorem dL_builds_301 : decode cL_builds 301 = .ok (.iconst 0, 1) := by decide +kernel
theorem dL_builds_302 : decode cL_builds 302 = .ok (.ireturn, 1) := by decide +kernel
theorem dL_steps_0 : decode cL_steps 0 = .ok (.iload_n 3, 1) := by decide +kernel
theorem dL_steps_1 : decode cL_steps 1 = .ok (.iload_n 2, 1) := by decide +kernel
theorem dL_steps_2 : decode cL_steps 2 = .ok (.invokestatic 75, 3) := by decide +kernel
theorem dL_steps_5 : decode cL_steps 5 = .ok (.istore 4, 2) := by decide +kernel
theorem dL_steps_7 : decode cL_steps 7 = .ok (.iload_n 3, 1) := by decide +kernel
theorem dL_steps_8 : decode cL_steps 8 = .ok (.iconst 3, 1) := by decide +kernel
theorem dL_steps_9 : decode cL_steps 9 = .ok (.ishr, 1) := by decide +kernel
theorem dL_steps_10 : decode cL_steps 10 = .ok (.iconst 1, 1) := by decide +kernel
theorem dL_steps_11 : decode cL_steps 11 = .ok (.iload_n 2, 1) := by decide +kernel
theorem dL_steps_12 : decode cL_steps 12 = .ok (.ishl, 1) := by decide +kernel
theorem dL_steps_13 : decode cL_steps 13 = .ok (.invokestatic 75, 3) := by decide +kernel
theorem dL_steps_16 : decode cL_steps 16 = .ok (.istore 5, 2) := by decide +kernel
theorem dL_steps_18 : decode cL_steps 18 = .ok (.iconst 0, 1) := by decide +kernel
theorem dL_steps_19 : decode cL_steps 19 = .ok (.istore 6, 2) := by decide +kernel
theorem dL_steps_21 : decode cL_steps 21 = .ok (.iload 6, 2) := by decide +kernel
theorem dL_steps_23 : decode cL_steps 23 = .ok (.iconst 1, 1) := by decide +kernel
theorem dL_steps_24 : decode cL_steps 24 = .ok (.iload_n 1, 1) := by decide +kernel
theorem dL_steps_25 : decode cL_steps 25 = .ok (.ishl, 1) := by decide +kernel
theorem dL_steps_26 : decode cL_steps 26 = .ok (.if_icmp .ge 243, 3) := by decide +kernel
theorem dL_steps_29 : decode cL_steps 29 = .ok (.aload_n 0, 1) := by decide +kernel
theorem dL_steps_30 : decode cL_steps 30 = .ok (.iload 6, 2) := by decide +kernel
theorem dL_steps_32 : decode cL_steps 32 = .ok (.iload 4, 2) := by decide +kernel
theorem dL_steps_34 : decode cL_steps 34 = .ok (.iload 5, 2) := by decide +kernel
theorem dL_steps_36 : decode cL_steps 36 = .ok (.invokevirtual 38, 3) := by decide +kernel
theorem dL_steps_39 : decode cL_steps 39 = .ok (.istore 7, 2) := by decide +kernel
theorem dL_steps_41 : decode cL_steps 41 = .ok (.aload_n 0, 1) := by decide +kernel
theorem dL_steps_42 : decode cL_steps 42 = .ok (.iload 6, 2) := by decide +kernel
theorem dL_steps_44 : decode cL_steps 44 = .ok (.iload 4, 2) := by decide +kernel
theorem dL_steps_46 : decode cL_steps 46 = .ok (.invokevirtual 44, 3) := by decide +kernel
theorem dL_steps_49 : decode cL_steps 49 = .ok (.istore 8, 2) := by decide +kernel
theorem dL_steps_51 : decode cL_steps 51 = .ok (.iload 7, 2) := by decide +kernel
theorem dL_steps_53 : decode cL_steps 53 = .ok (.bipush (-9), 2) := by decide +kernel
theorem dL_steps_55 : decode cL_steps 55 = .ok (.if_icmp .eq 27, 3) := by decide +kernel
theorem dL_steps_58 : decode cL_steps 58 = .ok (.iload 7, 2) := by decide +kernel
theorem dL_steps_60 : decode cL_steps 60 = .ok (.ifCond .lt 20, 3) := by decide +kernel
theorem dL_steps_63 : decode cL_steps 63 = .ok (.aload_n 0, 1) := by decide +kernel
theorem dL_steps_64 : decode cL_steps 64 = .ok (.iload 6, 2) := by decide +kernel
theorem dL_steps_66 : decode cL_steps 66 = .ok (.iload 4, 2) := by decide +kernel
theorem dL_steps_68 : decode cL_steps 68 = .ok (.iload 7, 2) := by decide +kernel
theorem dL_steps_70 : decode cL_steps 70 = .ok (.iload 5, 2) := by decide +kernel
theorem dL_steps_72 : decode cL_steps 72 = .ok (.invokevirtual 41, 3) := by decide +kernel
theorem dL_steps_75 : decode cL_steps 75 = .ok (.bipush (-9), 2) := by decide +kernel
theorem dL_steps_77 : decode cL_steps 77 = .ok (.if_icmp .eq 5, 3) := by decide +kernel
theorem dL_steps_80 : decode cL_steps 80 = .ok (.iconst 0, 1) := by decide +kernel
theorem dL_steps_81 : decode cL_steps 81 = .ok (.ireturn, 1) := by decide +kernel
theorem dL_steps_82 : decode cL_steps 82 = .ok (.iload 8, 2) := by decide +kernel
theorem dL_steps_84 : decode cL_steps 84 = .ok (.iconst 1, 1) := by decide +kernel
theorem dL_steps_85 : decode cL_steps 85 = .ok (.if_icmp .lt 27, 3) := by decide +kernel
theorem dL_steps_88 : decode cL_steps 88 = .ok (.iload 8, 2) := by decide +kernel
theorem dL_steps_90 : decode cL_steps 90 = .ok (.iconst 1, 1) := by decide +kernel
theorem dL_steps_91 : decode cL_steps 91 = .ok (.iload_n 2, 1) := by decide +kernel
theorem dL_steps_92 : decode cL_steps 92 = .ok (.ishl, 1) := by decide +kernel
theorem dL_steps_93 : decode cL_steps 93 = .ok (.if_icmp .gt 19, 3) := by decide +kernel
theorem dL_steps_96 : decode cL_steps 96 = .ok (.aload_n 0, 1) := by decide +kernel
theorem dL_steps_97 : decode cL_steps 97 = .ok (.iload 6, 2) := by decide +kernel
theorem dL_steps_99 : decode cL_steps 99 = .ok (.iload 4, 2) := by decide +kernel
theorem dL_steps_101 : decode cL_steps 101 = .ok (.iconst 1, 1) := by decide +kernel
theorem dL_steps_102 : decode cL_steps 102 = .ok (.iload_n 2, 1) := by decide +kernel
theorem dL_steps_103 : decode cL_steps 103 = .ok (.ishl, 1) := by decide +kernel
theorem dL_steps_104 : decode cL_steps 104 = .ok (.iconst 1, 1) := by decide +kernel
theorem dL_steps_105 : decode cL_steps 105 = .ok (.isub, 1) := by decide +kernel
theorem dL_steps_106 : decode cL_steps 106 = .ok (.invokevirtual 38, 3) := by decide +kernel
theorem dL_steps_109 : decode cL_steps 109 = .ok (.ifCond .eq 5, 3) := by decide +kernel
theorem dL_steps_112 : decode cL_steps 112 = .ok (.iconst 0, 1) := by decide +kernel
theorem dL_steps_113 : decode cL_steps 113 = .ok (.ireturn, 1) := by decide +kernel
theorem dL_steps_114 : decode cL_steps 114 = .ok (.iconst 0, 1) := by decide +kernel
theorem dL_steps_115 : decode cL_steps 115 = .ok (.istore 9, 2) := by decide +kernel
theorem dL_steps_117 : decode cL_steps 117 = .ok (.iload 9, 2) := by decide +kernel
theorem dL_steps_119 : decode cL_steps 119 = .ok (.iload_n 1, 1) := by decide +kernel
theorem dL_steps_120 : decode cL_steps 120 = .ok (.if_icmp .ge 55, 3) := by decide +kernel
theorem dL_steps_123 : decode cL_steps 123 = .ok (.iload 6, 2) := by decide +kernel
theorem dL_steps_125 : decode cL_steps 125 = .ok (.iconst 1, 1) := by decide +kernel
theorem dL_steps_126 : decode cL_steps 126 = .ok (.iload 9, 2) := by decide +kernel
theorem dL_steps_128 : decode cL_steps 128 = .ok (.ishl, 1) := by decide +kernel
theorem dL_steps_129 : decode cL_steps 129 = .ok (.ior, 1) := by decide +kernel
theorem dL_steps_130 : decode cL_steps 130 = .ok (.istore 10, 2) := by decide +kernel
theorem dL_steps_132 : decode cL_steps 132 = .ok (.iload 7, 2) := by decide +kernel
theorem dL_steps_134 : decode cL_steps 134 = .ok (.bipush (-9), 2) := by decide +kernel
theorem dL_steps_136 : decode cL_steps 136 = .ok (.if_icmp .eq 18, 3) := by decide +kernel
theorem dL_steps_139 : decode cL_steps 139 = .ok (.aload_n 0, 1) := by decide +kernel
theorem dL_steps_140 : decode cL_steps 140 = .ok (.iload 10, 2) := by decide +kernel
theorem dL_steps_142 : decode cL_steps 142 = .ok (.iload 4, 2) := by decide +kernel
theorem dL_steps_144 : decode cL_steps 144 = .ok (.iload 5, 2) := by decide +kernel
theorem dL_steps_146 : decode cL_steps 146 = .ok (.invokevirtual 38, 3) := by decide +kernel
theorem dL_steps_149 : decode cL_steps 149 = .ok (.bipush (-9), 2) := by decide +kernel
theorem dL_steps_151 : decode cL_steps 151 = .ok (.if_icmp .eq 16, 3) := by decide +kernel
theorem dL_steps_154 : decode cL_steps 154 = .ok (.aload_n 0, 1) := by decide +kernel
theorem dL_steps_155 : decode cL_steps 155 = .ok (.iload 10, 2) := by decide +kernel
theorem dL_steps_157 : decode cL_steps 157 = .ok (.iload 4, 2) := by decide +kernel
theorem dL_steps_159 : decode cL_steps 159 = .ok (.invokevirtual 44, 3) := by decide +kernel
theorem dL_steps_162 : decode cL_steps 162 = .ok (.iload 8, 2) := by decide +kernel
theorem dL_steps_164 : decode cL_steps 164 = .ok (.if_icmp .ge 5, 3) := by decide +kernel
theorem dL_steps_167 : decode cL_steps 167 = .ok (.iconst 0, 1) := by decide +kernel
theorem dL_steps_168 : decode cL_steps 168 = .ok (.ireturn, 1) := by decide +kernel
theorem dL_steps_169 : decode cL_steps 169 = .ok (.iinc 9 1, 3) := by decide +kernel
theorem dL_steps_172 : decode cL_steps 172 = .ok (.goto (-55), 3) := by decide +kernel
theorem dL_steps_175 : decode cL_steps 175 = .ok (.iconst 1, 1) := by decide +kernel
theorem dL_steps_176 : decode cL_steps 176 = .ok (.iload_n 1, 1) := by decide +kernel
theorem dL_steps_177 : decode cL_steps 177 = .ok (.ishl, 1) := by decide +kernel
theorem dL_steps_178 : decode cL_steps 178 = .ok (.iconst 1, 1) := by decide +kernel
theorem dL_steps_179 : decode cL_steps 179 = .ok (.isub, 1) := by decide +kernel
theorem dL_steps_180 : decode cL_steps 180 = .ok (.iload 6, 2) := by decide +kernel
theorem dL_steps_182 : decode cL_steps 182 = .ok (.iconst (-1), 1) := by decide +kernel
theorem dL_steps_183 : decode cL_steps 183 = .ok (.ixor, 1) := by decide +kernel
theorem dL_steps_184 : decode cL_steps 184 = .ok (.iand, 1) := by decide +kernel
theorem dL_steps_185 : decode cL_steps 185 = .ok (.istore 9, 2) := by decide +kernel
theorem dL_steps_187 : decode cL_steps 187 = .ok (.iload 7, 2) := by decide +kernel
theorem dL_steps_189 : decode cL_steps 189 = .ok (.bipush (-9), 2) := by decide +kernel
theorem dL_steps_191 : decode cL_steps 191 = .ok (.if_icmp .eq 28, 3) := by decide +kernel
theorem dL_steps_194 : decode cL_steps 194 = .ok (.aload_n 0, 1) := by decide +kernel
theorem dL_steps_195 : decode cL_steps 195 = .ok (.iload 9, 2) := by decide +kernel
theorem dL_steps_197 : decode cL_steps 197 = .ok (.iload 4, 2) := by decide +kernel
theorem dL_steps_199 : decode cL_steps 199 = .ok (.iconst 1, 1) := by decide +kernel
theorem dL_steps_200 : decode cL_steps 200 = .ok (.iload_n 2, 1) := by decide +kernel
theorem dL_steps_201 : decode cL_steps 201 = .ok (.ishl, 1) := by decide +kernel
theorem dL_steps_202 : decode cL_steps 202 = .ok (.iconst 1, 1) := by decide +kernel
theorem dL_steps_203 : decode cL_steps 203 = .ok (.isub, 1) := by decide +kernel
theorem dL_steps_204 : decode cL_steps 204 = .ok (.iload 5, 2) := by decide +kernel
theorem dL_steps_206 : decode cL_steps 206 = .ok (.iconst (-1), 1) := by decide +kernel
theorem dL_steps_207 : decode cL_steps 207 = .ok (.ixor, 1) := by decide +kernel
theorem dL_steps_208 : decode cL_steps 208 = .ok (.iand, 1) := by decide +kernel
theorem dL_steps_209 : decode cL_steps 209 = .ok (.invokevirtual 38, 3) := by decide +kernel
theorem dL_steps_212 : decode cL_steps 212 = .ok (.bipush (-9), 2) := by decide +kernel
theorem dL_steps_214 : decode cL_steps 214 = .ok (.if_icmp .eq 5, 3) := by decide +kernel
theorem dL_steps_217 : decode cL_steps 217 = .ok (.iconst 0, 1) := by decide +kernel
theorem dL_steps_218 : decode cL_steps 218 = .ok (.ireturn, 1) := by decide +kernel
theorem dL_steps_219 : decode cL_steps 219 = .ok (.aload_n 0, 1) := by decide +kernel
theorem dL_steps_220 : decode cL_steps 220 = .ok (.iload 6, 2) := by decide +kernel
theorem dL_steps_222 : decode cL_steps 222 = .ok (.iload 4, 2) := by decide +kernel
theorem dL_steps_224 : decode cL_steps 224 = .ok (.iconst 0, 1) := by decide +kernel
theorem dL_steps_225 : decode cL_steps 225 = .ok (.iload 5, 2) := by decide +kernel
theorem dL_steps_227 : decode cL_steps 227 = .ok (.invokevirtual 41, 3) := by decide +kernel
theorem dL_steps_230 : decode cL_steps 230 = .ok (.istore 10, 2) := by decide +kernel
theorem dL_steps_232 : decode cL_steps 232 = .ok (.iload 10, 2) := by decide +kernel
theorem dL_steps_234 : decode cL_steps 234 = .ok (.bipush (-9), 2) := by decide +kernel
theorem dL_steps_236 : decode cL_steps 236 = .ok (.if_icmp .eq 27, 3) := by decide +kernel
theorem dL_steps_239 : decode cL_steps 239 = .ok (.iload 10, 2) := by decide +kernel
theorem dL_steps_241 : decode cL_steps 241 = .ok (.ifCond .lt 20, 3) := by decide +kernel
theorem dL_steps_244 : decode cL_steps 244 = .ok (.iload 5, 2) := by decide +kernel
theorem dL_steps_246 : decode cL_steps 246 = .ok (.aload_n 0, 1) := by decide +kernel
theorem dL_steps_247 : decode cL_steps 247 = .ok (.iload 4, 2) := by decide +kernel
theorem dL_steps_249 : decode cL_steps 249 = .ok (.iload 10, 2) := by decide +kernel
theorem dL_steps_251 : decode cL_steps 251 = .ok (.invokevirtual 34, 3) := by decide +kernel
theorem dL_steps_254 : decode cL_steps 254 = .ok (.ishr, 1) := by decide +kernel
theorem dL_steps_255 : decode cL_steps 255 = .ok (.iconst 1, 1) := by decide +kernel
theorem dL_steps_256 : decode cL_steps 256 = .ok (.iand, 1) := by decide +kernel
theorem dL_steps_257 : decode cL_steps 257 = .ok (.iconst 1, 1) := by decide +kernel
theorem dL_steps_258 : decode cL_steps 258 = .ok (.if_icmp .ne 5, 3) := by decide +kernel
theorem dL_steps_261 : decode cL_steps 261 = .ok (.iconst 0, 1) := by decide +kernel
theorem dL_steps_262 : decode cL_steps 262 = .ok (.ireturn, 1) := by decide +kernel
theorem dL_steps_263 : decode cL_steps 263 = .ok (.iinc 6 1, 3) := by decide +kernel
theorem dL_steps_266 : decode cL_steps 266 = .ok (.goto (-245), 3) := by decide +kernel
theorem dL_steps_269 : decode cL_steps 269 = .ok (.iconst 1, 1) := by decide +kernel
theorem dL_steps_270 : decode cL_steps 270 = .ok (.ireturn, 1) := by decide +kernel
theorem dL_reads_0 : decode cL_reads 0 = .ok (.aload_n 0, 1) := by decide +kernel
theorem dL_reads_1 : decode cL_reads 1 = .ok (.bipush 60, 2) := by decide +kernel
theorem dL_reads_3 : decode cL_reads 3 = .ok (.invokevirtual 47, 3) := by decide +kernel
theorem dL_reads_6 : decode cL_reads 6 = .ok (.istore 4, 2) := by decide +kernel
theorem dL_reads_8 : decode cL_reads 8 = .ok (.iconst 0, 1) := by decide +kernel
theorem dL_reads_9 : decode cL_reads 9 = .ok (.istore 5, 2) := by decide +kernel
theorem dL_reads_11 : decode cL_reads 11 = .ok (.iload 5, 2) := by decide +kernel
theorem dL_reads_13 : decode cL_reads 13 = .ok (.iload_n 1, 1) := by decide +kernel
theorem dL_reads_14 : decode cL_reads 14 = .ok (.if_icmp .ge 35, 3) := by decide +kernel
theorem dL_reads_17 : decode cL_reads 17 = .ok (.iload_n 2, 1) := by decide +kernel
theorem dL_reads_18 : decode cL_reads 18 = .ok (.iload 5, 2) := by decide +kernel
theorem dL_reads_20 : decode cL_reads 20 = .ok (.ishr, 1) := by decide +kernel
theorem dL_reads_21 : decode cL_reads 21 = .ok (.iconst 1, 1) := by decide +kernel
theorem dL_reads_22 : decode cL_reads 22 = .ok (.iand, 1) := by decide +kernel
theorem dL_reads_23 : decode cL_reads 23 = .ok (.iconst 1, 1) := by decide +kernel
theorem dL_reads_24 : decode cL_reads 24 = .ok (.if_icmp .ne 15, 3) := by decide +kernel
theorem dL_reads_27 : decode cL_reads 27 = .ok (.aload_n 0, 1) := by decide +kernel
theorem dL_reads_28 : decode cL_reads 28 = .ok (.bipush 48, 2) := by decide +kernel
theorem dL_reads_30 : decode cL_reads 30 = .ok (.iload 5, 2) := by decide +kernel
theorem dL_reads_32 : decode cL_reads 32 = .ok (.iadd, 1) := by decide +kernel
theorem dL_reads_33 : decode cL_reads 33 = .ok (.invokevirtual 47, 3) := by decide +kernel
theorem dL_reads_36 : decode cL_reads 36 = .ok (.goto 5, 3) := by decide +kernel
theorem dL_reads_39 : decode cL_reads 39 = .ok (.iload 4, 2) := by decide +kernel
theorem dL_reads_41 : decode cL_reads 41 = .ok (.istore 4, 2) := by decide +kernel
theorem dL_reads_43 : decode cL_reads 43 = .ok (.iinc 5 1, 3) := by decide +kernel
theorem dL_reads_46 : decode cL_reads 46 = .ok (.goto (-35), 3) := by decide +kernel
theorem dL_reads_49 : decode cL_reads 49 = .ok (.aload_n 0, 1) := by decide +kernel
theorem dL_reads_50 : decode cL_reads 50 = .ok (.bipush 62, 2) := by decide +kernel
theorem dL_reads_52 : decode cL_reads 52 = .ok (.invokevirtual 47, 3) := by decide +kernel
theorem dL_reads_55 : decode cL_reads 55 = .ok (.istore 4, 2) := by decide +kernel
theorem dL_reads_57 : decode cL_reads 57 = .ok (.aload_n 0, 1) := by decide +kernel
theorem dL_reads_58 : decode cL_reads 58 = .ok (.iload_n 3, 1) := by decide +kernel
theorem dL_reads_59 : decode cL_reads 59 = .ok (.ifCond .ne 8, 3) := by decide +kernel
theorem dL_reads_62 : decode cL_reads 62 = .ok (.bipush 88, 2) := by decide +kernel
theorem dL_reads_64 : decode cL_reads 64 = .ok (.goto 25, 3) := by decide +kernel
theorem dL_reads_67 : decode cL_reads 67 = .ok (.iload_n 3, 1) := by decide +kernel
theorem dL_reads_68 : decode cL_reads 68 = .ok (.iconst 1, 1) := by decide +kernel
theorem dL_reads_69 : decode cL_reads 69 = .ok (.if_icmp .ne 8, 3) := by decide +kernel
theorem dL_reads_72 : decode cL_reads 72 = .ok (.bipush 70, 2) := by decide +kernel
theorem dL_reads_74 : decode cL_reads 74 = .ok (.goto 15, 3) := by decide +kernel
theorem dL_reads_77 : decode cL_reads 77 = .ok (.iload_n 3, 1) := by decide +kernel
theorem dL_reads_78 : decode cL_reads 78 = .ok (.iconst 2, 1) := by decide +kernel
theorem dL_reads_79 : decode cL_reads 79 = .ok (.if_icmp .ne 8, 3) := by decide +kernel
theorem dL_reads_82 : decode cL_reads 82 = .ok (.bipush 71, 2) := by decide +kernel
theorem dL_reads_84 : decode cL_reads 84 = .ok (.goto 5, 3) := by decide +kernel
theorem dL_reads_87 : decode cL_reads 87 = .ok (.bipush 40, 2) := by decide +kernel
theorem dL_reads_89 : decode cL_reads 89 = .ok (.invokevirtual 47, 3) := by decide +kernel
theorem dL_reads_92 : decode cL_reads 92 = .ok (.istore 4, 2) := by decide +kernel
theorem dL_reads_94 : decode cL_reads 94 = .ok (.aload_n 0, 1) := by decide +kernel
theorem dL_reads_95 : decode cL_reads 95 = .ok (.bipush 97, 2) := by decide +kernel
theorem dL_reads_97 : decode cL_reads 97 = .ok (.invokevirtual 47, 3) := by decide +kernel
theorem dL_reads_100 : decode cL_reads 100 = .ok (.istore 4, 2) := by decide +kernel
theorem dL_reads_102 : decode cL_reads 102 = .ok (.iload_n 3, 1) := by decide +kernel
theorem dL_reads_103 : decode cL_reads 103 = .ok (.iconst 3, 1) := by decide +kernel
theorem dL_reads_104 : decode cL_reads 104 = .ok (.if_icmp .ne 27, 3) := by decide +kernel
theorem dL_reads_107 : decode cL_reads 107 = .ok (.aload_n 0, 1) := by decide +kernel
theorem dL_reads_108 : decode cL_reads 108 = .ok (.bipush 85, 2) := by decide +kernel
theorem dL_reads_110 : decode cL_reads 110 = .ok (.invokevirtual 47, 3) := by decide +kernel
theorem dL_reads_113 : decode cL_reads 113 = .ok (.istore 4, 2) := by decide +kernel
theorem dL_reads_115 : decode cL_reads 115 = .ok (.aload_n 0, 1) := by decide +kernel
theorem dL_reads_116 : decode cL_reads 116 = .ok (.bipush 98, 2) := by decide +kernel
theorem dL_reads_118 : decode cL_reads 118 = .ok (.invokevirtual 47, 3) := by decide +kernel
theorem dL_reads_121 : decode cL_reads 121 = .ok (.istore 4, 2) := by decide +kernel
theorem dL_reads_123 : decode cL_reads 123 = .ok (.aload_n 0, 1) := by decide +kernel
theorem dL_reads_124 : decode cL_reads 124 = .ok (.bipush 41, 2) := by decide +kernel
theorem dL_reads_126 : decode cL_reads 126 = .ok (.invokevirtual 47, 3) := by decide +kernel
theorem dL_reads_129 : decode cL_reads 129 = .ok (.istore 4, 2) := by decide +kernel
theorem dL_reads_131 : decode cL_reads 131 = .ok (.iload 4, 2) := by decide +kernel
theorem dL_reads_133 : decode cL_reads 133 = .ok (.ifCond .le 10, 3) := by decide +kernel
theorem dL_reads_136 : decode cL_reads 136 = .ok (.aload_n 0, 1) := by decide +kernel
theorem dL_reads_137 : decode cL_reads 137 = .ok (.invokevirtual 87, 3) := by decide +kernel
theorem dL_reads_140 : decode cL_reads 140 = .ok (.goto 4, 3) := by decide +kernel
theorem dL_reads_143 : decode cL_reads 143 = .ok (.iconst (-1), 1) := by decide +kernel
theorem dL_reads_144 : decode cL_reads 144 = .ok (.ireturn, 1) := by decide +kernel
theorem dL_enforces_0 : decode cL_enforces 0 = .ok (.aload_n 0, 1) := by decide +kernel
theorem dL_enforces_1 : decode cL_enforces 1 = .ok (.iload_n 1, 1) := by decide +kernel
theorem dL_enforces_2 : decode cL_enforces 2 = .ok (.invokevirtual 90, 3) := by decide +kernel
theorem dL_enforces_5 : decode cL_enforces 5 = .ok (.iconst 1, 1) := by decide +kernel
theorem dL_enforces_6 : decode cL_enforces 6 = .ok (.isub, 1) := by decide +kernel
theorem dL_enforces_7 : decode cL_enforces 7 = .ok (.istore 7, 2) := by decide +kernel
theorem dL_enforces_9 : decode cL_enforces 9 = .ok (.aload_n 0, 1) := by decide +kernel
theorem dL_enforces_10 : decode cL_enforces 10 = .ok (.iload_n 1, 1) := by decide +kernel
theorem dL_enforces_11 : decode cL_enforces 11 = .ok (.iload 7, 2) := by decide +kernel
theorem dL_enforces_13 : decode cL_enforces 13 = .ok (.invokevirtual 50, 3) := by decide +kernel
theorem dL_enforces_16 : decode cL_enforces 16 = .ok (.istore 8, 2) := by decide +kernel
theorem dL_enforces_18 : decode cL_enforces 18 = .ok (.iload 7, 2) := by decide +kernel
theorem dL_enforces_20 : decode cL_enforces 20 = .ok (.iload_n 2, 1) := by decide +kernel
theorem dL_enforces_21 : decode cL_enforces 21 = .ok (.iconst 3, 1) := by decide +kernel
theorem dL_enforces_22 : decode cL_enforces 22 = .ok (.if_icmp .ne 7, 3) := by decide +kernel
theorem dL_enforces_25 : decode cL_enforces 25 = .ok (.iconst 2, 1) := by decide +kernel
theorem dL_enforces_26 : decode cL_enforces 26 = .ok (.goto 4, 3) := by decide +kernel
theorem dL_enforces_29 : decode cL_enforces 29 = .ok (.iconst 1, 1) := by decide +kernel
theorem dL_enforces_30 : decode cL_enforces 30 = .ok (.if_icmp .ne 16, 3) := by decide +kernel
theorem dL_enforces_33 : decode cL_enforces 33 = .ok (.aload_n 0, 1) := by decide +kernel
theorem dL_enforces_34 : decode cL_enforces 34 = .ok (.iload_n 1, 1) := by decide +kernel
theorem dL_enforces_35 : decode cL_enforces 35 = .ok (.invokevirtual 93, 3) := by decide +kernel
theorem dL_enforces_38 : decode cL_enforces 38 = .ok (.iload 8, 2) := by decide +kernel
theorem dL_enforces_40 : decode cL_enforces 40 = .ok (.iconst (-1), 1) := by decide +kernel
theorem dL_enforces_41 : decode cL_enforces 41 = .ok (.ixor, 1) := by decide +kernel
theorem dL_enforces_42 : decode cL_enforces 42 = .ok (.iand, 1) := by decide +kernel
theorem dL_enforces_43 : decode cL_enforces 43 = .ok (.ifCond .eq 5, 3) := by decide +kernel
theorem dL_enforces_46 : decode cL_enforces 46 = .ok (.iconst 0, 1) := by decide +kernel
theorem dL_enforces_47 : decode cL_enforces 47 = .ok (.ireturn, 1) := by decide +kernel
theorem dL_enforces_48 : decode cL_enforces 48 = .ok (.aload_n 0, 1) := by decide +kernel
theorem dL_enforces_49 : decode cL_enforces 49 = .ok (.iload_n 1, 1) := by decide +kernel
theorem dL_enforces_50 : decode cL_enforces 50 = .ok (.invokevirtual 96, 3) := by decide +kernel
theorem dL_enforces_53 : decode cL_enforces 53 = .ok (.istore 9, 2) := by decide +kernel
theorem dL_enforces_55 : decode cL_enforces 55 = .ok (.iload 9, 2) := by decide +kernel
theorem dL_enforces_57 : decode cL_enforces 57 = .ok (.ifCond .lt 13, 3) := by decide +kernel
theorem dL_enforces_60 : decode cL_enforces 60 = .ok (.aload_n 0, 1) := by decide +kernel
theorem dL_enforces_61 : decode cL_enforces 61 = .ok (.iload_n 1, 1) := by decide +kernel
theorem dL_enforces_62 : decode cL_enforces 62 = .ok (.invokevirtual 93, 3) := by decide +kernel
theorem dL_enforces_65 : decode cL_enforces 65 = .ok (.iload 8, 2) := by decide +kernel
theorem dL_enforces_67 : decode cL_enforces 67 = .ok (.if_icmp .eq 5, 3) := by decide +kernel
theorem dL_enforces_70 : decode cL_enforces 70 = .ok (.iconst 0, 1) := by decide +kernel
theorem dL_enforces_71 : decode cL_enforces 71 = .ok (.ireturn, 1) := by decide +kernel
theorem dL_enforces_72 : decode cL_enforces 72 = .ok (.iconst 0, 1) := by decide +kernel
theorem dL_enforces_73 : decode cL_enforces 73 = .ok (.istore 10, 2) := by decide +kernel
theorem dL_enforces_75 : decode cL_enforces 75 = .ok (.iload 10, 2) := by decide +kernel
theorem dL_enforces_77 : decode cL_enforces 77 = .ok (.iload 5, 2) := by decide +kernel
theorem dL_enforces_79 : decode cL_enforces 79 = .ok (.if_icmp .ge 184, 3) := by decide +kernel
theorem dL_enforces_82 : decode cL_enforces 82 = .ok (.aload_n 0, 1) := by decide +kernel
theorem dL_enforces_83 : decode cL_enforces 83 = .ok (.iload_n 1, 1) := by decide +kernel
theorem dL_enforces_84 : decode cL_enforces 84 = .ok (.iload 10, 2) := by decide +kernel
theorem dL_enforces_86 : decode cL_enforces 86 = .ok (.invokevirtual 99, 3) := by decide +kernel
theorem dL_enforces_89 : decode cL_enforces 89 = .ok (.istore 11, 2) := by decide +kernel
theorem dL_enforces_91 : decode cL_enforces 91 = .ok (.aload_n 0, 1) := by decide +kernel
theorem dL_enforces_92 : decode cL_enforces 92 = .ok (.iload_n 1, 1) := by decide +kernel
theorem dL_enforces_93 : decode cL_enforces 93 = .ok (.iload 10, 2) := by decide +kernel
theorem dL_enforces_95 : decode cL_enforces 95 = .ok (.invokevirtual 53, 3) := by decide +kernel
theorem dL_enforces_98 : decode cL_enforces 98 = .ok (.iconst 1, 1) := by decide +kernel
theorem dL_enforces_99 : decode cL_enforces 99 = .ok (.if_icmp .ne 7, 3) := by decide +kernel
theorem dL_enforces_102 : decode cL_enforces 102 = .ok (.iconst 1, 1) := by decide +kernel
theorem dL_enforces_103 : decode cL_enforces 103 = .ok (.goto 4, 3) := by decide +kernel
theorem dL_enforces_106 : decode cL_enforces 106 = .ok (.iconst 0, 1) := by decide +kernel
theorem dL_enforces_107 : decode cL_enforces 107 = .ok (.istore 12, 2) := by decide +kernel
theorem dL_enforces_109 : decode cL_enforces 109 = .ok (.iload 12, 2) := by decide +kernel
theorem dL_enforces_111 : decode cL_enforces 111 = .ok (.iload 8, 2) := by decide +kernel
theorem dL_enforces_113 : decode cL_enforces 113 = .ok (.iload 10, 2) := by decide +kernel
theorem dL_enforces_115 : decode cL_enforces 115 = .ok (.ishr, 1) := by decide +kernel
theorem dL_enforces_116 : decode cL_enforces 116 = .ok (.iconst 1, 1) := by decide +kernel
theorem dL_enforces_117 : decode cL_enforces 117 = .ok (.iand, 1) := by decide +kernel
theorem dL_enforces_118 : decode cL_enforces 118 = .ok (.iconst 1, 1) := by decide +kernel
theorem dL_enforces_119 : decode cL_enforces 119 = .ok (.if_icmp .ne 7, 3) := by decide +kernel
theorem dL_enforces_122 : decode cL_enforces 122 = .ok (.iconst 1, 1) := by decide +kernel
theorem dL_enforces_123 : decode cL_enforces 123 = .ok (.goto 4, 3) := by decide +kernel
theorem dL_enforces_126 : decode cL_enforces 126 = .ok (.iconst 0, 1) := by decide +kernel
theorem dL_enforces_127 : decode cL_enforces 127 = .ok (.if_icmp .ne 40, 3) := by decide +kernel
theorem dL_enforces_130 : decode cL_enforces 130 = .ok (.iload_n 2, 1) := by decide +kernel
theorem dL_enforces_131 : decode cL_enforces 131 = .ok (.iconst 1, 1) := by decide +kernel
theorem dL_enforces_132 : decode cL_enforces 132 = .ok (.if_icmp .eq 8, 3) := by decide +kernel
theorem dL_enforces_135 : decode cL_enforces 135 = .ok (.iload_n 2, 1) := by decide +kernel
theorem dL_enforces_136 : decode cL_enforces 136 = .ok (.iconst 3, 1) := by decide +kernel
theorem dL_enforces_137 : decode cL_enforces 137 = .ok (.if_icmp .ne 23, 3) := by decide +kernel
theorem dL_enforces_140 : decode cL_enforces 140 = .ok (.iload 11, 2) := by decide +kernel
theorem dL_enforces_142 : decode cL_enforces 142 = .ok (.bipush (-9), 2) := by decide +kernel
theorem dL_enforces_144 : decode cL_enforces 144 = .ok (.if_icmp .ne 7, 3) := by decide +kernel
theorem dL_enforces_147 : decode cL_enforces 147 = .ok (.iconst 1, 1) := by decide +kernel
theorem dL_enforces_148 : decode cL_enforces 148 = .ok (.goto 4, 3) := by decide +kernel
theorem dL_enforces_151 : decode cL_enforces 151 = .ok (.iconst 0, 1) := by decide +kernel
theorem dL_enforces_152 : decode cL_enforces 152 = .ok (.iload 12, 2) := by decide +kernel
theorem dL_enforces_154 : decode cL_enforces 154 = .ok (.if_icmp .ne 15, 3) := by decide +kernel
theorem dL_enforces_157 : decode cL_enforces 157 = .ok (.goto 10, 3) := by decide +kernel
theorem dL_enforces_160 : decode cL_enforces 160 = .ok (.iload 11, 2) := by decide +kernel
theorem dL_enforces_162 : decode cL_enforces 162 = .ok (.bipush (-3), 2) := by decide +kernel
theorem dL_enforces_164 : decode cL_enforces 164 = .ok (.if_icmp .eq 5, 3) := by decide +kernel
theorem dL_enforces_167 : decode cL_enforces 167 = .ok (.iconst 0, 1) := by decide +kernel
theorem dL_enforces_168 : decode cL_enforces 168 = .ok (.ireturn, 1) := by decide +kernel
theorem dL_enforces_169 : decode cL_enforces 169 = .ok (.aload_n 0, 1) := by decide +kernel
theorem dL_enforces_170 : decode cL_enforces 170 = .ok (.iload_n 1, 1) := by decide +kernel
theorem dL_enforces_171 : decode cL_enforces 171 = .ok (.iload 10, 2) := by decide +kernel
theorem dL_enforces_173 : decode cL_enforces 173 = .ok (.invokevirtual 102, 3) := by decide +kernel
theorem dL_enforces_176 : decode cL_enforces 176 = .ok (.istore 13, 2) := by decide +kernel
theorem dL_enforces_178 : decode cL_enforces 178 = .ok (.iconst 0, 1) := by decide +kernel
theorem dL_enforces_179 : decode cL_enforces 179 = .ok (.istore 14, 2) := by decide +kernel
theorem dL_enforces_181 : decode cL_enforces 181 = .ok (.iload 14, 2) := by decide +kernel
theorem dL_enforces_183 : decode cL_enforces 183 = .ok (.iload 4, 2) := by decide +kernel
theorem dL_enforces_185 : decode cL_enforces 185 = .ok (.if_icmp .ge 42, 3) := by decide +kernel
theorem dL_enforces_188 : decode cL_enforces 188 = .ok (.iload_n 3, 1) := by decide +kernel
theorem dL_enforces_189 : decode cL_enforces 189 = .ok (.iload 14, 2) := by decide +kernel
theorem dL_enforces_191 : decode cL_enforces 191 = .ok (.ishr, 1) := by decide +kernel
theorem dL_enforces_192 : decode cL_enforces 192 = .ok (.iconst 1, 1) := by decide +kernel
theorem dL_enforces_193 : decode cL_enforces 193 = .ok (.iand, 1) := by decide +kernel
theorem dL_enforces_194 : decode cL_enforces 194 = .ok (.iconst 1, 1) := by decide +kernel
theorem dL_enforces_195 : decode cL_enforces 195 = .ok (.if_icmp .ne 26, 3) := by decide +kernel
theorem dL_enforces_198 : decode cL_enforces 198 = .ok (.aload_n 0, 1) := by decide +kernel
theorem dL_enforces_199 : decode cL_enforces 199 = .ok (.iload 10, 2) := by decide +kernel
theorem dL_enforces_201 : decode cL_enforces 201 = .ok (.iload 14, 2) := by decide +kernel
theorem dL_enforces_203 : decode cL_enforces 203 = .ok (.invokevirtual 59, 3) := by decide +kernel
theorem dL_enforces_206 : decode cL_enforces 206 = .ok (.iload 13, 2) := by decide +kernel
theorem dL_enforces_208 : decode cL_enforces 208 = .ok (.iload 14, 2) := by decide +kernel
theorem dL_enforces_210 : decode cL_enforces 210 = .ok (.invokestatic 105, 3) := by decide +kernel
theorem dL_enforces_213 : decode cL_enforces 213 = .ok (.idiv, 1) := by decide +kernel
theorem dL_enforces_214 : decode cL_enforces 214 = .ok (.iconst 3, 1) := by decide +kernel
theorem dL_enforces_215 : decode cL_enforces 215 = .ok (.irem, 1) := by decide +kernel
theorem dL_enforces_216 : decode cL_enforces 216 = .ok (.if_icmp .eq 5, 3) := by decide +kernel
theorem dL_enforces_219 : decode cL_enforces 219 = .ok (.iconst 0, 1) := by decide +kernel
theorem dL_enforces_220 : decode cL_enforces 220 = .ok (.ireturn, 1) := by decide +kernel
theorem dL_enforces_221 : decode cL_enforces 221 = .ok (.iinc 14 1, 3) := by decide +kernel
theorem dL_enforces_224 : decode cL_enforces 224 = .ok (.goto (-43), 3) := by decide +kernel
theorem dL_enforces_227 : decode cL_enforces 227 = .ok (.aload_n 0, 1) := by decide +kernel
theorem dL_enforces_228 : decode cL_enforces 228 = .ok (.iload_n 1, 1) := by decide +kernel
theorem dL_enforces_229 : decode cL_enforces 229 = .ok (.iload 10, 2) := by decide +kernel
theorem dL_enforces_231 : decode cL_enforces 231 = .ok (.invokevirtual 108, 3) := by decide +kernel
theorem dL_enforces_234 : decode cL_enforces 234 = .ok (.istore 14, 2) := by decide +kernel
theorem dL_enforces_236 : decode cL_enforces 236 = .ok (.iload 12, 2) := by decide +kernel
theorem dL_enforces_238 : decode cL_enforces 238 = .ok (.ifCond .eq 11, 3) := by decide +kernel
theorem dL_enforces_241 : decode cL_enforces 241 = .ok (.iload 14, 2) := by decide +kernel
theorem dL_enforces_243 : decode cL_enforces 243 = .ok (.ifCond .ge 14, 3) := by decide +kernel
theorem dL_enforces_246 : decode cL_enforces 246 = .ok (.goto 9, 3) := by decide +kernel
theorem dL_enforces_249 : decode cL_enforces 249 = .ok (.iload 14, 2) := by decide +kernel
theorem dL_enforces_251 : decode cL_enforces 251 = .ok (.iload_n 3, 1) := by decide +kernel
theorem dL_enforces_252 : decode cL_enforces 252 = .ok (.if_icmp .ne 5, 3) := by decide +kernel
theorem dL_enforces_255 : decode cL_enforces 255 = .ok (.iconst 0, 1) := by decide +kernel
theorem dL_enforces_256 : decode cL_enforces 256 = .ok (.ireturn, 1) := by decide +kernel
theorem dL_enforces_257 : decode cL_enforces 257 = .ok (.iinc 10 1, 3) := by decide +kernel
theorem dL_enforces_260 : decode cL_enforces 260 = .ok (.goto (-185), 3) := by decide +kernel
theorem dL_enforces_263 : decode cL_enforces 263 = .ok (.iload 8, 2) := by decide +kernel
theorem dL_enforces_265 : decode cL_enforces 265 = .ok (.ifCond .eq 92, 3) := by decide +kernel
theorem dL_enforces_268 : decode cL_enforces 268 = .ok (.iload_n 2, 1) := by decide +kernel
theorem dL_enforces_269 : decode cL_enforces 269 = .ok (.iconst 1, 1) := by decide +kernel
theorem dL_enforces_270 : decode cL_enforces 270 = .ok (.if_icmp .eq 8, 3) := by decide +kernel
theorem dL_enforces_273 : decode cL_enforces 273 = .ok (.iload_n 2, 1) := by decide +kernel
theorem dL_enforces_274 : decode cL_enforces 274 = .ok (.iconst 2, 1) := by decide +kernel
theorem dL_enforces_275 : decode cL_enforces 275 = .ok (.if_icmp .ne 82, 3) := by decide +kernel
theorem dL_enforces_278 : decode cL_enforces 278 = .ok (.iconst 0, 1) := by decide +kernel
theorem dL_enforces_279 : decode cL_enforces 279 = .ok (.istore 10, 2) := by decide +kernel
theorem dL_enforces_281 : decode cL_enforces 281 = .ok (.iload 8, 2) := by decide +kernel
theorem dL_enforces_283 : decode cL_enforces 283 = .ok (.iload 10, 2) := by decide +kernel
theorem dL_enforces_285 : decode cL_enforces 285 = .ok (.ishr, 1) := by decide +kernel
theorem dL_enforces_286 : decode cL_enforces 286 = .ok (.iconst 1, 1) := by decide +kernel
theorem dL_enforces_287 : decode cL_enforces 287 = .ok (.iand, 1) := by decide +kernel
theorem dL_enforces_288 : decode cL_enforces 288 = .ok (.ifCond .ne 9, 3) := by decide +kernel
theorem dL_enforces_291 : decode cL_enforces 291 = .ok (.iinc 10 1, 3) := by decide +kernel
theorem dL_enforces_294 : decode cL_enforces 294 = .ok (.goto (-13), 3) := by decide +kernel
theorem dL_enforces_297 : decode cL_enforces 297 = .ok (.aload_n 0, 1) := by decide +kernel
theorem dL_enforces_298 : decode cL_enforces 298 = .ok (.iload_n 1, 1) := by decide +kernel
theorem dL_enforces_299 : decode cL_enforces 299 = .ok (.iload 10, 2) := by decide +kernel
theorem dL_enforces_301 : decode cL_enforces 301 = .ok (.iload 6, 2) := by decide +kernel
theorem dL_enforces_303 : decode cL_enforces 303 = .ok (.bipush 40, 2) := by decide +kernel
theorem dL_enforces_305 : decode cL_enforces 305 = .ok (.invokestatic 75, 3) := by decide +kernel
theorem dL_enforces_308 : decode cL_enforces 308 = .ok (.iload 6, 2) := by decide +kernel
theorem dL_enforces_310 : decode cL_enforces 310 = .ok (.invokevirtual 111, 3) := by decide +kernel
theorem dL_enforces_313 : decode cL_enforces 313 = .ok (.istore 11, 2) := by decide +kernel
theorem dL_enforces_315 : decode cL_enforces 315 = .ok (.iload_n 2, 1) := by decide +kernel
theorem dL_enforces_316 : decode cL_enforces 316 = .ok (.iconst 2, 1) := by decide +kernel
theorem dL_enforces_317 : decode cL_enforces 317 = .ok (.if_icmp .ne 22, 3) := by decide +kernel
theorem dL_enforces_320 : decode cL_enforces 320 = .ok (.iload 8, 2) := by decide +kernel
theorem dL_enforces_322 : decode cL_enforces 322 = .ok (.iload 11, 2) := by decide +kernel
theorem dL_enforces_324 : decode cL_enforces 324 = .ok (.ishr, 1) := by decide +kernel
theorem dL_enforces_325 : decode cL_enforces 325 = .ok (.iconst 1, 1) := by decide +kernel
theorem dL_enforces_326 : decode cL_enforces 326 = .ok (.iand, 1) := by decide +kernel
theorem dL_enforces_327 : decode cL_enforces 327 = .ok (.iconst 1, 1) := by decide +kernel
theorem dL_enforces_328 : decode cL_enforces 328 = .ok (.if_icmp .ne 7, 3) := by decide +kernel
theorem dL_enforces_331 : decode cL_enforces 331 = .ok (.iconst 1, 1) := by decide +kernel
theorem dL_enforces_332 : decode cL_enforces 332 = .ok (.goto 24, 3) := by decide +kernel
theorem dL_enforces_335 : decode cL_enforces 335 = .ok (.iconst 0, 1) := by decide +kernel
theorem dL_enforces_336 : decode cL_enforces 336 = .ok (.goto 20, 3) := by decide +kernel
theorem dL_enforces_339 : decode cL_enforces 339 = .ok (.iload 11, 2) := by decide +kernel
theorem dL_enforces_341 : decode cL_enforces 341 = .ok (.ifCond .lt 14, 3) := by decide +kernel
theorem dL_enforces_344 : decode cL_enforces 344 = .ok (.iload 11, 2) := by decide +kernel
theorem dL_enforces_346 : decode cL_enforces 346 = .ok (.iload 5, 2) := by decide +kernel
theorem dL_enforces_348 : decode cL_enforces 348 = .ok (.if_icmp .ge 7, 3) := by decide +kernel
theorem dL_enforces_351 : decode cL_enforces 351 = .ok (.iconst 1, 1) := by decide +kernel
theorem dL_enforces_352 : decode cL_enforces 352 = .ok (.goto 4, 3) := by decide +kernel
theorem dL_enforces_355 : decode cL_enforces 355 = .ok (.iconst 0, 1) := by decide +kernel
theorem dL_enforces_356 : decode cL_enforces 356 = .ok (.ireturn, 1) := by decide +kernel
theorem dL_enforces_357 : decode cL_enforces 357 = .ok (.iconst 1, 1) := by decide +kernel
theorem dL_enforces_358 : decode cL_enforces 358 = .ok (.ireturn, 1) := by decide +kernel
theorem dL_undoes_0 : decode cL_undoes 0 = .ok (.aload_n 0, 1) := by decide +kernel
theorem dL_undoes_1 : decode cL_undoes 1 = .ok (.invokevirtual 9, 3) := by decide +kernel
theorem dL_undoes_4 : decode cL_undoes 4 = .ok (.lstore 4, 2) := by decide +kernel
theorem dL_undoes_6 : decode cL_undoes 6 = .ok (.iload_n 3, 1) := by decide +kernel
theorem dL_undoes_7 : decode cL_undoes 7 = .ok (.iload_n 2, 1) := by decide +kernel
theorem dL_undoes_8 : decode cL_undoes 8 = .ok (.invokestatic 75, 3) := by decide +kernel
theorem dL_undoes_11 : decode cL_undoes 11 = .ok (.istore 6, 2) := by decide +kernel
theorem dL_undoes_13 : decode cL_undoes 13 = .ok (.iload_n 3, 1) := by decide +kernel
theorem dL_undoes_14 : decode cL_undoes 14 = .ok (.iconst 3, 1) := by decide +kernel
theorem dL_undoes_15 : decode cL_undoes 15 = .ok (.ishr, 1) := by decide +kernel
theorem dL_undoes_16 : decode cL_undoes 16 = .ok (.iload_n 1, 1) := by decide +kernel
theorem dL_undoes_17 : decode cL_undoes 17 = .ok (.invokestatic 75, 3) := by decide +kernel
theorem dL_undoes_20 : decode cL_undoes 20 = .ok (.istore 7, 2) := by decide +kernel
theorem dL_undoes_22 : decode cL_undoes 22 = .ok (.aload_n 0, 1) := by decide +kernel
theorem dL_undoes_23 : decode cL_undoes 23 = .ok (.iload 6, 2) := by decide +kernel
theorem dL_undoes_25 : decode cL_undoes 25 = .ok (.iload 7, 2) := by decide +kernel
theorem dL_undoes_27 : decode cL_undoes 27 = .ok (.iconst 2, 1) := by decide +kernel
theorem dL_undoes_28 : decode cL_undoes 28 = .ok (.invokevirtual 15, 3) := by decide +kernel
theorem dL_undoes_31 : decode cL_undoes 31 = .ok (.iconst 1, 1) := by decide +kernel
theorem dL_undoes_32 : decode cL_undoes 32 = .ok (.if_icmp .lt 46, 3) := by decide +kernel
theorem dL_undoes_35 : decode cL_undoes 35 = .ok (.aload_n 0, 1) := by decide +kernel
theorem dL_undoes_36 : decode cL_undoes 36 = .ok (.iload 6, 2) := by decide +kernel
theorem dL_undoes_38 : decode cL_undoes 38 = .ok (.iload 7, 2) := by decide +kernel
theorem dL_undoes_40 : decode cL_undoes 40 = .ok (.iconst 1, 1) := by decide +kernel
theorem dL_undoes_41 : decode cL_undoes 41 = .ok (.iload_n 3, 1) := by decide +kernel
theorem dL_undoes_42 : decode cL_undoes 42 = .ok (.iconst 5, 1) := by decide +kernel
theorem dL_undoes_43 : decode cL_undoes 43 = .ok (.ishr, 1) := by decide +kernel
theorem dL_undoes_44 : decode cL_undoes 44 = .ok (.iload_n 2, 1) := by decide +kernel
theorem dL_undoes_45 : decode cL_undoes 45 = .ok (.invokestatic 75, 3) := by decide +kernel
theorem dL_undoes_48 : decode cL_undoes 48 = .ok (.invokevirtual 30, 3) := by decide +kernel
theorem dL_undoes_51 : decode cL_undoes 51 = .ok (.ifCond .lt 27, 3) := by decide +kernel
theorem dL_undoes_54 : decode cL_undoes 54 = .ok (.aload_n 0, 1) := by decide +kernel
theorem dL_undoes_55 : decode cL_undoes 55 = .ok (.iload 6, 2) := by decide +kernel
theorem dL_undoes_57 : decode cL_undoes 57 = .ok (.bipush 99, 2) := by decide +kernel
theorem dL_undoes_59 : decode cL_undoes 59 = .ok (.iconst 1, 1) := by decide +kernel
theorem dL_undoes_60 : decode cL_undoes 60 = .ok (.invokevirtual 19, 3) := by decide +kernel
theorem dL_undoes_63 : decode cL_undoes 63 = .ok (.ifCond .ne 15, 3) := by decide +kernel
theorem dL_undoes_66 : decode cL_undoes 66 = .ok (.aload_n 0, 1) := by decide +kernel
theorem dL_undoes_67 : decode cL_undoes 67 = .ok (.iload 6, 2) := by decide +kernel
theorem dL_undoes_69 : decode cL_undoes 69 = .ok (.iload 7, 2) := by decide +kernel
theorem dL_undoes_71 : decode cL_undoes 71 = .ok (.iconst 1, 1) := by decide +kernel
theorem dL_undoes_72 : decode cL_undoes 72 = .ok (.invokevirtual 56, 3) := by decide +kernel
theorem dL_undoes_75 : decode cL_undoes 75 = .ok (.ifCond .ge 5, 3) := by decide +kernel
theorem dL_undoes_78 : decode cL_undoes 78 = .ok (.iconst 0, 1) := by decide +kernel
theorem dL_undoes_79 : decode cL_undoes 79 = .ok (.ireturn, 1) := by decide +kernel
theorem dL_undoes_80 : decode cL_undoes 80 = .ok (.iconst 0, 1) := by decide +kernel
theorem dL_undoes_81 : decode cL_undoes 81 = .ok (.istore 8, 2) := by decide +kernel
theorem dL_undoes_83 : decode cL_undoes 83 = .ok (.iload 8, 2) := by decide +kernel
theorem dL_undoes_85 : decode cL_undoes 85 = .ok (.iconst 4, 1) := by decide +kernel
theorem dL_undoes_86 : decode cL_undoes 86 = .ok (.if_icmp .ge 18, 3) := by decide +kernel
theorem dL_undoes_89 : decode cL_undoes 89 = .ok (.aload_n 0, 1) := by decide +kernel
theorem dL_undoes_90 : decode cL_undoes 90 = .ok (.invokevirtual 114, 3) := by decide +kernel
theorem dL_undoes_93 : decode cL_undoes 93 = .ok (.ifCond .ge 5, 3) := by decide +kernel
theorem dL_undoes_96 : decode cL_undoes 96 = .ok (.iconst 0, 1) := by decide +kernel
theorem dL_undoes_97 : decode cL_undoes 97 = .ok (.ireturn, 1) := by decide +kernel
theorem dL_undoes_98 : decode cL_undoes 98 = .ok (.iinc 8 1, 3) := by decide +kernel
theorem dL_undoes_101 : decode cL_undoes 101 = .ok (.goto (-18), 3) := by decide +kernel
theorem dL_undoes_104 : decode cL_undoes 104 = .ok (.aload_n 0, 1) := by decide +kernel
theorem dL_undoes_105 : decode cL_undoes 105 = .ok (.invokevirtual 9, 3) := by decide +kernel
theorem dL_undoes_108 : decode cL_undoes 108 = .ok (.lload 4, 2) := by decide +kernel
theorem dL_undoes_110 : decode cL_undoes 110 = .ok (.lcmp, 1) := by decide +kernel
theorem dL_undoes_111 : decode cL_undoes 111 = .ok (.ifCond .ne 16, 3) := by decide +kernel
theorem dL_undoes_114 : decode cL_undoes 114 = .ok (.aload_n 0, 1) := by decide +kernel
theorem dL_undoes_115 : decode cL_undoes 115 = .ok (.invokevirtual 114, 3) := by decide +kernel
theorem dL_undoes_118 : decode cL_undoes 118 = .ok (.bipush (-9), 2) := by decide +kernel
theorem dL_undoes_120 : decode cL_undoes 120 = .ok (.if_icmp .ne 7, 3) := by decide +kernel
theorem dL_undoes_123 : decode cL_undoes 123 = .ok (.iconst 1, 1) := by decide +kernel
theorem dL_undoes_124 : decode cL_undoes 124 = .ok (.goto 4, 3) := by decide +kernel
theorem dL_undoes_127 : decode cL_undoes 127 = .ok (.iconst 0, 1) := by decide +kernel
theorem dL_undoes_128 : decode cL_undoes 128 = .ok (.ireturn, 1) := by decide +kernel
theorem dL_law_0 : decode cL_law 0 = .ok (.iconst 1, 1) := by decide +kernel
theorem dL_law_1 : decode cL_law 1 = .ok (.aload_n 0, 1) := by decide +kernel
theorem dL_law_2 : decode cL_law 2 = .ok (.iconst 0, 1) := by decide +kernel
theorem dL_law_3 : decode cL_law 3 = .ok (.invokestatic 69, 3) := by decide +kernel
theorem dL_law_6 : decode cL_law 6 = .ok (.iconst 3, 1) := by decide +kernel
theorem dL_law_7 : decode cL_law 7 = .ok (.invokestatic 75, 3) := by decide +kernel
theorem dL_law_10 : decode cL_law 10 = .ok (.iadd, 1) := by decide +kernel
theorem dL_law_11 : decode cL_law 11 = .ok (.istore_n 1, 1) := by decide +kernel
theorem dL_law_12 : decode cL_law 12 = .ok (.iconst 1, 1) := by decide +kernel
theorem dL_law_13 : decode cL_law 13 = .ok (.aload_n 0, 1) := by decide +kernel
theorem dL_law_14 : decode cL_law 14 = .ok (.iconst 1, 1) := by decide +kernel
theorem dL_law_15 : decode cL_law 15 = .ok (.invokestatic 69, 3) := by decide +kernel
theorem dL_law_18 : decode cL_law 18 = .ok (.iconst 5, 1) := by decide +kernel
theorem dL_law_19 : decode cL_law 19 = .ok (.invokestatic 75, 3) := by decide +kernel
theorem dL_law_22 : decode cL_law 22 = .ok (.iadd, 1) := by decide +kernel
theorem dL_law_23 : decode cL_law 23 = .ok (.istore_n 2, 1) := by decide +kernel
theorem dL_law_24 : decode cL_law 24 = .ok (.new 10, 3) := by decide +kernel
theorem dL_law_27 : decode cL_law 27 = .ok (.dup, 1) := by decide +kernel
theorem dL_law_28 : decode cL_law 28 = .ok (.iload_n 1, 1) := by decide +kernel
theorem dL_law_29 : decode cL_law 29 = .ok (.invokespecial 117, 3) := by decide +kernel
theorem dL_law_32 : decode cL_law 32 = .ok (.astore_n 3, 1) := by decide +kernel
theorem dL_law_33 : decode cL_law 33 = .ok (.aload_n 3, 1) := by decide +kernel
theorem dL_law_34 : decode cL_law 34 = .ok (.invokevirtual 120, 3) := by decide +kernel
theorem dL_law_37 : decode cL_law 37 = .ok (.iload_n 1, 1) := by decide +kernel
theorem dL_law_38 : decode cL_law 38 = .ok (.if_icmp .ne 31, 3) := by decide +kernel
theorem dL_law_41 : decode cL_law 41 = .ok (.aload_n 3, 1) := by decide +kernel
theorem dL_law_42 : decode cL_law 42 = .ok (.invokevirtual 114, 3) := by decide +kernel
theorem dL_law_45 : decode cL_law 45 = .ok (.bipush (-9), 2) := by decide +kernel
theorem dL_law_47 : decode cL_law 47 = .ok (.if_icmp .ne 22, 3) := by decide +kernel
theorem dL_law_50 : decode cL_law 50 = .ok (.aload_n 3, 1) := by decide +kernel
theorem dL_law_51 : decode cL_law 51 = .ok (.aload_n 0, 1) := by decide +kernel
theorem dL_law_52 : decode cL_law 52 = .ok (.iload_n 1, 1) := by decide +kernel
theorem dL_law_53 : decode cL_law 53 = .ok (.iload_n 2, 1) := by decide +kernel
theorem dL_law_54 : decode cL_law 54 = .ok (.invokestatic 123, 3) := by decide +kernel
theorem dL_law_57 : decode cL_law 57 = .ok (.ifCond .eq 12, 3) := by decide +kernel
theorem dL_law_60 : decode cL_law 60 = .ok (.aload_n 3, 1) := by decide +kernel
theorem dL_law_61 : decode cL_law 61 = .ok (.iload_n 1, 1) := by decide +kernel
theorem dL_law_62 : decode cL_law 62 = .ok (.iload_n 2, 1) := by decide +kernel
theorem dL_law_63 : decode cL_law 63 = .ok (.invokestatic 127, 3) := by decide +kernel
theorem dL_law_66 : decode cL_law 66 = .ok (.ifCond .ne 5, 3) := by decide +kernel
theorem dL_law_69 : decode cL_law 69 = .ok (.iconst 0, 1) := by decide +kernel
theorem dL_law_70 : decode cL_law 70 = .ok (.ireturn, 1) := by decide +kernel
theorem dL_law_71 : decode cL_law 71 = .ok (.iconst 0, 1) := by decide +kernel
theorem dL_law_72 : decode cL_law 72 = .ok (.istore 4, 2) := by decide +kernel
theorem dL_law_74 : decode cL_law 74 = .ok (.iload 4, 2) := by decide +kernel
theorem dL_law_76 : decode cL_law 76 = .ok (.iconst 3, 1) := by decide +kernel
theorem dL_law_77 : decode cL_law 77 = .ok (.if_icmp .ge 29, 3) := by decide +kernel
theorem dL_law_80 : decode cL_law 80 = .ok (.aload_n 3, 1) := by decide +kernel
theorem dL_law_81 : decode cL_law 81 = .ok (.iload_n 1, 1) := by decide +kernel
theorem dL_law_82 : decode cL_law 82 = .ok (.iload_n 2, 1) := by decide +kernel
theorem dL_law_83 : decode cL_law 83 = .ok (.aload_n 0, 1) := by decide +kernel
theorem dL_law_84 : decode cL_law 84 = .ok (.bipush 36, 2) := by decide +kernel
theorem dL_law_86 : decode cL_law 86 = .ok (.iload 4, 2) := by decide +kernel
theorem dL_law_88 : decode cL_law 88 = .ok (.iadd, 1) := by decide +kernel
theorem dL_law_89 : decode cL_law 89 = .ok (.invokestatic 69, 3) := by decide +kernel
theorem dL_law_92 : decode cL_law 92 = .ok (.invokestatic 131, 3) := by decide +kernel
theorem dL_law_95 : decode cL_law 95 = .ok (.ifCond .ne 5, 3) := by decide +kernel
theorem dL_law_98 : decode cL_law 98 = .ok (.iconst 0, 1) := by decide +kernel
theorem dL_law_99 : decode cL_law 99 = .ok (.ireturn, 1) := by decide +kernel
theorem dL_law_100 : decode cL_law 100 = .ok (.iinc 4 1, 3) := by decide +kernel
theorem dL_law_103 : decode cL_law 103 = .ok (.goto (-29), 3) := by decide +kernel
theorem dL_law_106 : decode cL_law 106 = .ok (.iconst 0, 1) := by decide +kernel
theorem dL_law_107 : decode cL_law 107 = .ok (.istore 4, 2) := by decide +kernel
theorem dL_law_109 : decode cL_law 109 = .ok (.iload 4, 2) := by decide +kernel
theorem dL_law_111 : decode cL_law 111 = .ok (.bipush 6, 2) := by decide +kernel
theorem dL_law_113 : decode cL_law 113 = .ok (.if_icmp .ge 75, 3) := by decide +kernel
theorem dL_law_116 : decode cL_law 116 = .ok (.aload_n 0, 1) := by decide +kernel
theorem dL_law_117 : decode cL_law 117 = .ok (.bipush 40, 2) := by decide +kernel
theorem dL_law_119 : decode cL_law 119 = .ok (.iload 4, 2) := by decide +kernel
theorem dL_law_121 : decode cL_law 121 = .ok (.iadd, 1) := by decide +kernel
theorem dL_law_122 : decode cL_law 122 = .ok (.invokestatic 69, 3) := by decide +kernel
theorem dL_law_125 : decode cL_law 125 = .ok (.istore 5, 2) := by decide +kernel
theorem dL_law_127 : decode cL_law 127 = .ok (.iload 5, 2) := by decide +kernel
theorem dL_law_129 : decode cL_law 129 = .ok (.iconst 1, 1) := by decide +kernel
theorem dL_law_130 : decode cL_law 130 = .ok (.iload_n 1, 1) := by decide +kernel
theorem dL_law_131 : decode cL_law 131 = .ok (.ishl, 1) := by decide +kernel
theorem dL_law_132 : decode cL_law 132 = .ok (.invokestatic 75, 3) := by decide +kernel
theorem dL_law_135 : decode cL_law 135 = .ok (.istore 6, 2) := by decide +kernel
theorem dL_law_137 : decode cL_law 137 = .ok (.iload 5, 2) := by decide +kernel
theorem dL_law_139 : decode cL_law 139 = .ok (.iconst 3, 1) := by decide +kernel
theorem dL_law_140 : decode cL_law 140 = .ok (.ishr, 1) := by decide +kernel
theorem dL_law_141 : decode cL_law 141 = .ok (.iconst 4, 1) := by decide +kernel
theorem dL_law_142 : decode cL_law 142 = .ok (.invokestatic 75, 3) := by decide +kernel
theorem dL_law_145 : decode cL_law 145 = .ok (.istore 7, 2) := by decide +kernel
theorem dL_law_147 : decode cL_law 147 = .ok (.aload_n 3, 1) := by decide +kernel
theorem dL_law_148 : decode cL_law 148 = .ok (.iload_n 1, 1) := by decide +kernel
theorem dL_law_149 : decode cL_law 149 = .ok (.iload 6, 2) := by decide +kernel
theorem dL_law_151 : decode cL_law 151 = .ok (.iload 7, 2) := by decide +kernel
theorem dL_law_153 : decode cL_law 153 = .ok (.invokestatic 135, 3) := by decide +kernel
theorem dL_law_156 : decode cL_law 156 = .ok (.iload 4, 2) := by decide +kernel
theorem dL_law_158 : decode cL_law 158 = .ok (.if_icmp .ne 22, 3) := by decide +kernel
theorem dL_law_161 : decode cL_law 161 = .ok (.aload_n 3, 1) := by decide +kernel
theorem dL_law_162 : decode cL_law 162 = .ok (.iload 4, 2) := by decide +kernel
theorem dL_law_164 : decode cL_law 164 = .ok (.iload 7, 2) := by decide +kernel
theorem dL_law_166 : decode cL_law 166 = .ok (.iload 6, 2) := by decide +kernel
theorem dL_law_168 : decode cL_law 168 = .ok (.iload_n 1, 1) := by decide +kernel
theorem dL_law_169 : decode cL_law 169 = .ok (.iload_n 2, 1) := by decide +kernel
theorem dL_law_170 : decode cL_law 170 = .ok (.iload 5, 2) := by decide +kernel
theorem dL_law_172 : decode cL_law 172 = .ok (.iconst 5, 1) := by decide +kernel
theorem dL_law_173 : decode cL_law 173 = .ok (.ishr, 1) := by decide +kernel
theorem dL_law_174 : decode cL_law 174 = .ok (.invokestatic 139, 3) := by decide +kernel
theorem dL_law_177 : decode cL_law 177 = .ok (.ifCond .ne 5, 3) := by decide +kernel
theorem dL_law_180 : decode cL_law 180 = .ok (.iconst 0, 1) := by decide +kernel
theorem dL_law_181 : decode cL_law 181 = .ok (.ireturn, 1) := by decide +kernel
theorem dL_law_182 : decode cL_law 182 = .ok (.iinc 4 1, 3) := by decide +kernel
theorem dL_law_185 : decode cL_law 185 = .ok (.goto (-76), 3) := by decide +kernel
theorem dL_law_188 : decode cL_law 188 = .ok (.aload_n 3, 1) := by decide +kernel
theorem dL_law_189 : decode cL_law 189 = .ok (.invokevirtual 143, 3) := by decide +kernel
theorem dL_law_192 : decode cL_law 192 = .ok (.istore 4, 2) := by decide +kernel
theorem dL_law_194 : decode cL_law 194 = .ok (.iconst 0, 1) := by decide +kernel
theorem dL_law_195 : decode cL_law 195 = .ok (.istore 5, 2) := by decide +kernel
theorem dL_law_197 : decode cL_law 197 = .ok (.iload 5, 2) := by decide +kernel
theorem dL_law_199 : decode cL_law 199 = .ok (.iload_n 2, 1) := by decide +kernel
theorem dL_law_200 : decode cL_law 200 = .ok (.if_icmp .ge 42, 3) := by decide +kernel
theorem dL_law_203 : decode cL_law 203 = .ok (.aload_n 3, 1) := by decide +kernel
theorem dL_law_204 : decode cL_law 204 = .ok (.iload 5, 2) := by decide +kernel
theorem dL_law_206 : decode cL_law 206 = .ok (.invokevirtual 62, 3) := by decide +kernel
theorem dL_law_209 : decode cL_law 209 = .ok (.ifCond .lt 25, 3) := by decide +kernel
theorem dL_law_212 : decode cL_law 212 = .ok (.aload_n 3, 1) := by decide +kernel
theorem dL_law_213 : decode cL_law 213 = .ok (.iload 5, 2) := by decide +kernel
theorem dL_law_215 : decode cL_law 215 = .ok (.invokevirtual 62, 3) := by decide +kernel
theorem dL_law_218 : decode cL_law 218 = .ok (.iload 4, 2) := by decide +kernel
theorem dL_law_220 : decode cL_law 220 = .ok (.if_icmp .ge 14, 3) := by decide +kernel
theorem dL_law_223 : decode cL_law 223 = .ok (.aload_n 3, 1) := by decide +kernel
theorem dL_law_224 : decode cL_law 224 = .ok (.iload 5, 2) := by decide +kernel
theorem dL_law_226 : decode cL_law 226 = .ok (.invokevirtual 62, 3) := by decide +kernel
theorem dL_law_229 : decode cL_law 229 = .ok (.iload 5, 2) := by decide +kernel
theorem dL_law_231 : decode cL_law 231 = .ok (.if_icmp .le 5, 3) := by decide +kernel
theorem dL_law_234 : decode cL_law 234 = .ok (.iconst 0, 1) := by decide +kernel
theorem dL_law_235 : decode cL_law 235 = .ok (.ireturn, 1) := by decide +kernel
theorem dL_law_236 : decode cL_law 236 = .ok (.iinc 5 1, 3) := by decide +kernel
theorem dL_law_239 : decode cL_law 239 = .ok (.goto (-42), 3) := by decide +kernel
theorem dL_law_242 : decode cL_law 242 = .ok (.aload_n 3, 1) := by decide +kernel
theorem dL_law_243 : decode cL_law 243 = .ok (.invokevirtual 146, 3) := by decide +kernel
theorem dL_law_246 : decode cL_law 246 = .ok (.bipush 6, 2) := by decide +kernel
theorem dL_law_248 : decode cL_law 248 = .ok (.if_icmp .ne 40, 3) := by decide +kernel
theorem dL_law_251 : decode cL_law 251 = .ok (.aload_n 3, 1) := by decide +kernel
theorem dL_law_252 : decode cL_law 252 = .ok (.iload_n 1, 1) := by decide +kernel
theorem dL_law_253 : decode cL_law 253 = .ok (.iload_n 2, 1) := by decide +kernel
theorem dL_law_254 : decode cL_law 254 = .ok (.aload_n 0, 1) := by decide +kernel
theorem dL_law_255 : decode cL_law 255 = .ok (.bipush 46, 2) := by decide +kernel
theorem dL_law_257 : decode cL_law 257 = .ok (.invokestatic 69, 3) := by decide +kernel
theorem dL_law_260 : decode cL_law 260 = .ok (.invokestatic 149, 3) := by decide +kernel
theorem dL_law_263 : decode cL_law 263 = .ok (.ifCond .eq 25, 3) := by decide +kernel
theorem dL_law_266 : decode cL_law 266 = .ok (.aload_n 3, 1) := by decide +kernel
theorem dL_law_267 : decode cL_law 267 = .ok (.invokevirtual 152, 3) := by decide +kernel
theorem dL_law_270 : decode cL_law 270 = .ok (.bipush 6, 2) := by decide +kernel
theorem dL_law_272 : decode cL_law 272 = .ok (.if_icmp .ne 16, 3) := by decide +kernel
theorem dL_law_275 : decode cL_law 275 = .ok (.aload_n 3, 1) := by decide +kernel
theorem dL_law_276 : decode cL_law 276 = .ok (.iload_n 1, 1) := by decide +kernel
theorem dL_law_277 : decode cL_law 277 = .ok (.iload_n 2, 1) := by decide +kernel
theorem dL_law_278 : decode cL_law 278 = .ok (.invokestatic 127, 3) := by decide +kernel
theorem dL_law_281 : decode cL_law 281 = .ok (.ifCond .eq 7, 3) := by decide +kernel
theorem dL_law_284 : decode cL_law 284 = .ok (.iconst 1, 1) := by decide +kernel
theorem dL_law_285 : decode cL_law 285 = .ok (.goto 4, 3) := by decide +kernel
theorem dL_law_288 : decode cL_law 288 = .ok (.iconst 0, 1) := by decide +kernel
theorem dL_law_289 : decode cL_law 289 = .ok (.ireturn, 1) := by decide +kernel
