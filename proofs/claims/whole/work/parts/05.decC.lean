theorem dX10_init_0 : decode cX10_init 0 = .ok (.aload_n 0, 1) := by decide +kernel
theorem dX10_init_1 : decode cX10_init 1 = .ok (.invokespecial 1, 3) := by decide +kernel
theorem dX10_init_4 : decode cX10_init 4 = .ok (.aload_n 0, 1) := by decide +kernel
theorem dX10_init_5 : decode cX10_init 5 = .ok (.sipush 1201, 3) := by decide +kernel
theorem dX10_init_8 : decode cX10_init 8 = .ok (.newarray .int, 2) := by decide +kernel
theorem dX10_init_10 : decode cX10_init 10 = .ok (.putfield 7, 3) := by decide +kernel
theorem dX10_init_13 : decode cX10_init 13 = .ok (.aload_n 0, 1) := by decide +kernel
theorem dX10_init_14 : decode cX10_init 14 = .ok (.sipush 4804, 3) := by decide +kernel
theorem dX10_init_17 : decode cX10_init 17 = .ok (.newarray .int, 2) := by decide +kernel
theorem dX10_init_19 : decode cX10_init 19 = .ok (.putfield 13, 3) := by decide +kernel
theorem dX10_init_22 : decode cX10_init 22 = .ok (.aload_n 0, 1) := by decide +kernel
theorem dX10_init_23 : decode cX10_init 23 = .ok (.sipush 15552, 3) := by decide +kernel
theorem dX10_init_26 : decode cX10_init 26 = .ok (.newarray .int, 2) := by decide +kernel
theorem dX10_init_28 : decode cX10_init 28 = .ok (.putfield 16, 3) := by decide +kernel
theorem dX10_init_31 : decode cX10_init 31 = .ok (.aload_n 0, 1) := by decide +kernel
theorem dX10_init_32 : decode cX10_init 32 = .ok (.bipush 81, 2) := by decide +kernel
theorem dX10_init_34 : decode cX10_init 34 = .ok (.newarray .int, 2) := by decide +kernel
theorem dX10_init_36 : decode cX10_init 36 = .ok (.putfield 19, 3) := by decide +kernel
theorem dX10_init_39 : decode cX10_init 39 = .ok (.aload_n 0, 1) := by decide +kernel
theorem dX10_init_40 : decode cX10_init 40 = .ok (.bipush 60, 2) := by decide +kernel
theorem dX10_init_42 : decode cX10_init 42 = .ok (.newarray .int, 2) := by decide +kernel
theorem dX10_init_44 : decode cX10_init 44 = .ok (.putfield 22, 3) := by decide +kernel
theorem dX10_init_47 : decode cX10_init 47 = .ok (.aload_n 0, 1) := by decide +kernel
theorem dX10_init_48 : decode cX10_init 48 = .ok (.sipush 540, 3) := by decide +kernel
theorem dX10_init_51 : decode cX10_init 51 = .ok (.newarray .int, 2) := by decide +kernel
theorem dX10_init_53 : decode cX10_init 53 = .ok (.putfield 25, 3) := by decide +kernel
theorem dX10_init_56 : decode cX10_init 56 = .ok (.aload_n 0, 1) := by decide +kernel
theorem dX10_init_57 : decode cX10_init 57 = .ok (.sipush 540, 3) := by decide +kernel
theorem dX10_init_60 : decode cX10_init 60 = .ok (.newarray .int, 2) := by decide +kernel
theorem dX10_init_62 : decode cX10_init 62 = .ok (.putfield 28, 3) := by decide +kernel
theorem dX10_init_65 : decode cX10_init 65 = .ok (.aload_n 0, 1) := by decide +kernel
theorem dX10_init_66 : decode cX10_init 66 = .ok (.sipush 540, 3) := by decide +kernel
theorem dX10_init_69 : decode cX10_init 69 = .ok (.newarray .int, 2) := by decide +kernel
theorem dX10_init_71 : decode cX10_init 71 = .ok (.putfield 31, 3) := by decide +kernel
theorem dX10_init_74 : decode cX10_init 74 = .ok (.aload_n 0, 1) := by decide +kernel
theorem dX10_init_75 : decode cX10_init 75 = .ok (.sipush 540, 3) := by decide +kernel
theorem dX10_init_78 : decode cX10_init 78 = .ok (.newarray .int, 2) := by decide +kernel
theorem dX10_init_80 : decode cX10_init 80 = .ok (.putfield 34, 3) := by decide +kernel
theorem dX10_init_83 : decode cX10_init 83 = .ok (.aload_n 0, 1) := by decide +kernel
theorem dX10_init_84 : decode cX10_init 84 = .ok (.bipush 9, 2) := by decide +kernel
theorem dX10_init_86 : decode cX10_init 86 = .ok (.newarray .int, 2) := by decide +kernel
theorem dX10_init_88 : decode cX10_init 88 = .ok (.putfield 37, 3) := by decide +kernel
theorem dX10_init_91 : decode cX10_init 91 = .ok (.aload_n 0, 1) := by decide +kernel
theorem dX10_init_92 : decode cX10_init 92 = .ok (.bipush 62, 2) := by decide +kernel
theorem dX10_init_94 : decode cX10_init 94 = .ok (.newarray .int, 2) := by decide +kernel
theorem dX10_init_96 : decode cX10_init 96 = .ok (.putfield 40, 3) := by decide +kernel
theorem dX10_init_99 : decode cX10_init 99 = .ok (.aload_n 0, 1) := by decide +kernel
theorem dX10_init_100 : decode cX10_init 100 = .ok (.bipush 62, 2) := by decide +kernel
theorem dX10_init_102 : decode cX10_init 102 = .ok (.newarray .int, 2) := by decide +kernel
theorem dX10_init_104 : decode cX10_init 104 = .ok (.putfield 43, 3) := by decide +kernel
theorem dX10_init_107 : decode cX10_init 107 = .ok (.aload_n 0, 1) := by decide +kernel
theorem dX10_init_108 : decode cX10_init 108 = .ok (.bipush 62, 2) := by decide +kernel
theorem dX10_init_110 : decode cX10_init 110 = .ok (.newarray .int, 2) := by decide +kernel
theorem dX10_init_112 : decode cX10_init 112 = .ok (.putfield 46, 3) := by decide +kernel
theorem dX10_init_115 : decode cX10_init 115 = .ok (.aload_n 0, 1) := by decide +kernel
theorem dX10_init_116 : decode cX10_init 116 = .ok (.bipush 62, 2) := by decide +kernel
theorem dX10_init_118 : decode cX10_init 118 = .ok (.newarray .int, 2) := by decide +kernel
theorem dX10_init_120 : decode cX10_init 120 = .ok (.putfield 49, 3) := by decide +kernel
theorem dX10_init_123 : decode cX10_init 123 = .ok (.aload_n 0, 1) := by decide +kernel
theorem dX10_init_124 : decode cX10_init 124 = .ok (.bipush 62, 2) := by decide +kernel
theorem dX10_init_126 : decode cX10_init 126 = .ok (.newarray .int, 2) := by decide +kernel
theorem dX10_init_128 : decode cX10_init 128 = .ok (.putfield 52, 3) := by decide +kernel
theorem dX10_init_131 : decode cX10_init 131 = .ok (.aload_n 0, 1) := by decide +kernel
theorem dX10_init_132 : decode cX10_init 132 = .ok (.bipush 62, 2) := by decide +kernel
theorem dX10_init_134 : decode cX10_init 134 = .ok (.newarray .int, 2) := by decide +kernel
theorem dX10_init_136 : decode cX10_init 136 = .ok (.putfield 55, 3) := by decide +kernel
theorem dX10_init_139 : decode cX10_init 139 = .ok (.aload_n 0, 1) := by decide +kernel
theorem dX10_init_140 : decode cX10_init 140 = .ok (.bipush 62, 2) := by decide +kernel
theorem dX10_init_142 : decode cX10_init 142 = .ok (.newarray .int, 2) := by decide +kernel
theorem dX10_init_144 : decode cX10_init 144 = .ok (.putfield 58, 3) := by decide +kernel
theorem dX10_init_147 : decode cX10_init 147 = .ok (.aload_n 0, 1) := by decide +kernel
theorem dX10_init_148 : decode cX10_init 148 = .ok (.bipush 62, 2) := by decide +kernel
theorem dX10_init_150 : decode cX10_init 150 = .ok (.newarray .int, 2) := by decide +kernel
theorem dX10_init_152 : decode cX10_init 152 = .ok (.putfield 61, 3) := by decide +kernel
theorem dX10_init_155 : decode cX10_init 155 = .ok (.aload_n 0, 1) := by decide +kernel
theorem dX10_init_156 : decode cX10_init 156 = .ok (.bipush 62, 2) := by decide +kernel
theorem dX10_init_158 : decode cX10_init 158 = .ok (.newarray .int, 2) := by decide +kernel
theorem dX10_init_160 : decode cX10_init 160 = .ok (.putfield 64, 3) := by decide +kernel
theorem dX10_init_163 : decode cX10_init 163 = .ok (.aload_n 0, 1) := by decide +kernel
theorem dX10_init_164 : decode cX10_init 164 = .ok (.bipush 12, 2) := by decide +kernel
theorem dX10_init_166 : decode cX10_init 166 = .ok (.newarray .int, 2) := by decide +kernel
theorem dX10_init_168 : decode cX10_init 168 = .ok (.putfield 67, 3) := by decide +kernel
theorem dX10_init_171 : decode cX10_init 171 = .ok (.aload_n 0, 1) := by decide +kernel
theorem dX10_init_172 : decode cX10_init 172 = .ok (.bipush 60, 2) := by decide +kernel
theorem dX10_init_174 : decode cX10_init 174 = .ok (.newarray .int, 2) := by decide +kernel
theorem dX10_init_176 : decode cX10_init 176 = .ok (.putfield 70, 3) := by decide +kernel
theorem dX10_init_179 : decode cX10_init 179 = .ok (.aload_n 0, 1) := by decide +kernel
theorem dX10_init_180 : decode cX10_init 180 = .ok (.bipush 12, 2) := by decide +kernel
theorem dX10_init_182 : decode cX10_init 182 = .ok (.newarray .int, 2) := by decide +kernel
theorem dX10_init_184 : decode cX10_init 184 = .ok (.putfield 73, 3) := by decide +kernel
theorem dX10_init_187 : decode cX10_init 187 = .ok (.aload_n 0, 1) := by decide +kernel
theorem dX10_init_188 : decode cX10_init 188 = .ok (.bipush 12, 2) := by decide +kernel
theorem dX10_init_190 : decode cX10_init 190 = .ok (.newarray .int, 2) := by decide +kernel
theorem dX10_init_192 : decode cX10_init 192 = .ok (.putfield 76, 3) := by decide +kernel
theorem dX10_init_195 : decode cX10_init 195 = .ok (.aload_n 0, 1) := by decide +kernel
theorem dX10_init_196 : decode cX10_init 196 = .ok (.sipush 15552, 3) := by decide +kernel
theorem dX10_init_199 : decode cX10_init 199 = .ok (.newarray .int, 2) := by decide +kernel
theorem dX10_init_201 : decode cX10_init 201 = .ok (.putfield 79, 3) := by decide +kernel
theorem dX10_init_204 : decode cX10_init 204 = .ok (.aload_n 0, 1) := by decide +kernel
theorem dX10_init_205 : decode cX10_init 205 = .ok (.iload_n 1, 1) := by decide +kernel
theorem dX10_init_206 : decode cX10_init 206 = .ok (.iconst 1, 1) := by decide +kernel
theorem dX10_init_207 : decode cX10_init 207 = .ok (.if_icmp .ge 7, 3) := by decide +kernel
theorem dX10_init_210 : decode cX10_init 210 = .ok (.iconst 1, 1) := by decide +kernel
theorem dX10_init_211 : decode cX10_init 211 = .ok (.goto 13, 3) := by decide +kernel
theorem dX10_init_214 : decode cX10_init 214 = .ok (.iload_n 1, 1) := by decide +kernel
theorem dX10_init_215 : decode cX10_init 215 = .ok (.iconst 4, 1) := by decide +kernel
theorem dX10_init_216 : decode cX10_init 216 = .ok (.if_icmp .le 7, 3) := by decide +kernel
theorem dX10_init_219 : decode cX10_init 219 = .ok (.iconst 4, 1) := by decide +kernel
theorem dX10_init_220 : decode cX10_init 220 = .ok (.goto 4, 3) := by decide +kernel
theorem dX10_init_223 : decode cX10_init 223 = .ok (.iload_n 1, 1) := by decide +kernel
theorem dX10_init_224 : decode cX10_init 224 = .ok (.putfield 82, 3) := by decide +kernel
theorem dX10_init_227 : decode cX10_init 227 = .ok (.return_, 1) := by decide +kernel
theorem dX10_in_0 : decode cX10_in 0 = .ok (.iload_n 0, 1) := by decide +kernel
theorem dX10_in_1 : decode cX10_in 1 = .ok (.iload_n 1, 1) := by decide +kernel
theorem dX10_in_2 : decode cX10_in 2 = .ok (.if_icmp .lt 12, 3) := by decide +kernel
theorem dX10_in_5 : decode cX10_in 5 = .ok (.iload_n 0, 1) := by decide +kernel
theorem dX10_in_6 : decode cX10_in 6 = .ok (.iload_n 2, 1) := by decide +kernel
theorem dX10_in_7 : decode cX10_in 7 = .ok (.if_icmp .gt 7, 3) := by decide +kernel
theorem dX10_in_10 : decode cX10_in 10 = .ok (.iconst 1, 1) := by decide +kernel
theorem dX10_in_11 : decode cX10_in 11 = .ok (.goto 4, 3) := by decide +kernel
theorem dX10_in_14 : decode cX10_in 14 = .ok (.iconst 0, 1) := by decide +kernel
theorem dX10_in_15 : decode cX10_in 15 = .ok (.ireturn, 1) := by decide +kernel
theorem dX10_edit_0 : decode cX10_edit 0 = .ok (.aload_n 0, 1) := by decide +kernel
theorem dX10_edit_1 : decode cX10_edit 1 = .ok (.getfield 86, 3) := by decide +kernel
theorem dX10_edit_4 : decode cX10_edit 4 = .ok (.iconst 4, 1) := by decide +kernel
theorem dX10_edit_5 : decode cX10_edit 5 = .ok (.if_icmp .ne 44, 3) := by decide +kernel
theorem dX10_edit_8 : decode cX10_edit 8 = .ok (.iconst 0, 1) := by decide +kernel
theorem dX10_edit_9 : decode cX10_edit 9 = .ok (.istore_n 1, 1) := by decide +kernel
theorem dX10_edit_10 : decode cX10_edit 10 = .ok (.iload_n 1, 1) := by decide +kernel
theorem dX10_edit_11 : decode cX10_edit 11 = .ok (.sipush 3603, 3) := by decide +kernel
theorem dX10_edit_14 : decode cX10_edit 14 = .ok (.if_icmp .ge 25, 3) := by decide +kernel
theorem dX10_edit_17 : decode cX10_edit 17 = .ok (.aload_n 0, 1) := by decide +kernel
theorem dX10_edit_18 : decode cX10_edit 18 = .ok (.getfield 13, 3) := by decide +kernel
theorem dX10_edit_21 : decode cX10_edit 21 = .ok (.iload_n 1, 1) := by decide +kernel
theorem dX10_edit_22 : decode cX10_edit 22 = .ok (.aload_n 0, 1) := by decide +kernel
theorem dX10_edit_23 : decode cX10_edit 23 = .ok (.getfield 13, 3) := by decide +kernel
theorem dX10_edit_26 : decode cX10_edit 26 = .ok (.iload_n 1, 1) := by decide +kernel
theorem dX10_edit_27 : decode cX10_edit 27 = .ok (.sipush 1201, 3) := by decide +kernel
theorem dX10_edit_30 : decode cX10_edit 30 = .ok (.iadd, 1) := by decide +kernel
theorem dX10_edit_31 : decode cX10_edit 31 = .ok (.iaload, 1) := by decide +kernel
theorem dX10_edit_32 : decode cX10_edit 32 = .ok (.iastore, 1) := by decide +kernel
theorem dX10_edit_33 : decode cX10_edit 33 = .ok (.iinc 1 1, 3) := by decide +kernel
theorem dX10_edit_36 : decode cX10_edit 36 = .ok (.goto (-26), 3) := by decide +kernel
theorem dX10_edit_39 : decode cX10_edit 39 = .ok (.aload_n 0, 1) := by decide +kernel
theorem dX10_edit_40 : decode cX10_edit 40 = .ok (.dup, 1) := by decide +kernel
theorem dX10_edit_41 : decode cX10_edit 41 = .ok (.getfield 86, 3) := by decide +kernel
theorem dX10_edit_44 : decode cX10_edit 44 = .ok (.iconst 1, 1) := by decide +kernel
theorem dX10_edit_45 : decode cX10_edit 45 = .ok (.isub, 1) := by decide +kernel
theorem dX10_edit_46 : decode cX10_edit 46 = .ok (.putfield 86, 3) := by decide +kernel
theorem dX10_edit_49 : decode cX10_edit 49 = .ok (.iconst 0, 1) := by decide +kernel
theorem dX10_edit_50 : decode cX10_edit 50 = .ok (.istore_n 1, 1) := by decide +kernel
theorem dX10_edit_51 : decode cX10_edit 51 = .ok (.iload_n 1, 1) := by decide +kernel
theorem dX10_edit_52 : decode cX10_edit 52 = .ok (.sipush 1201, 3) := by decide +kernel
theorem dX10_edit_55 : decode cX10_edit 55 = .ok (.if_icmp .ge 30, 3) := by decide +kernel
theorem dX10_edit_58 : decode cX10_edit 58 = .ok (.aload_n 0, 1) := by decide +kernel
theorem dX10_edit_59 : decode cX10_edit 59 = .ok (.getfield 13, 3) := by decide +kernel
theorem dX10_edit_62 : decode cX10_edit 62 = .ok (.sipush 1201, 3) := by decide +kernel
theorem dX10_edit_65 : decode cX10_edit 65 = .ok (.aload_n 0, 1) := by decide +kernel
theorem dX10_edit_66 : decode cX10_edit 66 = .ok (.getfield 86, 3) := by decide +kernel
theorem dX10_edit_69 : decode cX10_edit 69 = .ok (.imul, 1) := by decide +kernel
theorem dX10_edit_70 : decode cX10_edit 70 = .ok (.iload_n 1, 1) := by decide +kernel
theorem dX10_edit_71 : decode cX10_edit 71 = .ok (.iadd, 1) := by decide +kernel
theorem dX10_edit_72 : decode cX10_edit 72 = .ok (.aload_n 0, 1) := by decide +kernel
theorem dX10_edit_73 : decode cX10_edit 73 = .ok (.getfield 7, 3) := by decide +kernel
theorem dX10_edit_76 : decode cX10_edit 76 = .ok (.iload_n 1, 1) := by decide +kernel
theorem dX10_edit_77 : decode cX10_edit 77 = .ok (.iaload, 1) := by decide +kernel
theorem dX10_edit_78 : decode cX10_edit 78 = .ok (.iastore, 1) := by decide +kernel
theorem dX10_edit_79 : decode cX10_edit 79 = .ok (.iinc 1 1, 3) := by decide +kernel
theorem dX10_edit_82 : decode cX10_edit 82 = .ok (.goto (-31), 3) := by decide +kernel
theorem dX10_edit_85 : decode cX10_edit 85 = .ok (.aload_n 0, 1) := by decide +kernel
theorem dX10_edit_86 : decode cX10_edit 86 = .ok (.dup, 1) := by decide +kernel
theorem dX10_edit_87 : decode cX10_edit 87 = .ok (.getfield 86, 3) := by decide +kernel
theorem dX10_edit_90 : decode cX10_edit 90 = .ok (.iconst 1, 1) := by decide +kernel
theorem dX10_edit_91 : decode cX10_edit 91 = .ok (.iadd, 1) := by decide +kernel
theorem dX10_edit_92 : decode cX10_edit 92 = .ok (.putfield 86, 3) := by decide +kernel
theorem dX10_edit_95 : decode cX10_edit 95 = .ok (.aload_n 0, 1) := by decide +kernel
theorem dX10_edit_96 : decode cX10_edit 96 = .ok (.iconst 0, 1) := by decide +kernel
theorem dX10_edit_97 : decode cX10_edit 97 = .ok (.putfield 89, 3) := by decide +kernel
theorem dX10_edit_100 : decode cX10_edit 100 = .ok (.return_, 1) := by decide +kernel
theorem dX10_isState_0 : decode cX10_isState 0 = .ok (.iload_n 1, 1) := by decide +kernel
theorem dX10_isState_1 : decode cX10_isState 1 = .ok (.iconst 0, 1) := by decide +kernel
theorem dX10_isState_2 : decode cX10_isState 2 = .ok (.aload_n 0, 1) := by decide +kernel
theorem dX10_isState_3 : decode cX10_isState 3 = .ok (.getfield 7, 3) := by decide +kernel
theorem dX10_isState_6 : decode cX10_isState 6 = .ok (.sipush 1200, 3) := by decide +kernel
theorem dX10_isState_9 : decode cX10_isState 9 = .ok (.iaload, 1) := by decide +kernel
theorem dX10_isState_10 : decode cX10_isState 10 = .ok (.iconst 1, 1) := by decide +kernel
theorem dX10_isState_11 : decode cX10_isState 11 = .ok (.isub, 1) := by decide +kernel
theorem dX10_isState_12 : decode cX10_isState 12 = .ok (.invokestatic 93, 3) := by decide +kernel
theorem dX10_isState_15 : decode cX10_isState 15 = .ok (.ireturn, 1) := by decide +kernel
theorem dX10_isAgent_0 : decode cX10_isAgent 0 = .ok (.iload_n 1, 1) := by decide +kernel
theorem dX10_isAgent_1 : decode cX10_isAgent 1 = .ok (.iconst 0, 1) := by decide +kernel
theorem dX10_isAgent_2 : decode cX10_isAgent 2 = .ok (.aload_n 0, 1) := by decide +kernel
theorem dX10_isAgent_3 : decode cX10_isAgent 3 = .ok (.getfield 82, 3) := by decide +kernel
theorem dX10_isAgent_6 : decode cX10_isAgent 6 = .ok (.iconst 1, 1) := by decide +kernel
theorem dX10_isAgent_7 : decode cX10_isAgent 7 = .ok (.isub, 1) := by decide +kernel
theorem dX10_isAgent_8 : decode cX10_isAgent 8 = .ok (.invokestatic 93, 3) := by decide +kernel
theorem dX10_isAgent_11 : decode cX10_isAgent 11 = .ok (.ireturn, 1) := by decide +kernel
theorem dX10_isSet_0 : decode cX10_isSet 0 = .ok (.iload_n 1, 1) := by decide +kernel
theorem dX10_isSet_1 : decode cX10_isSet 1 = .ok (.iconst 0, 1) := by decide +kernel
theorem dX10_isSet_2 : decode cX10_isSet 2 = .ok (.iconst 1, 1) := by decide +kernel
theorem dX10_isSet_3 : decode cX10_isSet 3 = .ok (.aload_n 0, 1) := by decide +kernel
theorem dX10_isSet_4 : decode cX10_isSet 4 = .ok (.getfield 7, 3) := by decide +kernel
theorem dX10_isSet_7 : decode cX10_isSet 7 = .ok (.sipush 1200, 3) := by decide +kernel
theorem dX10_isSet_10 : decode cX10_isSet 10 = .ok (.iaload, 1) := by decide +kernel
theorem dX10_isSet_11 : decode cX10_isSet 11 = .ok (.ishl, 1) := by decide +kernel
theorem dX10_isSet_12 : decode cX10_isSet 12 = .ok (.iconst 1, 1) := by decide +kernel
theorem dX10_isSet_13 : decode cX10_isSet 13 = .ok (.isub, 1) := by decide +kernel
theorem dX10_isSet_14 : decode cX10_isSet 14 = .ok (.invokestatic 93, 3) := by decide +kernel
theorem dX10_isSet_17 : decode cX10_isSet 17 = .ok (.ireturn, 1) := by decide +kernel
theorem dX10_isCoalition_0 : decode cX10_isCoalition 0 = .ok (.iload_n 1, 1) := by decide +kernel
theorem dX10_isCoalition_1 : decode cX10_isCoalition 1 = .ok (.iconst 0, 1) := by decide +kernel
theorem dX10_isCoalition_2 : decode cX10_isCoalition 2 = .ok (.iconst 1, 1) := by decide +kernel
theorem dX10_isCoalition_3 : decode cX10_isCoalition 3 = .ok (.aload_n 0, 1) := by decide +kernel
theorem dX10_isCoalition_4 : decode cX10_isCoalition 4 = .ok (.getfield 82, 3) := by decide +kernel
theorem dX10_isCoalition_7 : decode cX10_isCoalition 7 = .ok (.ishl, 1) := by decide +kernel
theorem dX10_isCoalition_8 : decode cX10_isCoalition 8 = .ok (.iconst 1, 1) := by decide +kernel
theorem dX10_isCoalition_9 : decode cX10_isCoalition 9 = .ok (.isub, 1) := by decide +kernel
theorem dX10_isCoalition_10 : decode cX10_isCoalition 10 = .ok (.invokestatic 93, 3) := by decide +kernel
theorem dX10_isCoalition_13 : decode cX10_isCoalition 13 = .ok (.ireturn, 1) := by decide +kernel
theorem dX10_power_0 : decode cX10_power 0 = .ok (.iload_n 0, 1) := by decide +kernel
theorem dX10_power_1 : decode cX10_power 1 = .ok (.ifCond .ne 7, 3) := by decide +kernel
theorem dX10_power_4 : decode cX10_power 4 = .ok (.iconst 1, 1) := by decide +kernel
theorem dX10_power_5 : decode cX10_power 5 = .ok (.goto 24, 3) := by decide +kernel
theorem dX10_power_8 : decode cX10_power 8 = .ok (.iload_n 0, 1) := by decide +kernel
theorem dX10_power_9 : decode cX10_power 9 = .ok (.iconst 1, 1) := by decide +kernel
theorem dX10_power_10 : decode cX10_power 10 = .ok (.if_icmp .ne 7, 3) := by decide +kernel
theorem dX10_power_13 : decode cX10_power 13 = .ok (.iconst 3, 1) := by decide +kernel
theorem dX10_power_14 : decode cX10_power 14 = .ok (.goto 15, 3) := by decide +kernel
theorem dX10_power_17 : decode cX10_power 17 = .ok (.iload_n 0, 1) := by decide +kernel
theorem dX10_power_18 : decode cX10_power 18 = .ok (.iconst 2, 1) := by decide +kernel
theorem dX10_power_19 : decode cX10_power 19 = .ok (.if_icmp .ne 8, 3) := by decide +kernel
theorem dX10_power_22 : decode cX10_power 22 = .ok (.bipush 9, 2) := by decide +kernel
theorem dX10_power_24 : decode cX10_power 24 = .ok (.goto 5, 3) := by decide +kernel
theorem dX10_power_27 : decode cX10_power 27 = .ok (.bipush 27, 2) := by decide +kernel
theorem dX10_power_29 : decode cX10_power 29 = .ok (.ireturn, 1) := by decide +kernel
theorem dX10_digit_0 : decode cX10_digit 0 = .ok (.iload_n 0, 1) := by decide +kernel
theorem dX10_digit_1 : decode cX10_digit 1 = .ok (.iload_n 1, 1) := by decide +kernel
theorem dX10_digit_2 : decode cX10_digit 2 = .ok (.invokestatic 97, 3) := by decide +kernel
theorem dX10_digit_5 : decode cX10_digit 5 = .ok (.idiv, 1) := by decide +kernel
theorem dX10_digit_6 : decode cX10_digit 6 = .ok (.iconst 3, 1) := by decide +kernel
theorem dX10_digit_7 : decode cX10_digit 7 = .ok (.irem, 1) := by decide +kernel
theorem dX10_digit_8 : decode cX10_digit 8 = .ok (.ireturn, 1) := by decide +kernel
theorem dX10_isMove_0 : decode cX10_isMove 0 = .ok (.iload_n 2, 1) := by decide +kernel
theorem dX10_isMove_1 : decode cX10_isMove 1 = .ok (.iconst 0, 1) := by decide +kernel
theorem dX10_isMove_2 : decode cX10_isMove 2 = .ok (.bipush 80, 2) := by decide +kernel
theorem dX10_isMove_4 : decode cX10_isMove 4 = .ok (.invokestatic 93, 3) := by decide +kernel
theorem dX10_isMove_7 : decode cX10_isMove 7 = .ok (.istore_n 3, 1) := by decide +kernel
theorem dX10_isMove_8 : decode cX10_isMove 8 = .ok (.iconst 0, 1) := by decide +kernel
theorem dX10_isMove_9 : decode cX10_isMove 9 = .ok (.istore 4, 2) := by decide +kernel
theorem dX10_isMove_11 : decode cX10_isMove 11 = .ok (.iload 4, 2) := by decide +kernel
theorem dX10_isMove_13 : decode cX10_isMove 13 = .ok (.iconst 4, 1) := by decide +kernel
theorem dX10_isMove_14 : decode cX10_isMove 14 = .ok (.if_icmp .ge 68, 3) := by decide +kernel
theorem dX10_isMove_17 : decode cX10_isMove 17 = .ok (.iload_n 3, 1) := by decide +kernel
theorem dX10_isMove_18 : decode cX10_isMove 18 = .ok (.ifCond .eq 64, 3) := by decide +kernel
theorem dX10_isMove_21 : decode cX10_isMove 21 = .ok (.iload 4, 2) := by decide +kernel
theorem dX10_isMove_23 : decode cX10_isMove 23 = .ok (.aload_n 0, 1) := by decide +kernel
theorem dX10_isMove_24 : decode cX10_isMove 24 = .ok (.getfield 82, 3) := by decide +kernel
theorem dX10_isMove_27 : decode cX10_isMove 27 = .ok (.if_icmp .ge 34, 3) := by decide +kernel
theorem dX10_isMove_30 : decode cX10_isMove 30 = .ok (.iload_n 2, 1) := by decide +kernel
theorem dX10_isMove_31 : decode cX10_isMove 31 = .ok (.iload 4, 2) := by decide +kernel
theorem dX10_isMove_33 : decode cX10_isMove 33 = .ok (.invokestatic 101, 3) := by decide +kernel
theorem dX10_isMove_36 : decode cX10_isMove 36 = .ok (.aload_n 0, 1) := by decide +kernel
theorem dX10_isMove_37 : decode cX10_isMove 37 = .ok (.getfield 7, 3) := by decide +kernel
theorem dX10_isMove_40 : decode cX10_isMove 40 = .ok (.bipush 100, 2) := by decide +kernel
theorem dX10_isMove_42 : decode cX10_isMove 42 = .ok (.iload_n 1, 1) := by decide +kernel
theorem dX10_isMove_43 : decode cX10_isMove 43 = .ok (.imul, 1) := by decide +kernel
theorem dX10_isMove_44 : decode cX10_isMove 44 = .ok (.iconst 1, 1) := by decide +kernel
theorem dX10_isMove_45 : decode cX10_isMove 45 = .ok (.iadd, 1) := by decide +kernel
theorem dX10_isMove_46 : decode cX10_isMove 46 = .ok (.iload 4, 2) := by decide +kernel
theorem dX10_isMove_48 : decode cX10_isMove 48 = .ok (.iadd, 1) := by decide +kernel
theorem dX10_isMove_49 : decode cX10_isMove 49 = .ok (.iaload, 1) := by decide +kernel
theorem dX10_isMove_50 : decode cX10_isMove 50 = .ok (.if_icmp .ge 7, 3) := by decide +kernel
theorem dX10_isMove_53 : decode cX10_isMove 53 = .ok (.iconst 1, 1) := by decide +kernel
theorem dX10_isMove_54 : decode cX10_isMove 54 = .ok (.goto 21, 3) := by decide +kernel
theorem dX10_isMove_57 : decode cX10_isMove 57 = .ok (.iconst 0, 1) := by decide +kernel
theorem dX10_isMove_58 : decode cX10_isMove 58 = .ok (.goto 17, 3) := by decide +kernel
theorem dX10_isMove_61 : decode cX10_isMove 61 = .ok (.iload_n 2, 1) := by decide +kernel
theorem dX10_isMove_62 : decode cX10_isMove 62 = .ok (.iload 4, 2) := by decide +kernel
theorem dX10_isMove_64 : decode cX10_isMove 64 = .ok (.invokestatic 101, 3) := by decide +kernel
theorem dX10_isMove_67 : decode cX10_isMove 67 = .ok (.ifCond .ne 7, 3) := by decide +kernel
theorem dX10_isMove_70 : decode cX10_isMove 70 = .ok (.iconst 1, 1) := by decide +kernel
theorem dX10_isMove_71 : decode cX10_isMove 71 = .ok (.goto 4, 3) := by decide +kernel
theorem dX10_isMove_74 : decode cX10_isMove 74 = .ok (.iconst 0, 1) := by decide +kernel
theorem dX10_isMove_75 : decode cX10_isMove 75 = .ok (.istore_n 3, 1) := by decide +kernel
theorem dX10_isMove_76 : decode cX10_isMove 76 = .ok (.iinc 4 1, 3) := by decide +kernel
theorem dX10_isMove_79 : decode cX10_isMove 79 = .ok (.goto (-68), 3) := by decide +kernel
theorem dX10_isMove_82 : decode cX10_isMove 82 = .ok (.iload_n 3, 1) := by decide +kernel
theorem dX10_isMove_83 : decode cX10_isMove 83 = .ok (.ireturn, 1) := by decide +kernel
theorem dX10_isJoint_0 : decode cX10_isJoint 0 = .ok (.aload_n 0, 1) := by decide +kernel
theorem dX10_isJoint_1 : decode cX10_isJoint 1 = .ok (.iload_n 2, 1) := by decide +kernel
theorem dX10_isJoint_2 : decode cX10_isJoint 2 = .ok (.iload_n 3, 1) := by decide +kernel
theorem dX10_isJoint_3 : decode cX10_isJoint 3 = .ok (.invokevirtual 105, 3) := by decide +kernel
theorem dX10_isJoint_6 : decode cX10_isJoint 6 = .ok (.istore 4, 2) := by decide +kernel
theorem dX10_isJoint_8 : decode cX10_isJoint 8 = .ok (.iconst 0, 1) := by decide +kernel
theorem dX10_isJoint_9 : decode cX10_isJoint 9 = .ok (.istore 5, 2) := by decide +kernel
theorem dX10_isJoint_11 : decode cX10_isJoint 11 = .ok (.iload 5, 2) := by decide +kernel
theorem dX10_isJoint_13 : decode cX10_isJoint 13 = .ok (.aload_n 0, 1) := by decide +kernel
theorem dX10_isJoint_14 : decode cX10_isJoint 14 = .ok (.getfield 82, 3) := by decide +kernel
theorem dX10_isJoint_17 : decode cX10_isJoint 17 = .ok (.if_icmp .ge 40, 3) := by decide +kernel
theorem dX10_isJoint_20 : decode cX10_isJoint 20 = .ok (.iload 4, 2) := by decide +kernel
theorem dX10_isJoint_22 : decode cX10_isJoint 22 = .ok (.ifCond .eq 35, 3) := by decide +kernel
theorem dX10_isJoint_25 : decode cX10_isJoint 25 = .ok (.iload_n 1, 1) := by decide +kernel
theorem dX10_isJoint_26 : decode cX10_isJoint 26 = .ok (.iload 5, 2) := by decide +kernel
theorem dX10_isJoint_28 : decode cX10_isJoint 28 = .ok (.ishr, 1) := by decide +kernel
theorem dX10_isJoint_29 : decode cX10_isJoint 29 = .ok (.iconst 1, 1) := by decide +kernel
theorem dX10_isJoint_30 : decode cX10_isJoint 30 = .ok (.iand, 1) := by decide +kernel
theorem dX10_isJoint_31 : decode cX10_isJoint 31 = .ok (.iconst 1, 1) := by decide +kernel
theorem dX10_isJoint_32 : decode cX10_isJoint 32 = .ok (.if_icmp .eq 12, 3) := by decide +kernel
theorem dX10_isJoint_35 : decode cX10_isJoint 35 = .ok (.iload_n 3, 1) := by decide +kernel
theorem dX10_isJoint_36 : decode cX10_isJoint 36 = .ok (.iload 5, 2) := by decide +kernel
theorem dX10_isJoint_38 : decode cX10_isJoint 38 = .ok (.invokestatic 101, 3) := by decide +kernel
theorem dX10_isJoint_41 : decode cX10_isJoint 41 = .ok (.ifCond .ne 7, 3) := by decide +kernel
theorem dX10_isJoint_44 : decode cX10_isJoint 44 = .ok (.iconst 1, 1) := by decide +kernel
theorem dX10_isJoint_45 : decode cX10_isJoint 45 = .ok (.goto 4, 3) := by decide +kernel
theorem dX10_isJoint_48 : decode cX10_isJoint 48 = .ok (.iconst 0, 1) := by decide +kernel
theorem dX10_isJoint_49 : decode cX10_isJoint 49 = .ok (.istore 4, 2) := by decide +kernel
theorem dX10_isJoint_51 : decode cX10_isJoint 51 = .ok (.iinc 5 1, 3) := by decide +kernel
theorem dX10_isJoint_54 : decode cX10_isJoint 54 = .ok (.goto (-43), 3) := by decide +kernel
theorem dX10_isJoint_57 : decode cX10_isJoint 57 = .ok (.iload 4, 2) := by decide +kernel
theorem dX10_isJoint_59 : decode cX10_isJoint 59 = .ok (.ireturn, 1) := by decide +kernel
theorem dX10_areAlikeFor_0 : decode cX10_areAlikeFor 0 = .ok (.iconst 1, 1) := by decide +kernel
theorem dX10_areAlikeFor_1 : decode cX10_areAlikeFor 1 = .ok (.istore 4, 2) := by decide +kernel
theorem dX10_areAlikeFor_3 : decode cX10_areAlikeFor 3 = .ok (.iconst 0, 1) := by decide +kernel
theorem dX10_areAlikeFor_4 : decode cX10_areAlikeFor 4 = .ok (.istore 5, 2) := by decide +kernel
theorem dX10_areAlikeFor_6 : decode cX10_areAlikeFor 6 = .ok (.iload 5, 2) := by decide +kernel
theorem dX10_areAlikeFor_8 : decode cX10_areAlikeFor 8 = .ok (.aload_n 0, 1) := by decide +kernel
theorem dX10_areAlikeFor_9 : decode cX10_areAlikeFor 9 = .ok (.getfield 82, 3) := by decide +kernel
theorem dX10_areAlikeFor_12 : decode cX10_areAlikeFor 12 = .ok (.if_icmp .ge 45, 3) := by decide +kernel
theorem dX10_areAlikeFor_15 : decode cX10_areAlikeFor 15 = .ok (.iload 4, 2) := by decide +kernel
theorem dX10_areAlikeFor_17 : decode cX10_areAlikeFor 17 = .ok (.ifCond .eq 31, 3) := by decide +kernel
theorem dX10_areAlikeFor_20 : decode cX10_areAlikeFor 20 = .ok (.iload_n 1, 1) := by decide +kernel
theorem dX10_areAlikeFor_21 : decode cX10_areAlikeFor 21 = .ok (.iload 5, 2) := by decide +kernel
theorem dX10_areAlikeFor_23 : decode cX10_areAlikeFor 23 = .ok (.ishr, 1) := by decide +kernel
theorem dX10_areAlikeFor_24 : decode cX10_areAlikeFor 24 = .ok (.iconst 1, 1) := by decide +kernel
theorem dX10_areAlikeFor_25 : decode cX10_areAlikeFor 25 = .ok (.iand, 1) := by decide +kernel
theorem dX10_areAlikeFor_26 : decode cX10_areAlikeFor 26 = .ok (.ifCond .eq 18, 3) := by decide +kernel
theorem dX10_areAlikeFor_29 : decode cX10_areAlikeFor 29 = .ok (.iload_n 2, 1) := by decide +kernel
theorem dX10_areAlikeFor_30 : decode cX10_areAlikeFor 30 = .ok (.iload 5, 2) := by decide +kernel
theorem dX10_areAlikeFor_32 : decode cX10_areAlikeFor 32 = .ok (.invokestatic 101, 3) := by decide +kernel
theorem dX10_areAlikeFor_35 : decode cX10_areAlikeFor 35 = .ok (.iload_n 3, 1) := by decide +kernel
theorem dX10_areAlikeFor_36 : decode cX10_areAlikeFor 36 = .ok (.iload 5, 2) := by decide +kernel
theorem dX10_areAlikeFor_38 : decode cX10_areAlikeFor 38 = .ok (.invokestatic 101, 3) := by decide +kernel
theorem dX10_areAlikeFor_41 : decode cX10_areAlikeFor 41 = .ok (.if_icmp .ne 7, 3) := by decide +kernel
theorem dX10_areAlikeFor_44 : decode cX10_areAlikeFor 44 = .ok (.iconst 1, 1) := by decide +kernel
theorem dX10_areAlikeFor_45 : decode cX10_areAlikeFor 45 = .ok (.goto 4, 3) := by decide +kernel
theorem dX10_areAlikeFor_48 : decode cX10_areAlikeFor 48 = .ok (.iconst 0, 1) := by decide +kernel
theorem dX10_areAlikeFor_49 : decode cX10_areAlikeFor 49 = .ok (.istore 4, 2) := by decide +kernel
theorem dX10_areAlikeFor_51 : decode cX10_areAlikeFor 51 = .ok (.iinc 5 1, 3) := by decide +kernel
theorem dX10_areAlikeFor_54 : decode cX10_areAlikeFor 54 = .ok (.goto (-48), 3) := by decide +kernel
theorem dX10_areAlikeFor_57 : decode cX10_areAlikeFor 57 = .ok (.iload 4, 2) := by decide +kernel
theorem dX10_areAlikeFor_59 : decode cX10_areAlikeFor 59 = .ok (.ireturn, 1) := by decide +kernel
theorem dX10_rawAt_0 : decode cX10_rawAt 0 = .ok (.bipush 81, 2) := by decide +kernel
theorem dX10_rawAt_2 : decode cX10_rawAt 2 = .ok (.bipush 16, 2) := by decide +kernel
theorem dX10_rawAt_4 : decode cX10_rawAt 4 = .ok (.iload_n 1, 1) := by decide +kernel
theorem dX10_rawAt_5 : decode cX10_rawAt 5 = .ok (.imul, 1) := by decide +kernel
theorem dX10_rawAt_6 : decode cX10_rawAt 6 = .ok (.iload_n 0, 1) := by decide +kernel
theorem dX10_rawAt_7 : decode cX10_rawAt 7 = .ok (.iadd, 1) := by decide +kernel
theorem dX10_rawAt_8 : decode cX10_rawAt 8 = .ok (.imul, 1) := by decide +kernel
theorem dX10_rawAt_9 : decode cX10_rawAt 9 = .ok (.iload_n 2, 1) := by decide +kernel
theorem dX10_rawAt_10 : decode cX10_rawAt 10 = .ok (.iadd, 1) := by decide +kernel
theorem dX10_rawAt_11 : decode cX10_rawAt 11 = .ok (.ireturn, 1) := by decide +kernel
theorem dX10_projected_0 : decode cX10_projected 0 = .ok (.iconst 0, 1) := by decide +kernel
theorem dX10_projected_1 : decode cX10_projected 1 = .ok (.istore_n 3, 1) := by decide +kernel
theorem dX10_projected_2 : decode cX10_projected 2 = .ok (.iconst 0, 1) := by decide +kernel
theorem dX10_projected_3 : decode cX10_projected 3 = .ok (.istore 4, 2) := by decide +kernel
theorem dX10_projected_5 : decode cX10_projected 5 = .ok (.iload 4, 2) := by decide +kernel
theorem dX10_projected_7 : decode cX10_projected 7 = .ok (.aload_n 0, 1) := by decide +kernel
theorem dX10_projected_8 : decode cX10_projected 8 = .ok (.getfield 82, 3) := by decide +kernel
theorem dX10_projected_11 : decode cX10_projected 11 = .ok (.if_icmp .ge 38, 3) := by decide +kernel
theorem dX10_projected_14 : decode cX10_projected 14 = .ok (.iload_n 3, 1) := by decide +kernel
theorem dX10_projected_15 : decode cX10_projected 15 = .ok (.iload_n 1, 1) := by decide +kernel
theorem dX10_projected_16 : decode cX10_projected 16 = .ok (.iload 4, 2) := by decide +kernel
theorem dX10_projected_18 : decode cX10_projected 18 = .ok (.ishr, 1) := by decide +kernel
theorem dX10_projected_19 : decode cX10_projected 19 = .ok (.iconst 1, 1) := by decide +kernel
theorem dX10_projected_20 : decode cX10_projected 20 = .ok (.iand, 1) := by decide +kernel
theorem dX10_projected_21 : decode cX10_projected 21 = .ok (.iconst 1, 1) := by decide +kernel
theorem dX10_projected_22 : decode cX10_projected 22 = .ok (.if_icmp .ne 18, 3) := by decide +kernel
theorem dX10_projected_25 : decode cX10_projected 25 = .ok (.iload 4, 2) := by decide +kernel
theorem dX10_projected_27 : decode cX10_projected 27 = .ok (.invokestatic 97, 3) := by decide +kernel
theorem dX10_projected_30 : decode cX10_projected 30 = .ok (.iload_n 2, 1) := by decide +kernel
theorem dX10_projected_31 : decode cX10_projected 31 = .ok (.iload 4, 2) := by decide +kernel
theorem dX10_projected_33 : decode cX10_projected 33 = .ok (.invokestatic 101, 3) := by decide +kernel
theorem dX10_projected_36 : decode cX10_projected 36 = .ok (.imul, 1) := by decide +kernel
theorem dX10_projected_37 : decode cX10_projected 37 = .ok (.goto 4, 3) := by decide +kernel
theorem dX10_projected_40 : decode cX10_projected 40 = .ok (.iconst 0, 1) := by decide +kernel
theorem dX10_projected_41 : decode cX10_projected 41 = .ok (.iadd, 1) := by decide +kernel
theorem dX10_projected_42 : decode cX10_projected 42 = .ok (.istore_n 3, 1) := by decide +kernel
theorem dX10_projected_43 : decode cX10_projected 43 = .ok (.iinc 4 1, 3) := by decide +kernel
theorem dX10_projected_46 : decode cX10_projected 46 = .ok (.goto (-41), 3) := by decide +kernel
theorem dX10_projected_49 : decode cX10_projected 49 = .ok (.iload_n 3, 1) := by decide +kernel
theorem dX10_projected_50 : decode cX10_projected 50 = .ok (.ireturn, 1) := by decide +kernel
theorem dX10_freshens_0 : decode cX10_freshens 0 = .ok (.iconst 0, 1) := by decide +kernel
theorem dX10_freshens_1 : decode cX10_freshens 1 = .ok (.istore_n 1, 1) := by decide +kernel
theorem dX10_freshens_2 : decode cX10_freshens 2 = .ok (.iload_n 1, 1) := by decide +kernel
theorem dX10_freshens_3 : decode cX10_freshens 3 = .ok (.sipush 15552, 3) := by decide +kernel
theorem dX10_freshens_6 : decode cX10_freshens 6 = .ok (.if_icmp .ge 16, 3) := by decide +kernel
theorem dX10_freshens_9 : decode cX10_freshens 9 = .ok (.aload_n 0, 1) := by decide +kernel
theorem dX10_freshens_10 : decode cX10_freshens 10 = .ok (.getfield 16, 3) := by decide +kernel
theorem dX10_freshens_13 : decode cX10_freshens 13 = .ok (.iload_n 1, 1) := by decide +kernel
theorem dX10_freshens_14 : decode cX10_freshens 14 = .ok (.iconst 0, 1) := by decide +kernel
theorem dX10_freshens_15 : decode cX10_freshens 15 = .ok (.iastore, 1) := by decide +kernel
theorem dX10_freshens_16 : decode cX10_freshens 16 = .ok (.iinc 1 1, 3) := by decide +kernel
theorem dX10_freshens_19 : decode cX10_freshens 19 = .ok (.goto (-17), 3) := by decide +kernel
theorem dX10_freshens_22 : decode cX10_freshens 22 = .ok (.iconst 0, 1) := by decide +kernel
theorem dX10_freshens_23 : decode cX10_freshens 23 = .ok (.istore_n 1, 1) := by decide +kernel
theorem dX10_freshens_24 : decode cX10_freshens 24 = .ok (.iload_n 1, 1) := by decide +kernel
theorem dX10_freshens_25 : decode cX10_freshens 25 = .ok (.aload_n 0, 1) := by decide +kernel
theorem dX10_freshens_26 : decode cX10_freshens 26 = .ok (.getfield 7, 3) := by decide +kernel
theorem dX10_freshens_29 : decode cX10_freshens 29 = .ok (.sipush 1200, 3) := by decide +kernel
theorem dX10_freshens_32 : decode cX10_freshens 32 = .ok (.iaload, 1) := by decide +kernel
theorem dX10_freshens_33 : decode cX10_freshens 33 = .ok (.if_icmp .ge 85, 3) := by decide +kernel
theorem dX10_freshens_36 : decode cX10_freshens 36 = .ok (.iconst 0, 1) := by decide +kernel
theorem dX10_freshens_37 : decode cX10_freshens 37 = .ok (.istore_n 2, 1) := by decide +kernel
theorem dX10_freshens_38 : decode cX10_freshens 38 = .ok (.iload_n 2, 1) := by decide +kernel
theorem dX10_freshens_39 : decode cX10_freshens 39 = .ok (.bipush 81, 2) := by decide +kernel
theorem dX10_freshens_41 : decode cX10_freshens 41 = .ok (.if_icmp .ge 71, 3) := by decide +kernel
theorem dX10_freshens_44 : decode cX10_freshens 44 = .ok (.iconst 0, 1) := by decide +kernel
theorem dX10_freshens_45 : decode cX10_freshens 45 = .ok (.istore_n 3, 1) := by decide +kernel
theorem dX10_freshens_46 : decode cX10_freshens 46 = .ok (.iload_n 3, 1) := by decide +kernel
theorem dX10_freshens_47 : decode cX10_freshens 47 = .ok (.iconst 1, 1) := by decide +kernel
theorem dX10_freshens_48 : decode cX10_freshens 48 = .ok (.aload_n 0, 1) := by decide +kernel
theorem dX10_freshens_49 : decode cX10_freshens 49 = .ok (.getfield 82, 3) := by decide +kernel
theorem dX10_freshens_52 : decode cX10_freshens 52 = .ok (.ishl, 1) := by decide +kernel
theorem dX10_freshens_53 : decode cX10_freshens 53 = .ok (.if_icmp .ge 53, 3) := by decide +kernel
theorem dX10_freshens_56 : decode cX10_freshens 56 = .ok (.aload_n 0, 1) := by decide +kernel
theorem dX10_freshens_57 : decode cX10_freshens 57 = .ok (.iload_n 1, 1) := by decide +kernel
theorem dX10_freshens_58 : decode cX10_freshens 58 = .ok (.iload_n 2, 1) := by decide +kernel
theorem dX10_freshens_59 : decode cX10_freshens 59 = .ok (.invokevirtual 105, 3) := by decide +kernel
theorem dX10_freshens_62 : decode cX10_freshens 62 = .ok (.ifCond .eq 44, 3) := by decide +kernel
theorem dX10_freshens_65 : decode cX10_freshens 65 = .ok (.aload_n 0, 1) := by decide +kernel
theorem dX10_freshens_66 : decode cX10_freshens 66 = .ok (.getfield 16, 3) := by decide +kernel
theorem dX10_freshens_69 : decode cX10_freshens 69 = .ok (.iload_n 3, 1) := by decide +kernel
theorem dX10_freshens_70 : decode cX10_freshens 70 = .ok (.iload_n 1, 1) := by decide +kernel
theorem dX10_freshens_71 : decode cX10_freshens 71 = .ok (.aload_n 0, 1) := by decide +kernel
theorem dX10_freshens_72 : decode cX10_freshens 72 = .ok (.iload_n 3, 1) := by decide +kernel
theorem dX10_freshens_73 : decode cX10_freshens 73 = .ok (.iload_n 2, 1) := by decide +kernel
theorem dX10_freshens_74 : decode cX10_freshens 74 = .ok (.invokevirtual 109, 3) := by decide +kernel
theorem dX10_freshens_77 : decode cX10_freshens 77 = .ok (.invokestatic 112, 3) := by decide +kernel
theorem dX10_freshens_80 : decode cX10_freshens 80 = .ok (.dup2, 1) := by decide +kernel
theorem dX10_freshens_81 : decode cX10_freshens 81 = .ok (.iaload, 1) := by decide +kernel
theorem dX10_freshens_82 : decode cX10_freshens 82 = .ok (.iconst 1, 1) := by decide +kernel
theorem dX10_freshens_83 : decode cX10_freshens 83 = .ok (.aload_n 0, 1) := by decide +kernel
theorem dX10_freshens_84 : decode cX10_freshens 84 = .ok (.getfield 7, 3) := by decide +kernel
theorem dX10_freshens_87 : decode cX10_freshens 87 = .ok (.bipush 100, 2) := by decide +kernel
theorem dX10_freshens_89 : decode cX10_freshens 89 = .ok (.iload_n 1, 1) := by decide +kernel
theorem dX10_freshens_90 : decode cX10_freshens 90 = .ok (.imul, 1) := by decide +kernel
theorem dX10_freshens_91 : decode cX10_freshens 91 = .ok (.bipush 10, 2) := by decide +kernel
theorem dX10_freshens_93 : decode cX10_freshens 93 = .ok (.iadd, 1) := by decide +kernel
theorem dX10_freshens_94 : decode cX10_freshens 94 = .ok (.iload_n 2, 1) := by decide +kernel
theorem dX10_freshens_95 : decode cX10_freshens 95 = .ok (.iadd, 1) := by decide +kernel
theorem dX10_freshens_96 : decode cX10_freshens 96 = .ok (.iaload, 1) := by decide +kernel
theorem dX10_freshens_97 : decode cX10_freshens 97 = .ok (.ishl, 1) := by decide +kernel
theorem dX10_freshens_98 : decode cX10_freshens 98 = .ok (.ior, 1) := by decide +kernel
theorem dX10_freshens_99 : decode cX10_freshens 99 = .ok (.iastore, 1) := by decide +kernel
theorem dX10_freshens_100 : decode cX10_freshens 100 = .ok (.iinc 3 1, 3) := by decide +kernel
theorem dX10_freshens_103 : decode cX10_freshens 103 = .ok (.goto (-57), 3) := by decide +kernel
theorem dX10_freshens_106 : decode cX10_freshens 106 = .ok (.iinc 2 1, 3) := by decide +kernel
theorem dX10_freshens_109 : decode cX10_freshens 109 = .ok (.goto (-71), 3) := by decide +kernel
theorem dX10_freshens_112 : decode cX10_freshens 112 = .ok (.iinc 1 1, 3) := by decide +kernel
theorem dX10_freshens_115 : decode cX10_freshens 115 = .ok (.goto (-91), 3) := by decide +kernel
theorem dX10_freshens_118 : decode cX10_freshens 118 = .ok (.aload_n 0, 1) := by decide +kernel
theorem dX10_freshens_119 : decode cX10_freshens 119 = .ok (.iconst 1, 1) := by decide +kernel
theorem dX10_freshens_120 : decode cX10_freshens 120 = .ok (.putfield 89, 3) := by decide +kernel
theorem dX10_freshens_123 : decode cX10_freshens 123 = .ok (.return_, 1) := by decide +kernel
theorem dX10_outcome_0 : decode cX10_outcome 0 = .ok (.aload_n 0, 1) := by decide +kernel
theorem dX10_outcome_1 : decode cX10_outcome 1 = .ok (.getfield 89, 3) := by decide +kernel
theorem dX10_outcome_4 : decode cX10_outcome 4 = .ok (.ifCond .ne 7, 3) := by decide +kernel
theorem dX10_outcome_7 : decode cX10_outcome 7 = .ok (.aload_n 0, 1) := by decide +kernel
theorem dX10_outcome_8 : decode cX10_outcome 8 = .ok (.invokevirtual 116, 3) := by decide +kernel
theorem dX10_outcome_11 : decode cX10_outcome 11 = .ok (.aload_n 0, 1) := by decide +kernel
theorem dX10_outcome_12 : decode cX10_outcome 12 = .ok (.getfield 16, 3) := by decide +kernel
theorem dX10_outcome_15 : decode cX10_outcome 15 = .ok (.iload_n 1, 1) := by decide +kernel
theorem dX10_outcome_16 : decode cX10_outcome 16 = .ok (.iload_n 2, 1) := by decide +kernel
theorem dX10_outcome_17 : decode cX10_outcome 17 = .ok (.iload_n 3, 1) := by decide +kernel
theorem dX10_outcome_18 : decode cX10_outcome 18 = .ok (.invokestatic 112, 3) := by decide +kernel
theorem dX10_outcome_21 : decode cX10_outcome 21 = .ok (.iaload, 1) := by decide +kernel
theorem dX10_outcome_22 : decode cX10_outcome 22 = .ok (.ireturn, 1) := by decide +kernel
theorem dX10_forcing_0 : decode cX10_forcing 0 = .ok (.iconst 0, 1) := by decide +kernel
theorem dX10_forcing_1 : decode cX10_forcing 1 = .ok (.istore 4, 2) := by decide +kernel
theorem dX10_forcing_3 : decode cX10_forcing 3 = .ok (.iload 4, 2) := by decide +kernel
theorem dX10_forcing_5 : decode cX10_forcing 5 = .ok (.bipush 81, 2) := by decide +kernel
theorem dX10_forcing_7 : decode cX10_forcing 7 = .ok (.if_icmp .ge 36, 3) := by decide +kernel
theorem dX10_forcing_10 : decode cX10_forcing 10 = .ok (.aload_n 0, 1) := by decide +kernel
theorem dX10_forcing_11 : decode cX10_forcing 11 = .ok (.iload_n 1, 1) := by decide +kernel
theorem dX10_forcing_12 : decode cX10_forcing 12 = .ok (.iload_n 2, 1) := by decide +kernel
theorem dX10_forcing_13 : decode cX10_forcing 13 = .ok (.iload 4, 2) := by decide +kernel
theorem dX10_forcing_15 : decode cX10_forcing 15 = .ok (.invokevirtual 119, 3) := by decide +kernel
theorem dX10_forcing_18 : decode cX10_forcing 18 = .ok (.istore 5, 2) := by decide +kernel
theorem dX10_forcing_20 : decode cX10_forcing 20 = .ok (.iload 5, 2) := by decide +kernel
theorem dX10_forcing_22 : decode cX10_forcing 22 = .ok (.ifCond .eq 15, 3) := by decide +kernel
theorem dX10_forcing_25 : decode cX10_forcing 25 = .ok (.iload 5, 2) := by decide +kernel
theorem dX10_forcing_27 : decode cX10_forcing 27 = .ok (.iload_n 3, 1) := by decide +kernel
theorem dX10_forcing_28 : decode cX10_forcing 28 = .ok (.iconst (-1), 1) := by decide +kernel
theorem dX10_forcing_29 : decode cX10_forcing 29 = .ok (.ixor, 1) := by decide +kernel
theorem dX10_forcing_30 : decode cX10_forcing 30 = .ok (.iand, 1) := by decide +kernel
theorem dX10_forcing_31 : decode cX10_forcing 31 = .ok (.ifCond .ne 6, 3) := by decide +kernel
theorem dX10_forcing_34 : decode cX10_forcing 34 = .ok (.iload 4, 2) := by decide +kernel
theorem dX10_forcing_36 : decode cX10_forcing 36 = .ok (.ireturn, 1) := by decide +kernel
theorem dX10_forcing_37 : decode cX10_forcing 37 = .ok (.iinc 4 1, 3) := by decide +kernel
theorem dX10_forcing_40 : decode cX10_forcing 40 = .ok (.goto (-37), 3) := by decide +kernel
theorem dX10_forcing_43 : decode cX10_forcing 43 = .ok (.bipush (-9), 2) := by decide +kernel
theorem dX10_forcing_45 : decode cX10_forcing 45 = .ok (.ireturn, 1) := by decide +kernel
theorem dX10_agents_0 : decode cX10_agents 0 = .ok (.aload_n 0, 1) := by decide +kernel
theorem dX10_agents_1 : decode cX10_agents 1 = .ok (.getfield 82, 3) := by decide +kernel
theorem dX10_agents_4 : decode cX10_agents 4 = .ok (.ireturn, 1) := by decide +kernel
theorem dX10_leadsBack_0 : decode cX10_leadsBack 0 = .ok (.iconst 0, 1) := by decide +kernel
theorem dX10_leadsBack_1 : decode cX10_leadsBack 1 = .ok (.istore_n 2, 1) := by decide +kernel
theorem dX10_leadsBack_2 : decode cX10_leadsBack 2 = .ok (.iload_n 2, 1) := by decide +kernel
theorem dX10_leadsBack_3 : decode cX10_leadsBack 3 = .ok (.bipush 81, 2) := by decide +kernel
theorem dX10_leadsBack_5 : decode cX10_leadsBack 5 = .ok (.if_icmp .ge 24, 3) := by decide +kernel
theorem dX10_leadsBack_8 : decode cX10_leadsBack 8 = .ok (.aload_n 0, 1) := by decide +kernel
theorem dX10_leadsBack_9 : decode cX10_leadsBack 9 = .ok (.getfield 7, 3) := by decide +kernel
theorem dX10_leadsBack_12 : decode cX10_leadsBack 12 = .ok (.bipush 100, 2) := by decide +kernel
theorem dX10_leadsBack_14 : decode cX10_leadsBack 14 = .ok (.iload_n 1, 1) := by decide +kernel
theorem dX10_leadsBack_15 : decode cX10_leadsBack 15 = .ok (.imul, 1) := by decide +kernel
theorem dX10_leadsBack_16 : decode cX10_leadsBack 16 = .ok (.bipush 10, 2) := by decide +kernel
theorem dX10_leadsBack_18 : decode cX10_leadsBack 18 = .ok (.iadd, 1) := by decide +kernel
theorem dX10_leadsBack_19 : decode cX10_leadsBack 19 = .ok (.iload_n 2, 1) := by decide +kernel
theorem dX10_leadsBack_20 : decode cX10_leadsBack 20 = .ok (.iadd, 1) := by decide +kernel
theorem dX10_leadsBack_21 : decode cX10_leadsBack 21 = .ok (.iload_n 1, 1) := by decide +kernel
theorem dX10_leadsBack_22 : decode cX10_leadsBack 22 = .ok (.iastore, 1) := by decide +kernel
theorem dX10_leadsBack_23 : decode cX10_leadsBack 23 = .ok (.iinc 2 1, 3) := by decide +kernel
theorem dX10_leadsBack_26 : decode cX10_leadsBack 26 = .ok (.goto (-24), 3) := by decide +kernel
theorem dX10_leadsBack_29 : decode cX10_leadsBack 29 = .ok (.return_, 1) := by decide +kernel
theorem dX10_addState_0 : decode cX10_addState 0 = .ok (.aload_n 0, 1) := by decide +kernel
theorem dX10_addState_1 : decode cX10_addState 1 = .ok (.getfield 7, 3) := by decide +kernel
theorem dX10_addState_4 : decode cX10_addState 4 = .ok (.sipush 1200, 3) := by decide +kernel
theorem dX10_addState_7 : decode cX10_addState 7 = .ok (.iaload, 1) := by decide +kernel
theorem dX10_addState_8 : decode cX10_addState 8 = .ok (.bipush 12, 2) := by decide +kernel
theorem dX10_addState_10 : decode cX10_addState 10 = .ok (.if_icmp .ne 6, 3) := by decide +kernel
theorem dX10_addState_13 : decode cX10_addState 13 = .ok (.bipush (-2), 2) := by decide +kernel
theorem dX10_addState_15 : decode cX10_addState 15 = .ok (.ireturn, 1) := by decide +kernel
theorem dX10_addState_16 : decode cX10_addState 16 = .ok (.aload_n 0, 1) := by decide +kernel
theorem dX10_addState_17 : decode cX10_addState 17 = .ok (.invokevirtual 122, 3) := by decide +kernel
theorem dX10_addState_20 : decode cX10_addState 20 = .ok (.aload_n 0, 1) := by decide +kernel
theorem dX10_addState_21 : decode cX10_addState 21 = .ok (.getfield 7, 3) := by decide +kernel
theorem dX10_addState_24 : decode cX10_addState 24 = .ok (.sipush 1200, 3) := by decide +kernel
theorem dX10_addState_27 : decode cX10_addState 27 = .ok (.iaload, 1) := by decide +kernel
theorem dX10_addState_28 : decode cX10_addState 28 = .ok (.istore_n 1, 1) := by decide +kernel
theorem dX10_addState_29 : decode cX10_addState 29 = .ok (.aload_n 0, 1) := by decide +kernel
theorem dX10_addState_30 : decode cX10_addState 30 = .ok (.getfield 7, 3) := by decide +kernel
theorem dX10_addState_33 : decode cX10_addState 33 = .ok (.bipush 100, 2) := by decide +kernel
theorem dX10_addState_35 : decode cX10_addState 35 = .ok (.iload_n 1, 1) := by decide +kernel
theorem dX10_addState_36 : decode cX10_addState 36 = .ok (.imul, 1) := by decide +kernel
theorem dX10_addState_37 : decode cX10_addState 37 = .ok (.iconst 0, 1) := by decide +kernel
theorem dX10_addState_38 : decode cX10_addState 38 = .ok (.iadd, 1) := by decide +kernel
theorem dX10_addState_39 : decode cX10_addState 39 = .ok (.iconst 0, 1) := by decide +kernel
theorem dX10_addState_40 : decode cX10_addState 40 = .ok (.iastore, 1) := by decide +kernel
theorem dX10_addState_41 : decode cX10_addState 41 = .ok (.iconst 0, 1) := by decide +kernel
theorem dX10_addState_42 : decode cX10_addState 42 = .ok (.istore_n 2, 1) := by decide +kernel
theorem dX10_addState_43 : decode cX10_addState 43 = .ok (.iload_n 2, 1) := by decide +kernel
theorem dX10_addState_44 : decode cX10_addState 44 = .ok (.iconst 4, 1) := by decide +kernel
theorem dX10_addState_45 : decode cX10_addState 45 = .ok (.if_icmp .ge 37, 3) := by decide +kernel
theorem dX10_addState_48 : decode cX10_addState 48 = .ok (.aload_n 0, 1) := by decide +kernel
theorem dX10_addState_49 : decode cX10_addState 49 = .ok (.getfield 7, 3) := by decide +kernel
theorem dX10_addState_52 : decode cX10_addState 52 = .ok (.bipush 100, 2) := by decide +kernel
theorem dX10_addState_54 : decode cX10_addState 54 = .ok (.iload_n 1, 1) := by decide +kernel
theorem dX10_addState_55 : decode cX10_addState 55 = .ok (.imul, 1) := by decide +kernel
theorem dX10_addState_56 : decode cX10_addState 56 = .ok (.iconst 1, 1) := by decide +kernel
theorem dX10_addState_57 : decode cX10_addState 57 = .ok (.iadd, 1) := by decide +kernel
theorem dX10_addState_58 : decode cX10_addState 58 = .ok (.iload_n 2, 1) := by decide +kernel
theorem dX10_addState_59 : decode cX10_addState 59 = .ok (.iadd, 1) := by decide +kernel
theorem dX10_addState_60 : decode cX10_addState 60 = .ok (.iconst 1, 1) := by decide +kernel
theorem dX10_addState_61 : decode cX10_addState 61 = .ok (.iastore, 1) := by decide +kernel
theorem dX10_addState_62 : decode cX10_addState 62 = .ok (.aload_n 0, 1) := by decide +kernel
theorem dX10_addState_63 : decode cX10_addState 63 = .ok (.getfield 7, 3) := by decide +kernel
theorem dX10_addState_66 : decode cX10_addState 66 = .ok (.bipush 100, 2) := by decide +kernel
theorem dX10_addState_68 : decode cX10_addState 68 = .ok (.iload_n 1, 1) := by decide +kernel
theorem dX10_addState_69 : decode cX10_addState 69 = .ok (.imul, 1) := by decide +kernel
theorem dX10_addState_70 : decode cX10_addState 70 = .ok (.iconst 5, 1) := by decide +kernel
theorem dX10_addState_71 : decode cX10_addState 71 = .ok (.iadd, 1) := by decide +kernel
theorem dX10_addState_72 : decode cX10_addState 72 = .ok (.iload_n 2, 1) := by decide +kernel
theorem dX10_addState_73 : decode cX10_addState 73 = .ok (.iadd, 1) := by decide +kernel
theorem dX10_addState_74 : decode cX10_addState 74 = .ok (.iconst 0, 1) := by decide +kernel
theorem dX10_addState_75 : decode cX10_addState 75 = .ok (.iastore, 1) := by decide +kernel
theorem dX10_addState_76 : decode cX10_addState 76 = .ok (.iinc 2 1, 3) := by decide +kernel
theorem dX10_addState_79 : decode cX10_addState 79 = .ok (.goto (-36), 3) := by decide +kernel
theorem dX10_addState_82 : decode cX10_addState 82 = .ok (.aload_n 0, 1) := by decide +kernel
theorem dX10_addState_83 : decode cX10_addState 83 = .ok (.iload_n 1, 1) := by decide +kernel
theorem dX10_addState_84 : decode cX10_addState 84 = .ok (.invokevirtual 125, 3) := by decide +kernel
theorem dX10_addState_87 : decode cX10_addState 87 = .ok (.aload_n 0, 1) := by decide +kernel
theorem dX10_addState_88 : decode cX10_addState 88 = .ok (.getfield 7, 3) := by decide +kernel
theorem dX10_addState_91 : decode cX10_addState 91 = .ok (.sipush 1200, 3) := by decide +kernel
theorem dX10_addState_94 : decode cX10_addState 94 = .ok (.dup2, 1) := by decide +kernel
theorem dX10_addState_95 : decode cX10_addState 95 = .ok (.iaload, 1) := by decide +kernel
theorem dX10_addState_96 : decode cX10_addState 96 = .ok (.iconst 1, 1) := by decide +kernel
theorem dX10_addState_97 : decode cX10_addState 97 = .ok (.iadd, 1) := by decide +kernel
theorem dX10_addState_98 : decode cX10_addState 98 = .ok (.iastore, 1) := by decide +kernel
theorem dX10_addState_99 : decode cX10_addState 99 = .ok (.iload_n 1, 1) := by decide +kernel
theorem dX10_addState_100 : decode cX10_addState 100 = .ok (.ireturn, 1) := by decide +kernel
theorem dX10_states_0 : decode cX10_states 0 = .ok (.aload_n 0, 1) := by decide +kernel
theorem dX10_states_1 : decode cX10_states 1 = .ok (.getfield 7, 3) := by decide +kernel
theorem dX10_states_4 : decode cX10_states 4 = .ok (.sipush 1200, 3) := by decide +kernel
theorem dX10_states_7 : decode cX10_states 7 = .ok (.iaload, 1) := by decide +kernel
theorem dX10_states_8 : decode cX10_states 8 = .ok (.ireturn, 1) := by decide +kernel
theorem dX10_setActions_0 : decode cX10_setActions 0 = .ok (.aload_n 0, 1) := by decide +kernel
theorem dX10_setActions_1 : decode cX10_setActions 1 = .ok (.iload_n 1, 1) := by decide +kernel
theorem dX10_setActions_2 : decode cX10_setActions 2 = .ok (.invokevirtual 129, 3) := by decide +kernel
theorem dX10_setActions_5 : decode cX10_setActions 5 = .ok (.ifCond .eq 20, 3) := by decide +kernel
theorem dX10_setActions_8 : decode cX10_setActions 8 = .ok (.aload_n 0, 1) := by decide +kernel
theorem dX10_setActions_9 : decode cX10_setActions 9 = .ok (.iload_n 2, 1) := by decide +kernel
theorem dX10_setActions_10 : decode cX10_setActions 10 = .ok (.invokevirtual 133, 3) := by decide +kernel
theorem dX10_setActions_13 : decode cX10_setActions 13 = .ok (.ifCond .eq 12, 3) := by decide +kernel
theorem dX10_setActions_16 : decode cX10_setActions 16 = .ok (.iload_n 3, 1) := by decide +kernel
theorem dX10_setActions_17 : decode cX10_setActions 17 = .ok (.iconst 1, 1) := by decide +kernel
theorem dX10_setActions_18 : decode cX10_setActions 18 = .ok (.iconst 3, 1) := by decide +kernel
theorem dX10_setActions_19 : decode cX10_setActions 19 = .ok (.invokestatic 93, 3) := by decide +kernel
theorem dX10_setActions_22 : decode cX10_setActions 22 = .ok (.ifCond .ne 5, 3) := by decide +kernel
theorem dX10_setActions_25 : decode cX10_setActions 25 = .ok (.iconst (-1), 1) := by decide +kernel
theorem dX10_setActions_26 : decode cX10_setActions 26 = .ok (.ireturn, 1) := by decide +kernel
theorem dX10_setActions_27 : decode cX10_setActions 27 = .ok (.aload_n 0, 1) := by decide +kernel
theorem dX10_setActions_28 : decode cX10_setActions 28 = .ok (.invokevirtual 122, 3) := by decide +kernel
theorem dX10_setActions_31 : decode cX10_setActions 31 = .ok (.aload_n 0, 1) := by decide +kernel
theorem dX10_setActions_32 : decode cX10_setActions 32 = .ok (.getfield 7, 3) := by decide +kernel
theorem dX10_setActions_35 : decode cX10_setActions 35 = .ok (.bipush 100, 2) := by decide +kernel
theorem dX10_setActions_37 : decode cX10_setActions 37 = .ok (.iload_n 1, 1) := by decide +kernel
theorem dX10_setActions_38 : decode cX10_setActions 38 = .ok (.imul, 1) := by decide +kernel
theorem dX10_setActions_39 : decode cX10_setActions 39 = .ok (.iconst 1, 1) := by decide +kernel
theorem dX10_setActions_40 : decode cX10_setActions 40 = .ok (.iadd, 1) := by decide +kernel
theorem dX10_setActions_41 : decode cX10_setActions 41 = .ok (.iload_n 2, 1) := by decide +kernel
theorem dX10_setActions_42 : decode cX10_setActions 42 = .ok (.iadd, 1) := by decide +kernel
theorem dX10_setActions_43 : decode cX10_setActions 43 = .ok (.iaload, 1) := by decide +kernel
theorem dX10_setActions_44 : decode cX10_setActions 44 = .ok (.istore 4, 2) := by decide +kernel
theorem dX10_setActions_46 : decode cX10_setActions 46 = .ok (.aload_n 0, 1) := by decide +kernel
theorem dX10_setActions_47 : decode cX10_setActions 47 = .ok (.getfield 7, 3) := by decide +kernel
theorem dX10_setActions_50 : decode cX10_setActions 50 = .ok (.bipush 100, 2) := by decide +kernel
theorem dX10_setActions_52 : decode cX10_setActions 52 = .ok (.iload_n 1, 1) := by decide +kernel
theorem dX10_setActions_53 : decode cX10_setActions 53 = .ok (.imul, 1) := by decide +kernel
theorem dX10_setActions_54 : decode cX10_setActions 54 = .ok (.iconst 1, 1) := by decide +kernel
theorem dX10_setActions_55 : decode cX10_setActions 55 = .ok (.iadd, 1) := by decide +kernel
theorem dX10_setActions_56 : decode cX10_setActions 56 = .ok (.iload_n 2, 1) := by decide +kernel
theorem dX10_setActions_57 : decode cX10_setActions 57 = .ok (.iadd, 1) := by decide +kernel
theorem dX10_setActions_58 : decode cX10_setActions 58 = .ok (.iload_n 3, 1) := by decide +kernel
theorem dX10_setActions_59 : decode cX10_setActions 59 = .ok (.iastore, 1) := by decide +kernel
theorem dX10_setActions_60 : decode cX10_setActions 60 = .ok (.aload_n 0, 1) := by decide +kernel
theorem dX10_setActions_61 : decode cX10_setActions 61 = .ok (.iload_n 1, 1) := by decide +kernel
theorem dX10_setActions_62 : decode cX10_setActions 62 = .ok (.invokevirtual 125, 3) := by decide +kernel
theorem dX10_setActions_65 : decode cX10_setActions 65 = .ok (.iload 4, 2) := by decide +kernel
theorem dX10_setActions_67 : decode cX10_setActions 67 = .ok (.ireturn, 1) := by decide +kernel
theorem dX10_actions_0 : decode cX10_actions 0 = .ok (.aload_n 0, 1) := by decide +kernel
theorem dX10_actions_1 : decode cX10_actions 1 = .ok (.iload_n 1, 1) := by decide +kernel
theorem dX10_actions_2 : decode cX10_actions 2 = .ok (.invokevirtual 129, 3) := by decide +kernel
theorem dX10_actions_5 : decode cX10_actions 5 = .ok (.ifCond .eq 27, 3) := by decide +kernel
theorem dX10_actions_8 : decode cX10_actions 8 = .ok (.aload_n 0, 1) := by decide +kernel
theorem dX10_actions_9 : decode cX10_actions 9 = .ok (.iload_n 2, 1) := by decide +kernel
theorem dX10_actions_10 : decode cX10_actions 10 = .ok (.invokevirtual 133, 3) := by decide +kernel
theorem dX10_actions_13 : decode cX10_actions 13 = .ok (.ifCond .eq 19, 3) := by decide +kernel
theorem dX10_actions_16 : decode cX10_actions 16 = .ok (.aload_n 0, 1) := by decide +kernel
theorem dX10_actions_17 : decode cX10_actions 17 = .ok (.getfield 7, 3) := by decide +kernel
theorem dX10_actions_20 : decode cX10_actions 20 = .ok (.bipush 100, 2) := by decide +kernel
theorem dX10_actions_22 : decode cX10_actions 22 = .ok (.iload_n 1, 1) := by decide +kernel
theorem dX10_actions_23 : decode cX10_actions 23 = .ok (.imul, 1) := by decide +kernel
theorem dX10_actions_24 : decode cX10_actions 24 = .ok (.iconst 1, 1) := by decide +kernel
theorem dX10_actions_25 : decode cX10_actions 25 = .ok (.iadd, 1) := by decide +kernel
theorem dX10_actions_26 : decode cX10_actions 26 = .ok (.iload_n 2, 1) := by decide +kernel
theorem dX10_actions_27 : decode cX10_actions 27 = .ok (.iadd, 1) := by decide +kernel
theorem dX10_actions_28 : decode cX10_actions 28 = .ok (.iaload, 1) := by decide +kernel
theorem dX10_actions_29 : decode cX10_actions 29 = .ok (.goto 4, 3) := by decide +kernel
theorem dX10_actions_32 : decode cX10_actions 32 = .ok (.iconst (-1), 1) := by decide +kernel
theorem dX10_actions_33 : decode cX10_actions 33 = .ok (.ireturn, 1) := by decide +kernel
theorem dX10_label_0 : decode cX10_label 0 = .ok (.aload_n 0, 1) := by decide +kernel
theorem dX10_label_1 : decode cX10_label 1 = .ok (.iload_n 1, 1) := by decide +kernel
theorem dX10_label_2 : decode cX10_label 2 = .ok (.invokevirtual 129, 3) := by decide +kernel
theorem dX10_label_5 : decode cX10_label 5 = .ok (.ifCond .eq 14, 3) := by decide +kernel
theorem dX10_label_8 : decode cX10_label 8 = .ok (.iload_n 2, 1) := by decide +kernel
theorem dX10_label_9 : decode cX10_label 9 = .ok (.bipush 97, 2) := by decide +kernel
theorem dX10_label_11 : decode cX10_label 11 = .ok (.bipush 122, 2) := by decide +kernel
theorem dX10_label_13 : decode cX10_label 13 = .ok (.invokestatic 93, 3) := by decide +kernel
theorem dX10_label_16 : decode cX10_label 16 = .ok (.ifCond .ne 5, 3) := by decide +kernel
theorem dX10_label_19 : decode cX10_label 19 = .ok (.iconst (-1), 1) := by decide +kernel
theorem dX10_label_20 : decode cX10_label 20 = .ok (.ireturn, 1) := by decide +kernel
theorem dX10_label_21 : decode cX10_label 21 = .ok (.aload_n 0, 1) := by decide +kernel
theorem dX10_label_22 : decode cX10_label 22 = .ok (.invokevirtual 122, 3) := by decide +kernel
theorem dX10_label_25 : decode cX10_label 25 = .ok (.iconst 1, 1) := by decide +kernel
theorem dX10_label_26 : decode cX10_label 26 = .ok (.iload_n 2, 1) := by decide +kernel
theorem dX10_label_27 : decode cX10_label 27 = .ok (.bipush 97, 2) := by decide +kernel
theorem dX10_label_29 : decode cX10_label 29 = .ok (.isub, 1) := by decide +kernel
theorem dX10_label_30 : decode cX10_label 30 = .ok (.ishl, 1) := by decide +kernel
theorem dX10_label_31 : decode cX10_label 31 = .ok (.istore 4, 2) := by decide +kernel
theorem dX10_label_33 : decode cX10_label 33 = .ok (.aload_n 0, 1) := by decide +kernel
theorem dX10_label_34 : decode cX10_label 34 = .ok (.getfield 7, 3) := by decide +kernel
theorem dX10_label_37 : decode cX10_label 37 = .ok (.bipush 100, 2) := by decide +kernel
theorem dX10_label_39 : decode cX10_label 39 = .ok (.iload_n 1, 1) := by decide +kernel
theorem dX10_label_40 : decode cX10_label 40 = .ok (.imul, 1) := by decide +kernel
theorem dX10_label_41 : decode cX10_label 41 = .ok (.iconst 0, 1) := by decide +kernel
theorem dX10_label_42 : decode cX10_label 42 = .ok (.iadd, 1) := by decide +kernel
theorem dX10_label_43 : decode cX10_label 43 = .ok (.iaload, 1) := by decide +kernel
theorem dX10_label_44 : decode cX10_label 44 = .ok (.istore 5, 2) := by decide +kernel
theorem dX10_label_46 : decode cX10_label 46 = .ok (.aload_n 0, 1) := by decide +kernel
theorem dX10_label_47 : decode cX10_label 47 = .ok (.getfield 7, 3) := by decide +kernel
theorem dX10_label_50 : decode cX10_label 50 = .ok (.bipush 100, 2) := by decide +kernel
theorem dX10_label_52 : decode cX10_label 52 = .ok (.iload_n 1, 1) := by decide +kernel
theorem dX10_label_53 : decode cX10_label 53 = .ok (.imul, 1) := by decide +kernel
theorem dX10_label_54 : decode cX10_label 54 = .ok (.iconst 0, 1) := by decide +kernel
theorem dX10_label_55 : decode cX10_label 55 = .ok (.iadd, 1) := by decide +kernel
theorem dX10_label_56 : decode cX10_label 56 = .ok (.iload_n 3, 1) := by decide +kernel
theorem dX10_label_57 : decode cX10_label 57 = .ok (.ifCond .eq 11, 3) := by decide +kernel
theorem dX10_label_60 : decode cX10_label 60 = .ok (.iload 5, 2) := by decide +kernel
theorem dX10_label_62 : decode cX10_label 62 = .ok (.iload 4, 2) := by decide +kernel
theorem dX10_label_64 : decode cX10_label 64 = .ok (.ior, 1) := by decide +kernel
theorem dX10_label_65 : decode cX10_label 65 = .ok (.goto 10, 3) := by decide +kernel
theorem dX10_label_68 : decode cX10_label 68 = .ok (.iload 5, 2) := by decide +kernel
theorem dX10_label_70 : decode cX10_label 70 = .ok (.iload 4, 2) := by decide +kernel
theorem dX10_label_72 : decode cX10_label 72 = .ok (.iconst (-1), 1) := by decide +kernel
theorem dX10_label_73 : decode cX10_label 73 = .ok (.ixor, 1) := by decide +kernel
theorem dX10_label_74 : decode cX10_label 74 = .ok (.iand, 1) := by decide +kernel
theorem dX10_label_75 : decode cX10_label 75 = .ok (.iastore, 1) := by decide +kernel
theorem dX10_label_76 : decode cX10_label 76 = .ok (.iload 5, 2) := by decide +kernel
theorem dX10_label_78 : decode cX10_label 78 = .ok (.iload 4, 2) := by decide +kernel
theorem dX10_label_80 : decode cX10_label 80 = .ok (.iand, 1) := by decide +kernel
theorem dX10_label_81 : decode cX10_label 81 = .ok (.ifCond .eq 7, 3) := by decide +kernel
theorem dX10_label_84 : decode cX10_label 84 = .ok (.iconst 1, 1) := by decide +kernel
theorem dX10_label_85 : decode cX10_label 85 = .ok (.goto 4, 3) := by decide +kernel
theorem dX10_label_88 : decode cX10_label 88 = .ok (.iconst 0, 1) := by decide +kernel
theorem dX10_label_89 : decode cX10_label 89 = .ok (.ireturn, 1) := by decide +kernel
theorem dX10_labels_0 : decode cX10_labels 0 = .ok (.aload_n 0, 1) := by decide +kernel
theorem dX10_labels_1 : decode cX10_labels 1 = .ok (.iload_n 1, 1) := by decide +kernel
theorem dX10_labels_2 : decode cX10_labels 2 = .ok (.invokevirtual 129, 3) := by decide +kernel
theorem dX10_labels_5 : decode cX10_labels 5 = .ok (.ifCond .eq 17, 3) := by decide +kernel
theorem dX10_labels_8 : decode cX10_labels 8 = .ok (.aload_n 0, 1) := by decide +kernel
theorem dX10_labels_9 : decode cX10_labels 9 = .ok (.getfield 7, 3) := by decide +kernel
theorem dX10_labels_12 : decode cX10_labels 12 = .ok (.bipush 100, 2) := by decide +kernel
theorem dX10_labels_14 : decode cX10_labels 14 = .ok (.iload_n 1, 1) := by decide +kernel
theorem dX10_labels_15 : decode cX10_labels 15 = .ok (.imul, 1) := by decide +kernel
theorem dX10_labels_16 : decode cX10_labels 16 = .ok (.iconst 0, 1) := by decide +kernel
theorem dX10_labels_17 : decode cX10_labels 17 = .ok (.iadd, 1) := by decide +kernel
theorem dX10_labels_18 : decode cX10_labels 18 = .ok (.iaload, 1) := by decide +kernel
theorem dX10_labels_19 : decode cX10_labels 19 = .ok (.goto 4, 3) := by decide +kernel
theorem dX10_labels_22 : decode cX10_labels 22 = .ok (.iconst (-1), 1) := by decide +kernel
theorem dX10_labels_23 : decode cX10_labels 23 = .ok (.ireturn, 1) := by decide +kernel
theorem dX10_setMove_0 : decode cX10_setMove 0 = .ok (.aload_n 0, 1) := by decide +kernel
theorem dX10_setMove_1 : decode cX10_setMove 1 = .ok (.iload_n 1, 1) := by decide +kernel
theorem dX10_setMove_2 : decode cX10_setMove 2 = .ok (.invokevirtual 129, 3) := by decide +kernel
theorem dX10_setMove_5 : decode cX10_setMove 5 = .ok (.ifCond .eq 20, 3) := by decide +kernel
theorem dX10_setMove_8 : decode cX10_setMove 8 = .ok (.aload_n 0, 1) := by decide +kernel
theorem dX10_setMove_9 : decode cX10_setMove 9 = .ok (.iload_n 3, 1) := by decide +kernel
theorem dX10_setMove_10 : decode cX10_setMove 10 = .ok (.invokevirtual 129, 3) := by decide +kernel
theorem dX10_setMove_13 : decode cX10_setMove 13 = .ok (.ifCond .eq 12, 3) := by decide +kernel
theorem dX10_setMove_16 : decode cX10_setMove 16 = .ok (.aload_n 0, 1) := by decide +kernel
theorem dX10_setMove_17 : decode cX10_setMove 17 = .ok (.iload_n 1, 1) := by decide +kernel
theorem dX10_setMove_18 : decode cX10_setMove 18 = .ok (.iload_n 2, 1) := by decide +kernel
theorem dX10_setMove_19 : decode cX10_setMove 19 = .ok (.invokevirtual 105, 3) := by decide +kernel
theorem dX10_setMove_22 : decode cX10_setMove 22 = .ok (.ifCond .ne 5, 3) := by decide +kernel
theorem dX10_setMove_25 : decode cX10_setMove 25 = .ok (.iconst (-1), 1) := by decide +kernel
theorem dX10_setMove_26 : decode cX10_setMove 26 = .ok (.ireturn, 1) := by decide +kernel
theorem dX10_setMove_27 : decode cX10_setMove 27 = .ok (.aload_n 0, 1) := by decide +kernel
theorem dX10_setMove_28 : decode cX10_setMove 28 = .ok (.invokevirtual 122, 3) := by decide +kernel
theorem dX10_setMove_31 : decode cX10_setMove 31 = .ok (.aload_n 0, 1) := by decide +kernel
theorem dX10_setMove_32 : decode cX10_setMove 32 = .ok (.getfield 7, 3) := by decide +kernel
theorem dX10_setMove_35 : decode cX10_setMove 35 = .ok (.bipush 100, 2) := by decide +kernel
theorem dX10_setMove_37 : decode cX10_setMove 37 = .ok (.iload_n 1, 1) := by decide +kernel
theorem dX10_setMove_38 : decode cX10_setMove 38 = .ok (.imul, 1) := by decide +kernel
theorem dX10_setMove_39 : decode cX10_setMove 39 = .ok (.bipush 10, 2) := by decide +kernel
theorem dX10_setMove_41 : decode cX10_setMove 41 = .ok (.iadd, 1) := by decide +kernel
theorem dX10_setMove_42 : decode cX10_setMove 42 = .ok (.iload_n 2, 1) := by decide +kernel
theorem dX10_setMove_43 : decode cX10_setMove 43 = .ok (.iadd, 1) := by decide +kernel
theorem dX10_setMove_44 : decode cX10_setMove 44 = .ok (.iaload, 1) := by decide +kernel
theorem dX10_setMove_45 : decode cX10_setMove 45 = .ok (.istore 4, 2) := by decide +kernel
theorem dX10_setMove_47 : decode cX10_setMove 47 = .ok (.aload_n 0, 1) := by decide +kernel
theorem dX10_setMove_48 : decode cX10_setMove 48 = .ok (.getfield 7, 3) := by decide +kernel
theorem dX10_setMove_51 : decode cX10_setMove 51 = .ok (.bipush 100, 2) := by decide +kernel
theorem dX10_setMove_53 : decode cX10_setMove 53 = .ok (.iload_n 1, 1) := by decide +kernel
theorem dX10_setMove_54 : decode cX10_setMove 54 = .ok (.imul, 1) := by decide +kernel
theorem dX10_setMove_55 : decode cX10_setMove 55 = .ok (.bipush 10, 2) := by decide +kernel
theorem dX10_setMove_57 : decode cX10_setMove 57 = .ok (.iadd, 1) := by decide +kernel
theorem dX10_setMove_58 : decode cX10_setMove 58 = .ok (.iload_n 2, 1) := by decide +kernel
theorem dX10_setMove_59 : decode cX10_setMove 59 = .ok (.iadd, 1) := by decide +kernel
theorem dX10_setMove_60 : decode cX10_setMove 60 = .ok (.iload_n 3, 1) := by decide +kernel
theorem dX10_setMove_61 : decode cX10_setMove 61 = .ok (.iastore, 1) := by decide +kernel
theorem dX10_setMove_62 : decode cX10_setMove 62 = .ok (.iload 4, 2) := by decide +kernel
theorem dX10_setMove_64 : decode cX10_setMove 64 = .ok (.ireturn, 1) := by decide +kernel
theorem dX10_setAll_0 : decode cX10_setAll 0 = .ok (.aload_n 0, 1) := by decide +kernel
theorem dX10_setAll_1 : decode cX10_setAll 1 = .ok (.iload_n 1, 1) := by decide +kernel
theorem dX10_setAll_2 : decode cX10_setAll 2 = .ok (.invokevirtual 129, 3) := by decide +kernel
theorem dX10_setAll_5 : decode cX10_setAll 5 = .ok (.ifCond .eq 43, 3) := by decide +kernel
theorem dX10_setAll_8 : decode cX10_setAll 8 = .ok (.aload_n 0, 1) := by decide +kernel
theorem dX10_setAll_9 : decode cX10_setAll 9 = .ok (.iload_n 2, 1) := by decide +kernel
theorem dX10_setAll_10 : decode cX10_setAll 10 = .ok (.invokevirtual 133, 3) := by decide +kernel
theorem dX10_setAll_13 : decode cX10_setAll 13 = .ok (.ifCond .eq 35, 3) := by decide +kernel
theorem dX10_setAll_16 : decode cX10_setAll 16 = .ok (.aload_n 0, 1) := by decide +kernel
theorem dX10_setAll_17 : decode cX10_setAll 17 = .ok (.iload 4, 2) := by decide +kernel
theorem dX10_setAll_19 : decode cX10_setAll 19 = .ok (.invokevirtual 129, 3) := by decide +kernel
theorem dX10_setAll_22 : decode cX10_setAll 22 = .ok (.ifCond .eq 26, 3) := by decide +kernel
theorem dX10_setAll_25 : decode cX10_setAll 25 = .ok (.iload_n 3, 1) := by decide +kernel
theorem dX10_setAll_26 : decode cX10_setAll 26 = .ok (.iconst 0, 1) := by decide +kernel
theorem dX10_setAll_27 : decode cX10_setAll 27 = .ok (.aload_n 0, 1) := by decide +kernel
theorem dX10_setAll_28 : decode cX10_setAll 28 = .ok (.getfield 7, 3) := by decide +kernel
theorem dX10_setAll_31 : decode cX10_setAll 31 = .ok (.bipush 100, 2) := by decide +kernel
theorem dX10_setAll_33 : decode cX10_setAll 33 = .ok (.iload_n 1, 1) := by decide +kernel
theorem dX10_setAll_34 : decode cX10_setAll 34 = .ok (.imul, 1) := by decide +kernel
theorem dX10_setAll_35 : decode cX10_setAll 35 = .ok (.iconst 1, 1) := by decide +kernel
theorem dX10_setAll_36 : decode cX10_setAll 36 = .ok (.iadd, 1) := by decide +kernel
theorem dX10_setAll_37 : decode cX10_setAll 37 = .ok (.iload_n 2, 1) := by decide +kernel
theorem dX10_setAll_38 : decode cX10_setAll 38 = .ok (.iadd, 1) := by decide +kernel
theorem dX10_setAll_39 : decode cX10_setAll 39 = .ok (.iaload, 1) := by decide +kernel
theorem dX10_setAll_40 : decode cX10_setAll 40 = .ok (.iconst 1, 1) := by decide +kernel
theorem dX10_setAll_41 : decode cX10_setAll 41 = .ok (.isub, 1) := by decide +kernel
theorem dX10_setAll_42 : decode cX10_setAll 42 = .ok (.invokestatic 93, 3) := by decide +kernel
theorem dX10_setAll_45 : decode cX10_setAll 45 = .ok (.ifCond .ne 5, 3) := by decide +kernel
theorem dX10_setAll_48 : decode cX10_setAll 48 = .ok (.iconst (-1), 1) := by decide +kernel
theorem dX10_setAll_49 : decode cX10_setAll 49 = .ok (.ireturn, 1) := by decide +kernel
theorem dX10_setAll_50 : decode cX10_setAll 50 = .ok (.aload_n 0, 1) := by decide +kernel
theorem dX10_setAll_51 : decode cX10_setAll 51 = .ok (.invokevirtual 122, 3) := by decide +kernel
theorem dX10_setAll_54 : decode cX10_setAll 54 = .ok (.iconst 0, 1) := by decide +kernel
theorem dX10_setAll_55 : decode cX10_setAll 55 = .ok (.istore 5, 2) := by decide +kernel
theorem dX10_setAll_57 : decode cX10_setAll 57 = .ok (.iconst 0, 1) := by decide +kernel
theorem dX10_setAll_58 : decode cX10_setAll 58 = .ok (.istore 6, 2) := by decide +kernel
theorem dX10_setAll_60 : decode cX10_setAll 60 = .ok (.iload 6, 2) := by decide +kernel
theorem dX10_setAll_62 : decode cX10_setAll 62 = .ok (.bipush 81, 2) := by decide +kernel
theorem dX10_setAll_64 : decode cX10_setAll 64 = .ok (.if_icmp .ge 76, 3) := by decide +kernel
theorem dX10_setAll_67 : decode cX10_setAll 67 = .ok (.aload_n 0, 1) := by decide +kernel
theorem dX10_setAll_68 : decode cX10_setAll 68 = .ok (.iload_n 1, 1) := by decide +kernel
theorem dX10_setAll_69 : decode cX10_setAll 69 = .ok (.iload 6, 2) := by decide +kernel
theorem dX10_setAll_71 : decode cX10_setAll 71 = .ok (.invokevirtual 105, 3) := by decide +kernel
theorem dX10_setAll_74 : decode cX10_setAll 74 = .ok (.ifCond .eq 60, 3) := by decide +kernel
theorem dX10_setAll_77 : decode cX10_setAll 77 = .ok (.iload 6, 2) := by decide +kernel
theorem dX10_setAll_79 : decode cX10_setAll 79 = .ok (.iload_n 2, 1) := by decide +kernel
theorem dX10_setAll_80 : decode cX10_setAll 80 = .ok (.invokestatic 101, 3) := by decide +kernel
theorem dX10_setAll_83 : decode cX10_setAll 83 = .ok (.iload_n 3, 1) := by decide +kernel
theorem dX10_setAll_84 : decode cX10_setAll 84 = .ok (.if_icmp .ne 50, 3) := by decide +kernel
theorem dX10_setAll_87 : decode cX10_setAll 87 = .ok (.iload 5, 2) := by decide +kernel
theorem dX10_setAll_89 : decode cX10_setAll 89 = .ok (.aload_n 0, 1) := by decide +kernel
theorem dX10_setAll_90 : decode cX10_setAll 90 = .ok (.getfield 7, 3) := by decide +kernel
theorem dX10_setAll_93 : decode cX10_setAll 93 = .ok (.bipush 100, 2) := by decide +kernel
theorem dX10_setAll_95 : decode cX10_setAll 95 = .ok (.iload_n 1, 1) := by decide +kernel
theorem dX10_setAll_96 : decode cX10_setAll 96 = .ok (.imul, 1) := by decide +kernel
theorem dX10_setAll_97 : decode cX10_setAll 97 = .ok (.bipush 10, 2) := by decide +kernel
theorem dX10_setAll_99 : decode cX10_setAll 99 = .ok (.iadd, 1) := by decide +kernel
theorem dX10_setAll_100 : decode cX10_setAll 100 = .ok (.iload 6, 2) := by decide +kernel
theorem dX10_setAll_102 : decode cX10_setAll 102 = .ok (.iadd, 1) := by decide +kernel
theorem dX10_setAll_103 : decode cX10_setAll 103 = .ok (.iaload, 1) := by decide +kernel
theorem dX10_setAll_104 : decode cX10_setAll 104 = .ok (.iload 4, 2) := by decide +kernel
theorem dX10_setAll_106 : decode cX10_setAll 106 = .ok (.if_icmp .eq 7, 3) := by decide +kernel
theorem dX10_setAll_109 : decode cX10_setAll 109 = .ok (.iconst 1, 1) := by decide +kernel
theorem dX10_setAll_110 : decode cX10_setAll 110 = .ok (.goto 4, 3) := by decide +kernel
theorem dX10_setAll_113 : decode cX10_setAll 113 = .ok (.iconst 0, 1) := by decide +kernel
theorem dX10_setAll_114 : decode cX10_setAll 114 = .ok (.iadd, 1) := by decide +kernel
theorem dX10_setAll_115 : decode cX10_setAll 115 = .ok (.istore 5, 2) := by decide +kernel
theorem dX10_setAll_117 : decode cX10_setAll 117 = .ok (.aload_n 0, 1) := by decide +kernel
theorem dX10_setAll_118 : decode cX10_setAll 118 = .ok (.getfield 7, 3) := by decide +kernel
theorem dX10_setAll_121 : decode cX10_setAll 121 = .ok (.bipush 100, 2) := by decide +kernel
theorem dX10_setAll_123 : decode cX10_setAll 123 = .ok (.iload_n 1, 1) := by decide +kernel
theorem dX10_setAll_124 : decode cX10_setAll 124 = .ok (.imul, 1) := by decide +kernel
theorem dX10_setAll_125 : decode cX10_setAll 125 = .ok (.bipush 10, 2) := by decide +kernel
theorem dX10_setAll_127 : decode cX10_setAll 127 = .ok (.iadd, 1) := by decide +kernel
theorem dX10_setAll_128 : decode cX10_setAll 128 = .ok (.iload 6, 2) := by decide +kernel
theorem dX10_setAll_130 : decode cX10_setAll 130 = .ok (.iadd, 1) := by decide +kernel
theorem dX10_setAll_131 : decode cX10_setAll 131 = .ok (.iload 4, 2) := by decide +kernel
theorem dX10_setAll_133 : decode cX10_setAll 133 = .ok (.iastore, 1) := by decide +kernel
theorem dX10_setAll_134 : decode cX10_setAll 134 = .ok (.iinc 6 1, 3) := by decide +kernel
theorem dX10_setAll_137 : decode cX10_setAll 137 = .ok (.goto (-77), 3) := by decide +kernel
theorem dX10_setAll_140 : decode cX10_setAll 140 = .ok (.iload 5, 2) := by decide +kernel
theorem dX10_setAll_142 : decode cX10_setAll 142 = .ok (.ireturn, 1) := by decide +kernel
theorem dX10_next_0 : decode cX10_next 0 = .ok (.aload_n 0, 1) := by decide +kernel
theorem dX10_next_1 : decode cX10_next 1 = .ok (.iload_n 1, 1) := by decide +kernel
theorem dX10_next_2 : decode cX10_next 2 = .ok (.invokevirtual 129, 3) := by decide +kernel
theorem dX10_next_5 : decode cX10_next 5 = .ok (.ifCond .eq 29, 3) := by decide +kernel
theorem dX10_next_8 : decode cX10_next 8 = .ok (.aload_n 0, 1) := by decide +kernel
theorem dX10_next_9 : decode cX10_next 9 = .ok (.iload_n 1, 1) := by decide +kernel
theorem dX10_next_10 : decode cX10_next 10 = .ok (.iload_n 2, 1) := by decide +kernel
theorem dX10_next_11 : decode cX10_next 11 = .ok (.invokevirtual 105, 3) := by decide +kernel
theorem dX10_next_14 : decode cX10_next 14 = .ok (.ifCond .eq 20, 3) := by decide +kernel
theorem dX10_next_17 : decode cX10_next 17 = .ok (.aload_n 0, 1) := by decide +kernel
theorem dX10_next_18 : decode cX10_next 18 = .ok (.getfield 7, 3) := by decide +kernel
theorem dX10_next_21 : decode cX10_next 21 = .ok (.bipush 100, 2) := by decide +kernel
theorem dX10_next_23 : decode cX10_next 23 = .ok (.iload_n 1, 1) := by decide +kernel
theorem dX10_next_24 : decode cX10_next 24 = .ok (.imul, 1) := by decide +kernel
theorem dX10_next_25 : decode cX10_next 25 = .ok (.bipush 10, 2) := by decide +kernel
theorem dX10_next_27 : decode cX10_next 27 = .ok (.iadd, 1) := by decide +kernel
theorem dX10_next_28 : decode cX10_next 28 = .ok (.iload_n 2, 1) := by decide +kernel
theorem dX10_next_29 : decode cX10_next 29 = .ok (.iadd, 1) := by decide +kernel
theorem dX10_next_30 : decode cX10_next 30 = .ok (.iaload, 1) := by decide +kernel
theorem dX10_next_31 : decode cX10_next 31 = .ok (.goto 4, 3) := by decide +kernel
theorem dX10_next_34 : decode cX10_next 34 = .ok (.iconst (-1), 1) := by decide +kernel
theorem dX10_next_35 : decode cX10_next 35 = .ok (.ireturn, 1) := by decide +kernel
theorem dX10_moves_0 : decode cX10_moves 0 = .ok (.aload_n 0, 1) := by decide +kernel
theorem dX10_moves_1 : decode cX10_moves 1 = .ok (.iload_n 1, 1) := by decide +kernel
theorem dX10_moves_2 : decode cX10_moves 2 = .ok (.invokevirtual 129, 3) := by decide +kernel
theorem dX10_moves_5 : decode cX10_moves 5 = .ok (.ifCond .ne 5, 3) := by decide +kernel
theorem dX10_moves_8 : decode cX10_moves 8 = .ok (.iconst (-1), 1) := by decide +kernel
theorem dX10_moves_9 : decode cX10_moves 9 = .ok (.ireturn, 1) := by decide +kernel
theorem dX10_moves_10 : decode cX10_moves 10 = .ok (.iconst 1, 1) := by decide +kernel
theorem dX10_moves_11 : decode cX10_moves 11 = .ok (.istore_n 2, 1) := by decide +kernel
theorem dX10_moves_12 : decode cX10_moves 12 = .ok (.iconst 0, 1) := by decide +kernel
theorem dX10_moves_13 : decode cX10_moves 13 = .ok (.istore_n 3, 1) := by decide +kernel
theorem dX10_moves_14 : decode cX10_moves 14 = .ok (.iload_n 3, 1) := by decide +kernel
theorem dX10_moves_15 : decode cX10_moves 15 = .ok (.aload_n 0, 1) := by decide +kernel
theorem dX10_moves_16 : decode cX10_moves 16 = .ok (.getfield 82, 3) := by decide +kernel
theorem dX10_moves_19 : decode cX10_moves 19 = .ok (.if_icmp .ge 25, 3) := by decide +kernel
theorem dX10_moves_22 : decode cX10_moves 22 = .ok (.iload_n 2, 1) := by decide +kernel
theorem dX10_moves_23 : decode cX10_moves 23 = .ok (.aload_n 0, 1) := by decide +kernel
theorem dX10_moves_24 : decode cX10_moves 24 = .ok (.getfield 7, 3) := by decide +kernel
theorem dX10_moves_27 : decode cX10_moves 27 = .ok (.bipush 100, 2) := by decide +kernel
theorem dX10_moves_29 : decode cX10_moves 29 = .ok (.iload_n 1, 1) := by decide +kernel
theorem dX10_moves_30 : decode cX10_moves 30 = .ok (.imul, 1) := by decide +kernel
theorem dX10_moves_31 : decode cX10_moves 31 = .ok (.iconst 1, 1) := by decide +kernel
theorem dX10_moves_32 : decode cX10_moves 32 = .ok (.iadd, 1) := by decide +kernel
theorem dX10_moves_33 : decode cX10_moves 33 = .ok (.iload_n 3, 1) := by decide +kernel
theorem dX10_moves_34 : decode cX10_moves 34 = .ok (.iadd, 1) := by decide +kernel
theorem dX10_moves_35 : decode cX10_moves 35 = .ok (.iaload, 1) := by decide +kernel
theorem dX10_moves_36 : decode cX10_moves 36 = .ok (.imul, 1) := by decide +kernel
theorem dX10_moves_37 : decode cX10_moves 37 = .ok (.istore_n 2, 1) := by decide +kernel
theorem dX10_moves_38 : decode cX10_moves 38 = .ok (.iinc 3 1, 3) := by decide +kernel
theorem dX10_moves_41 : decode cX10_moves 41 = .ok (.goto (-27), 3) := by decide +kernel
theorem dX10_moves_44 : decode cX10_moves 44 = .ok (.iload_n 2, 1) := by decide +kernel
theorem dX10_moves_45 : decode cX10_moves 45 = .ok (.ireturn, 1) := by decide +kernel
theorem dX10_force_0 : decode cX10_force 0 = .ok (.aload_n 0, 1) := by decide +kernel
theorem dX10_force_1 : decode cX10_force 1 = .ok (.iload_n 1, 1) := by decide +kernel
theorem dX10_force_2 : decode cX10_force 2 = .ok (.invokevirtual 136, 3) := by decide +kernel
theorem dX10_force_5 : decode cX10_force 5 = .ok (.ifCond .eq 29, 3) := by decide +kernel
theorem dX10_force_8 : decode cX10_force 8 = .ok (.aload_n 0, 1) := by decide +kernel
theorem dX10_force_9 : decode cX10_force 9 = .ok (.iload_n 2, 1) := by decide +kernel
theorem dX10_force_10 : decode cX10_force 10 = .ok (.invokevirtual 129, 3) := by decide +kernel
theorem dX10_force_13 : decode cX10_force 13 = .ok (.ifCond .eq 21, 3) := by decide +kernel
theorem dX10_force_16 : decode cX10_force 16 = .ok (.aload_n 0, 1) := by decide +kernel
theorem dX10_force_17 : decode cX10_force 17 = .ok (.iload_n 3, 1) := by decide +kernel
theorem dX10_force_18 : decode cX10_force 18 = .ok (.invokevirtual 139, 3) := by decide +kernel
theorem dX10_force_21 : decode cX10_force 21 = .ok (.ifCond .eq 13, 3) := by decide +kernel
theorem dX10_force_24 : decode cX10_force 24 = .ok (.aload_n 0, 1) := by decide +kernel
theorem dX10_force_25 : decode cX10_force 25 = .ok (.iload_n 1, 1) := by decide +kernel
theorem dX10_force_26 : decode cX10_force 26 = .ok (.iload_n 2, 1) := by decide +kernel
theorem dX10_force_27 : decode cX10_force 27 = .ok (.iload_n 3, 1) := by decide +kernel
theorem dX10_force_28 : decode cX10_force 28 = .ok (.invokevirtual 142, 3) := by decide +kernel
theorem dX10_force_31 : decode cX10_force 31 = .ok (.goto 4, 3) := by decide +kernel
theorem dX10_force_34 : decode cX10_force 34 = .ok (.iconst (-1), 1) := by decide +kernel
theorem dX10_force_35 : decode cX10_force 35 = .ok (.ireturn, 1) := by decide +kernel
theorem dX10_reply_0 : decode cX10_reply 0 = .ok (.aload_n 0, 1) := by decide +kernel
theorem dX10_reply_1 : decode cX10_reply 1 = .ok (.iload_n 1, 1) := by decide +kernel
theorem dX10_reply_2 : decode cX10_reply 2 = .ok (.invokevirtual 136, 3) := by decide +kernel
theorem dX10_reply_5 : decode cX10_reply 5 = .ok (.ifCond .eq 30, 3) := by decide +kernel
theorem dX10_reply_8 : decode cX10_reply 8 = .ok (.aload_n 0, 1) := by decide +kernel
theorem dX10_reply_9 : decode cX10_reply 9 = .ok (.iload_n 2, 1) := by decide +kernel
theorem dX10_reply_10 : decode cX10_reply 10 = .ok (.invokevirtual 129, 3) := by decide +kernel
theorem dX10_reply_13 : decode cX10_reply 13 = .ok (.ifCond .eq 22, 3) := by decide +kernel
theorem dX10_reply_16 : decode cX10_reply 16 = .ok (.aload_n 0, 1) := by decide +kernel
theorem dX10_reply_17 : decode cX10_reply 17 = .ok (.iload 4, 2) := by decide +kernel
theorem dX10_reply_19 : decode cX10_reply 19 = .ok (.invokevirtual 139, 3) := by decide +kernel
theorem dX10_reply_22 : decode cX10_reply 22 = .ok (.ifCond .eq 13, 3) := by decide +kernel
theorem dX10_reply_25 : decode cX10_reply 25 = .ok (.aload_n 0, 1) := by decide +kernel
theorem dX10_reply_26 : decode cX10_reply 26 = .ok (.iload_n 1, 1) := by decide +kernel
theorem dX10_reply_27 : decode cX10_reply 27 = .ok (.iload_n 2, 1) := by decide +kernel
theorem dX10_reply_28 : decode cX10_reply 28 = .ok (.iload_n 3, 1) := by decide +kernel
theorem dX10_reply_29 : decode cX10_reply 29 = .ok (.invokevirtual 145, 3) := by decide +kernel
theorem dX10_reply_32 : decode cX10_reply 32 = .ok (.ifCond .ne 5, 3) := by decide +kernel
theorem dX10_reply_35 : decode cX10_reply 35 = .ok (.iconst (-1), 1) := by decide +kernel
theorem dX10_reply_36 : decode cX10_reply 36 = .ok (.ireturn, 1) := by decide +kernel
theorem dX10_reply_37 : decode cX10_reply 37 = .ok (.iconst 0, 1) := by decide +kernel
theorem dX10_reply_38 : decode cX10_reply 38 = .ok (.istore 5, 2) := by decide +kernel
theorem dX10_reply_40 : decode cX10_reply 40 = .ok (.iload 5, 2) := by decide +kernel
theorem dX10_reply_42 : decode cX10_reply 42 = .ok (.bipush 81, 2) := by decide +kernel
theorem dX10_reply_44 : decode cX10_reply 44 = .ok (.if_icmp .ge 56, 3) := by decide +kernel
theorem dX10_reply_47 : decode cX10_reply 47 = .ok (.aload_n 0, 1) := by decide +kernel
theorem dX10_reply_48 : decode cX10_reply 48 = .ok (.iload_n 2, 1) := by decide +kernel
theorem dX10_reply_49 : decode cX10_reply 49 = .ok (.iload 5, 2) := by decide +kernel
theorem dX10_reply_51 : decode cX10_reply 51 = .ok (.invokevirtual 105, 3) := by decide +kernel
theorem dX10_reply_54 : decode cX10_reply 54 = .ok (.ifCond .eq 40, 3) := by decide +kernel
theorem dX10_reply_57 : decode cX10_reply 57 = .ok (.aload_n 0, 1) := by decide +kernel
theorem dX10_reply_58 : decode cX10_reply 58 = .ok (.iload_n 1, 1) := by decide +kernel
theorem dX10_reply_59 : decode cX10_reply 59 = .ok (.iload 5, 2) := by decide +kernel
theorem dX10_reply_61 : decode cX10_reply 61 = .ok (.iload_n 3, 1) := by decide +kernel
theorem dX10_reply_62 : decode cX10_reply 62 = .ok (.invokevirtual 148, 3) := by decide +kernel
theorem dX10_reply_65 : decode cX10_reply 65 = .ok (.ifCond .eq 29, 3) := by decide +kernel
theorem dX10_reply_68 : decode cX10_reply 68 = .ok (.iload 4, 2) := by decide +kernel
theorem dX10_reply_70 : decode cX10_reply 70 = .ok (.aload_n 0, 1) := by decide +kernel
theorem dX10_reply_71 : decode cX10_reply 71 = .ok (.getfield 7, 3) := by decide +kernel
theorem dX10_reply_74 : decode cX10_reply 74 = .ok (.bipush 100, 2) := by decide +kernel
theorem dX10_reply_76 : decode cX10_reply 76 = .ok (.iload_n 2, 1) := by decide +kernel
theorem dX10_reply_77 : decode cX10_reply 77 = .ok (.imul, 1) := by decide +kernel
theorem dX10_reply_78 : decode cX10_reply 78 = .ok (.bipush 10, 2) := by decide +kernel
theorem dX10_reply_80 : decode cX10_reply 80 = .ok (.iadd, 1) := by decide +kernel
theorem dX10_reply_81 : decode cX10_reply 81 = .ok (.iload 5, 2) := by decide +kernel
theorem dX10_reply_83 : decode cX10_reply 83 = .ok (.iadd, 1) := by decide +kernel
theorem dX10_reply_84 : decode cX10_reply 84 = .ok (.iaload, 1) := by decide +kernel
theorem dX10_reply_85 : decode cX10_reply 85 = .ok (.ishr, 1) := by decide +kernel
theorem dX10_reply_86 : decode cX10_reply 86 = .ok (.iconst 1, 1) := by decide +kernel
theorem dX10_reply_87 : decode cX10_reply 87 = .ok (.iand, 1) := by decide +kernel
theorem dX10_reply_88 : decode cX10_reply 88 = .ok (.ifCond .ne 6, 3) := by decide +kernel
theorem dX10_reply_91 : decode cX10_reply 91 = .ok (.iload 5, 2) := by decide +kernel
theorem dX10_reply_93 : decode cX10_reply 93 = .ok (.ireturn, 1) := by decide +kernel
theorem dX10_reply_94 : decode cX10_reply 94 = .ok (.iinc 5 1, 3) := by decide +kernel
theorem dX10_reply_97 : decode cX10_reply 97 = .ok (.goto (-57), 3) := by decide +kernel
theorem dX10_reply_100 : decode cX10_reply 100 = .ok (.bipush (-9), 2) := by decide +kernel
theorem dX10_reply_102 : decode cX10_reply 102 = .ok (.ireturn, 1) := by decide +kernel
theorem dX10_forced_0 : decode cX10_forced 0 = .ok (.aload_n 0, 1) := by decide +kernel
theorem dX10_forced_1 : decode cX10_forced 1 = .ok (.iload_n 1, 1) := by decide +kernel
theorem dX10_forced_2 : decode cX10_forced 2 = .ok (.invokevirtual 136, 3) := by decide +kernel
theorem dX10_forced_5 : decode cX10_forced 5 = .ok (.ifCond .eq 11, 3) := by decide +kernel
theorem dX10_forced_8 : decode cX10_forced 8 = .ok (.aload_n 0, 1) := by decide +kernel
theorem dX10_forced_9 : decode cX10_forced 9 = .ok (.iload_n 2, 1) := by decide +kernel
theorem dX10_forced_10 : decode cX10_forced 10 = .ok (.invokevirtual 129, 3) := by decide +kernel
theorem dX10_forced_13 : decode cX10_forced 13 = .ok (.ifCond .ne 5, 3) := by decide +kernel
theorem dX10_forced_16 : decode cX10_forced 16 = .ok (.iconst (-1), 1) := by decide +kernel
theorem dX10_forced_17 : decode cX10_forced 17 = .ok (.ireturn, 1) := by decide +kernel
theorem dX10_forced_18 : decode cX10_forced 18 = .ok (.iconst 0, 1) := by decide +kernel
theorem dX10_forced_19 : decode cX10_forced 19 = .ok (.istore_n 3, 1) := by decide +kernel
theorem dX10_forced_20 : decode cX10_forced 20 = .ok (.iconst 0, 1) := by decide +kernel
theorem dX10_forced_21 : decode cX10_forced 21 = .ok (.istore 4, 2) := by decide +kernel
theorem dX10_forced_23 : decode cX10_forced 23 = .ok (.iload 4, 2) := by decide +kernel
theorem dX10_forced_25 : decode cX10_forced 25 = .ok (.bipush 81, 2) := by decide +kernel
theorem dX10_forced_27 : decode cX10_forced 27 = .ok (.if_icmp .ge 37, 3) := by decide +kernel
theorem dX10_forced_30 : decode cX10_forced 30 = .ok (.aload_n 0, 1) := by decide +kernel
theorem dX10_forced_31 : decode cX10_forced 31 = .ok (.iload_n 1, 1) := by decide +kernel
theorem dX10_forced_32 : decode cX10_forced 32 = .ok (.iload_n 2, 1) := by decide +kernel
theorem dX10_forced_33 : decode cX10_forced 33 = .ok (.iload 4, 2) := by decide +kernel
theorem dX10_forced_35 : decode cX10_forced 35 = .ok (.invokevirtual 119, 3) := by decide +kernel
theorem dX10_forced_38 : decode cX10_forced 38 = .ok (.ifCond .eq 20, 3) := by decide +kernel
theorem dX10_forced_41 : decode cX10_forced 41 = .ok (.aload_n 0, 1) := by decide +kernel
theorem dX10_forced_42 : decode cX10_forced 42 = .ok (.getfield 19, 3) := by decide +kernel
theorem dX10_forced_45 : decode cX10_forced 45 = .ok (.iload_n 3, 1) := by decide +kernel
theorem dX10_forced_46 : decode cX10_forced 46 = .ok (.aload_n 0, 1) := by decide +kernel
theorem dX10_forced_47 : decode cX10_forced 47 = .ok (.iload_n 1, 1) := by decide +kernel
theorem dX10_forced_48 : decode cX10_forced 48 = .ok (.iload_n 2, 1) := by decide +kernel
theorem dX10_forced_49 : decode cX10_forced 49 = .ok (.iload 4, 2) := by decide +kernel
theorem dX10_forced_51 : decode cX10_forced 51 = .ok (.invokevirtual 119, 3) := by decide +kernel
theorem dX10_forced_54 : decode cX10_forced 54 = .ok (.iastore, 1) := by decide +kernel
theorem dX10_forced_55 : decode cX10_forced 55 = .ok (.iinc 3 1, 3) := by decide +kernel
theorem dX10_forced_58 : decode cX10_forced 58 = .ok (.iinc 4 1, 3) := by decide +kernel
theorem dX10_forced_61 : decode cX10_forced 61 = .ok (.goto (-38), 3) := by decide +kernel
theorem dX10_forced_64 : decode cX10_forced 64 = .ok (.iconst 0, 1) := by decide +kernel
theorem dX10_forced_65 : decode cX10_forced 65 = .ok (.istore 4, 2) := by decide +kernel
theorem dX10_forced_67 : decode cX10_forced 67 = .ok (.iconst 0, 1) := by decide +kernel
theorem dX10_forced_68 : decode cX10_forced 68 = .ok (.istore 5, 2) := by decide +kernel
theorem dX10_forced_70 : decode cX10_forced 70 = .ok (.iload 5, 2) := by decide +kernel
theorem dX10_forced_72 : decode cX10_forced 72 = .ok (.iconst 1, 1) := by decide +kernel
theorem dX10_forced_73 : decode cX10_forced 73 = .ok (.aload_n 0, 1) := by decide +kernel
theorem dX10_forced_74 : decode cX10_forced 74 = .ok (.getfield 7, 3) := by decide +kernel
theorem dX10_forced_77 : decode cX10_forced 77 = .ok (.sipush 1200, 3) := by decide +kernel
theorem dX10_forced_80 : decode cX10_forced 80 = .ok (.iaload, 1) := by decide +kernel
theorem dX10_forced_81 : decode cX10_forced 81 = .ok (.ishl, 1) := by decide +kernel
theorem dX10_forced_82 : decode cX10_forced 82 = .ok (.if_icmp .ge 69, 3) := by decide +kernel
theorem dX10_forced_85 : decode cX10_forced 85 = .ok (.iconst 0, 1) := by decide +kernel
theorem dX10_forced_86 : decode cX10_forced 86 = .ok (.istore 6, 2) := by decide +kernel
theorem dX10_forced_88 : decode cX10_forced 88 = .ok (.iconst 0, 1) := by decide +kernel
theorem dX10_forced_89 : decode cX10_forced 89 = .ok (.istore 7, 2) := by decide +kernel
theorem dX10_forced_91 : decode cX10_forced 91 = .ok (.iload 7, 2) := by decide +kernel
theorem dX10_forced_93 : decode cX10_forced 93 = .ok (.iload_n 3, 1) := by decide +kernel
theorem dX10_forced_94 : decode cX10_forced 94 = .ok (.if_icmp .ge 36, 3) := by decide +kernel
theorem dX10_forced_97 : decode cX10_forced 97 = .ok (.iload 6, 2) := by decide +kernel
theorem dX10_forced_99 : decode cX10_forced 99 = .ok (.ifCond .ne 18, 3) := by decide +kernel
theorem dX10_forced_102 : decode cX10_forced 102 = .ok (.aload_n 0, 1) := by decide +kernel
theorem dX10_forced_103 : decode cX10_forced 103 = .ok (.getfield 19, 3) := by decide +kernel
theorem dX10_forced_106 : decode cX10_forced 106 = .ok (.iload 7, 2) := by decide +kernel
theorem dX10_forced_108 : decode cX10_forced 108 = .ok (.iaload, 1) := by decide +kernel
theorem dX10_forced_109 : decode cX10_forced 109 = .ok (.iload 5, 2) := by decide +kernel
theorem dX10_forced_111 : decode cX10_forced 111 = .ok (.iconst (-1), 1) := by decide +kernel
theorem dX10_forced_112 : decode cX10_forced 112 = .ok (.ixor, 1) := by decide +kernel
theorem dX10_forced_113 : decode cX10_forced 113 = .ok (.iand, 1) := by decide +kernel
theorem dX10_forced_114 : decode cX10_forced 114 = .ok (.ifCond .ne 7, 3) := by decide +kernel
theorem dX10_forced_117 : decode cX10_forced 117 = .ok (.iconst 1, 1) := by decide +kernel
theorem dX10_forced_118 : decode cX10_forced 118 = .ok (.goto 4, 3) := by decide +kernel
theorem dX10_forced_121 : decode cX10_forced 121 = .ok (.iconst 0, 1) := by decide +kernel
theorem dX10_forced_122 : decode cX10_forced 122 = .ok (.istore 6, 2) := by decide +kernel
theorem dX10_forced_124 : decode cX10_forced 124 = .ok (.iinc 7 1, 3) := by decide +kernel
theorem dX10_forced_127 : decode cX10_forced 127 = .ok (.goto (-36), 3) := by decide +kernel
theorem dX10_forced_130 : decode cX10_forced 130 = .ok (.iload 4, 2) := by decide +kernel
theorem dX10_forced_132 : decode cX10_forced 132 = .ok (.iload 6, 2) := by decide +kernel
theorem dX10_forced_134 : decode cX10_forced 134 = .ok (.ifCond .eq 7, 3) := by decide +kernel
theorem dX10_forced_137 : decode cX10_forced 137 = .ok (.iconst 1, 1) := by decide +kernel
theorem dX10_forced_138 : decode cX10_forced 138 = .ok (.goto 4, 3) := by decide +kernel
theorem dX10_forced_141 : decode cX10_forced 141 = .ok (.iconst 0, 1) := by decide +kernel
theorem dX10_forced_142 : decode cX10_forced 142 = .ok (.iadd, 1) := by decide +kernel
theorem dX10_forced_143 : decode cX10_forced 143 = .ok (.istore 4, 2) := by decide +kernel
theorem dX10_forced_145 : decode cX10_forced 145 = .ok (.iinc 5 1, 3) := by decide +kernel
theorem dX10_forced_148 : decode cX10_forced 148 = .ok (.goto (-78), 3) := by decide +kernel
theorem dX10_forced_151 : decode cX10_forced 151 = .ok (.iload 4, 2) := by decide +kernel
theorem dX10_forced_153 : decode cX10_forced 153 = .ok (.ireturn, 1) := by decide +kernel
theorem dX10_type_0 : decode cX10_type 0 = .ok (.iload_n 1, 1) := by decide +kernel
theorem dX10_type_1 : decode cX10_type 1 = .ok (.bipush 32, 2) := by decide +kernel
theorem dX10_type_3 : decode cX10_type 3 = .ok (.bipush 126, 2) := by decide +kernel
theorem dX10_type_5 : decode cX10_type 5 = .ok (.invokestatic 93, 3) := by decide +kernel
theorem dX10_type_8 : decode cX10_type 8 = .ok (.ifCond .ne 5, 3) := by decide +kernel
theorem dX10_type_11 : decode cX10_type 11 = .ok (.iconst (-1), 1) := by decide +kernel
theorem dX10_type_12 : decode cX10_type 12 = .ok (.ireturn, 1) := by decide +kernel
theorem dX10_type_13 : decode cX10_type 13 = .ok (.aload_n 0, 1) := by decide +kernel
theorem dX10_type_14 : decode cX10_type 14 = .ok (.getfield 151, 3) := by decide +kernel
theorem dX10_type_17 : decode cX10_type 17 = .ok (.bipush 60, 2) := by decide +kernel
theorem dX10_type_19 : decode cX10_type 19 = .ok (.if_icmp .ne 6, 3) := by decide +kernel
theorem dX10_type_22 : decode cX10_type 22 = .ok (.bipush (-2), 2) := by decide +kernel
theorem dX10_type_24 : decode cX10_type 24 = .ok (.ireturn, 1) := by decide +kernel
theorem dX10_type_25 : decode cX10_type 25 = .ok (.aload_n 0, 1) := by decide +kernel
theorem dX10_type_26 : decode cX10_type 26 = .ok (.getfield 22, 3) := by decide +kernel
theorem dX10_type_29 : decode cX10_type 29 = .ok (.aload_n 0, 1) := by decide +kernel
theorem dX10_type_30 : decode cX10_type 30 = .ok (.getfield 151, 3) := by decide +kernel
theorem dX10_type_33 : decode cX10_type 33 = .ok (.iload_n 1, 1) := by decide +kernel
theorem dX10_type_34 : decode cX10_type 34 = .ok (.iastore, 1) := by decide +kernel
theorem dX10_type_35 : decode cX10_type 35 = .ok (.aload_n 0, 1) := by decide +kernel
theorem dX10_type_36 : decode cX10_type 36 = .ok (.dup, 1) := by decide +kernel
theorem dX10_type_37 : decode cX10_type 37 = .ok (.getfield 151, 3) := by decide +kernel
theorem dX10_type_40 : decode cX10_type 40 = .ok (.iconst 1, 1) := by decide +kernel
theorem dX10_type_41 : decode cX10_type 41 = .ok (.iadd, 1) := by decide +kernel
theorem dX10_type_42 : decode cX10_type 42 = .ok (.putfield 151, 3) := by decide +kernel
theorem dX10_type_45 : decode cX10_type 45 = .ok (.aload_n 0, 1) := by decide +kernel
theorem dX10_type_46 : decode cX10_type 46 = .ok (.getfield 151, 3) := by decide +kernel
theorem dX10_type_49 : decode cX10_type 49 = .ok (.ireturn, 1) := by decide +kernel
theorem dX10_clear_0 : decode cX10_clear 0 = .ok (.aload_n 0, 1) := by decide +kernel
theorem dX10_clear_1 : decode cX10_clear 1 = .ok (.getfield 151, 3) := by decide +kernel
theorem dX10_clear_4 : decode cX10_clear 4 = .ok (.istore_n 1, 1) := by decide +kernel
theorem dX10_clear_5 : decode cX10_clear 5 = .ok (.aload_n 0, 1) := by decide +kernel
theorem dX10_clear_6 : decode cX10_clear 6 = .ok (.iconst 0, 1) := by decide +kernel
theorem dX10_clear_7 : decode cX10_clear 7 = .ok (.putfield 151, 3) := by decide +kernel
theorem dX10_clear_10 : decode cX10_clear 10 = .ok (.iload_n 1, 1) := by decide +kernel
theorem dX10_clear_11 : decode cX10_clear 11 = .ok (.ireturn, 1) := by decide +kernel
theorem dX10_part_0 : decode cX10_part 0 = .ok (.bipush 60, 2) := by decide +kernel
theorem dX10_part_2 : decode cX10_part 2 = .ok (.aload_n 0, 1) := by decide +kernel
theorem dX10_part_3 : decode cX10_part 3 = .ok (.getfield 154, 3) := by decide +kernel
theorem dX10_part_6 : decode cX10_part 6 = .ok (.imul, 1) := by decide +kernel
theorem dX10_part_7 : decode cX10_part 7 = .ok (.aload_n 0, 1) := by decide +kernel
theorem dX10_part_8 : decode cX10_part 8 = .ok (.getfield 157, 3) := by decide +kernel
theorem dX10_part_11 : decode cX10_part 11 = .ok (.iadd, 1) := by decide +kernel
theorem dX10_part_12 : decode cX10_part 12 = .ok (.istore 5, 2) := by decide +kernel
theorem dX10_part_14 : decode cX10_part 14 = .ok (.aload_n 0, 1) := by decide +kernel
theorem dX10_part_15 : decode cX10_part 15 = .ok (.getfield 25, 3) := by decide +kernel
theorem dX10_part_18 : decode cX10_part 18 = .ok (.iload 5, 2) := by decide +kernel
theorem dX10_part_20 : decode cX10_part 20 = .ok (.iload_n 1, 1) := by decide +kernel
theorem dX10_part_21 : decode cX10_part 21 = .ok (.iastore, 1) := by decide +kernel
theorem dX10_part_22 : decode cX10_part 22 = .ok (.aload_n 0, 1) := by decide +kernel
theorem dX10_part_23 : decode cX10_part 23 = .ok (.getfield 28, 3) := by decide +kernel
theorem dX10_part_26 : decode cX10_part 26 = .ok (.iload 5, 2) := by decide +kernel
theorem dX10_part_28 : decode cX10_part 28 = .ok (.iload_n 2, 1) := by decide +kernel
theorem dX10_part_29 : decode cX10_part 29 = .ok (.iastore, 1) := by decide +kernel
theorem dX10_part_30 : decode cX10_part 30 = .ok (.aload_n 0, 1) := by decide +kernel
theorem dX10_part_31 : decode cX10_part 31 = .ok (.getfield 31, 3) := by decide +kernel
theorem dX10_part_34 : decode cX10_part 34 = .ok (.iload 5, 2) := by decide +kernel
theorem dX10_part_36 : decode cX10_part 36 = .ok (.iload_n 3, 1) := by decide +kernel
theorem dX10_part_37 : decode cX10_part 37 = .ok (.iastore, 1) := by decide +kernel
theorem dX10_part_38 : decode cX10_part 38 = .ok (.aload_n 0, 1) := by decide +kernel
theorem dX10_part_39 : decode cX10_part 39 = .ok (.getfield 34, 3) := by decide +kernel
theorem dX10_part_42 : decode cX10_part 42 = .ok (.iload 5, 2) := by decide +kernel
theorem dX10_part_44 : decode cX10_part 44 = .ok (.iload 4, 2) := by decide +kernel
theorem dX10_part_46 : decode cX10_part 46 = .ok (.iastore, 1) := by decide +kernel
theorem dX10_part_47 : decode cX10_part 47 = .ok (.aload_n 0, 1) := by decide +kernel
theorem dX10_part_48 : decode cX10_part 48 = .ok (.dup, 1) := by decide +kernel
theorem dX10_part_49 : decode cX10_part 49 = .ok (.getfield 157, 3) := by decide +kernel
theorem dX10_part_52 : decode cX10_part 52 = .ok (.iconst 1, 1) := by decide +kernel
theorem dX10_part_53 : decode cX10_part 53 = .ok (.iadd, 1) := by decide +kernel
theorem dX10_part_54 : decode cX10_part 54 = .ok (.putfield 157, 3) := by decide +kernel
theorem dX10_part_57 : decode cX10_part 57 = .ok (.aload_n 0, 1) := by decide +kernel
theorem dX10_part_58 : decode cX10_part 58 = .ok (.getfield 157, 3) := by decide +kernel
theorem dX10_part_61 : decode cX10_part 61 = .ok (.iconst 1, 1) := by decide +kernel
theorem dX10_part_62 : decode cX10_part 62 = .ok (.isub, 1) := by decide +kernel
theorem dX10_part_63 : decode cX10_part 63 = .ok (.ireturn, 1) := by decide +kernel
theorem dX10_opens_0 : decode cX10_opens 0 = .ok (.aload_n 0, 1) := by decide +kernel
theorem dX10_opens_1 : decode cX10_opens 1 = .ok (.dup, 1) := by decide +kernel
theorem dX10_opens_2 : decode cX10_opens 2 = .ok (.getfield 160, 3) := by decide +kernel
theorem dX10_opens_5 : decode cX10_opens 5 = .ok (.iconst 1, 1) := by decide +kernel
theorem dX10_opens_6 : decode cX10_opens 6 = .ok (.iadd, 1) := by decide +kernel
theorem dX10_opens_7 : decode cX10_opens 7 = .ok (.putfield 160, 3) := by decide +kernel
theorem dX10_opens_10 : decode cX10_opens 10 = .ok (.aload_n 0, 1) := by decide +kernel
theorem dX10_opens_11 : decode cX10_opens 11 = .ok (.getfield 40, 3) := by decide +kernel
theorem dX10_opens_14 : decode cX10_opens 14 = .ok (.aload_n 0, 1) := by decide +kernel
theorem dX10_opens_15 : decode cX10_opens 15 = .ok (.getfield 160, 3) := by decide +kernel
theorem dX10_opens_18 : decode cX10_opens 18 = .ok (.iload_n 1, 1) := by decide +kernel
theorem dX10_opens_19 : decode cX10_opens 19 = .ok (.iastore, 1) := by decide +kernel
theorem dX10_opens_20 : decode cX10_opens 20 = .ok (.aload_n 0, 1) := by decide +kernel
theorem dX10_opens_21 : decode cX10_opens 21 = .ok (.getfield 43, 3) := by decide +kernel
theorem dX10_opens_24 : decode cX10_opens 24 = .ok (.aload_n 0, 1) := by decide +kernel
theorem dX10_opens_25 : decode cX10_opens 25 = .ok (.getfield 160, 3) := by decide +kernel
theorem dX10_opens_28 : decode cX10_opens 28 = .ok (.iconst (-1), 1) := by decide +kernel
theorem dX10_opens_29 : decode cX10_opens 29 = .ok (.iastore, 1) := by decide +kernel
theorem dX10_opens_30 : decode cX10_opens 30 = .ok (.aload_n 0, 1) := by decide +kernel
theorem dX10_opens_31 : decode cX10_opens 31 = .ok (.getfield 46, 3) := by decide +kernel
theorem dX10_opens_34 : decode cX10_opens 34 = .ok (.aload_n 0, 1) := by decide +kernel
theorem dX10_opens_35 : decode cX10_opens 35 = .ok (.getfield 160, 3) := by decide +kernel
theorem dX10_opens_38 : decode cX10_opens 38 = .ok (.iconst (-1), 1) := by decide +kernel
theorem dX10_opens_39 : decode cX10_opens 39 = .ok (.iastore, 1) := by decide +kernel
theorem dX10_opens_40 : decode cX10_opens 40 = .ok (.aload_n 0, 1) := by decide +kernel
theorem dX10_opens_41 : decode cX10_opens 41 = .ok (.getfield 52, 3) := by decide +kernel
theorem dX10_opens_44 : decode cX10_opens 44 = .ok (.aload_n 0, 1) := by decide +kernel
theorem dX10_opens_45 : decode cX10_opens 45 = .ok (.getfield 160, 3) := by decide +kernel
theorem dX10_opens_48 : decode cX10_opens 48 = .ok (.aload_n 0, 1) := by decide +kernel
theorem dX10_opens_49 : decode cX10_opens 49 = .ok (.getfield 163, 3) := by decide +kernel
theorem dX10_opens_52 : decode cX10_opens 52 = .ok (.iastore, 1) := by decide +kernel
theorem dX10_opens_53 : decode cX10_opens 53 = .ok (.aload_n 0, 1) := by decide +kernel
theorem dX10_opens_54 : decode cX10_opens 54 = .ok (.getfield 55, 3) := by decide +kernel
theorem dX10_opens_57 : decode cX10_opens 57 = .ok (.aload_n 0, 1) := by decide +kernel
theorem dX10_opens_58 : decode cX10_opens 58 = .ok (.getfield 160, 3) := by decide +kernel
theorem dX10_opens_61 : decode cX10_opens 61 = .ok (.iload_n 2, 1) := by decide +kernel
theorem dX10_opens_62 : decode cX10_opens 62 = .ok (.iastore, 1) := by decide +kernel
theorem dX10_opens_63 : decode cX10_opens 63 = .ok (.aload_n 0, 1) := by decide +kernel
theorem dX10_opens_64 : decode cX10_opens 64 = .ok (.getfield 58, 3) := by decide +kernel
theorem dX10_opens_67 : decode cX10_opens 67 = .ok (.aload_n 0, 1) := by decide +kernel
theorem dX10_opens_68 : decode cX10_opens 68 = .ok (.getfield 160, 3) := by decide +kernel
theorem dX10_opens_71 : decode cX10_opens 71 = .ok (.iload_n 3, 1) := by decide +kernel
theorem dX10_opens_72 : decode cX10_opens 72 = .ok (.iastore, 1) := by decide +kernel
theorem dX10_opens_73 : decode cX10_opens 73 = .ok (.return_, 1) := by decide +kernel
theorem dX10_unit_0 : decode cX10_unit 0 = .ok (.iload_n 1, 1) := by decide +kernel
theorem dX10_unit_1 : decode cX10_unit 1 = .ok (.istore_n 2, 1) := by decide +kernel
theorem dX10_unit_2 : decode cX10_unit 2 = .ok (.aload_n 0, 1) := by decide +kernel
theorem dX10_unit_3 : decode cX10_unit 3 = .ok (.getfield 163, 3) := by decide +kernel
theorem dX10_unit_6 : decode cX10_unit 6 = .ok (.aload_n 0, 1) := by decide +kernel
theorem dX10_unit_7 : decode cX10_unit 7 = .ok (.getfield 52, 3) := by decide +kernel
theorem dX10_unit_10 : decode cX10_unit 10 = .ok (.aload_n 0, 1) := by decide +kernel
theorem dX10_unit_11 : decode cX10_unit 11 = .ok (.getfield 160, 3) := by decide +kernel
theorem dX10_unit_14 : decode cX10_unit 14 = .ok (.iaload, 1) := by decide +kernel
theorem dX10_unit_15 : decode cX10_unit 15 = .ok (.if_icmp .le 41, 3) := by decide +kernel
theorem dX10_unit_18 : decode cX10_unit 18 = .ok (.aload_n 0, 1) := by decide +kernel
theorem dX10_unit_19 : decode cX10_unit 19 = .ok (.dup, 1) := by decide +kernel
theorem dX10_unit_20 : decode cX10_unit 20 = .ok (.getfield 163, 3) := by decide +kernel
theorem dX10_unit_23 : decode cX10_unit 23 = .ok (.iconst 1, 1) := by decide +kernel
theorem dX10_unit_24 : decode cX10_unit 24 = .ok (.isub, 1) := by decide +kernel
theorem dX10_unit_25 : decode cX10_unit 25 = .ok (.putfield 163, 3) := by decide +kernel
theorem dX10_unit_28 : decode cX10_unit 28 = .ok (.aload_n 0, 1) := by decide +kernel
theorem dX10_unit_29 : decode cX10_unit 29 = .ok (.aload_n 0, 1) := by decide +kernel
theorem dX10_unit_30 : decode cX10_unit 30 = .ok (.getfield 61, 3) := by decide +kernel
theorem dX10_unit_33 : decode cX10_unit 33 = .ok (.aload_n 0, 1) := by decide +kernel
theorem dX10_unit_34 : decode cX10_unit 34 = .ok (.getfield 163, 3) := by decide +kernel
theorem dX10_unit_37 : decode cX10_unit 37 = .ok (.iaload, 1) := by decide +kernel
theorem dX10_unit_38 : decode cX10_unit 38 = .ok (.iload_n 2, 1) := by decide +kernel
theorem dX10_unit_39 : decode cX10_unit 39 = .ok (.iconst (-1), 1) := by decide +kernel
theorem dX10_unit_40 : decode cX10_unit 40 = .ok (.aload_n 0, 1) := by decide +kernel
theorem dX10_unit_41 : decode cX10_unit 41 = .ok (.getfield 64, 3) := by decide +kernel
theorem dX10_unit_44 : decode cX10_unit 44 = .ok (.aload_n 0, 1) := by decide +kernel
theorem dX10_unit_45 : decode cX10_unit 45 = .ok (.getfield 163, 3) := by decide +kernel
theorem dX10_unit_48 : decode cX10_unit 48 = .ok (.iaload, 1) := by decide +kernel
theorem dX10_unit_49 : decode cX10_unit 49 = .ok (.invokevirtual 166, 3) := by decide +kernel
theorem dX10_unit_52 : decode cX10_unit 52 = .ok (.istore_n 2, 1) := by decide +kernel
theorem dX10_unit_53 : decode cX10_unit 53 = .ok (.goto (-51), 3) := by decide +kernel
theorem dX10_unit_56 : decode cX10_unit 56 = .ok (.aload_n 0, 1) := by decide +kernel
theorem dX10_unit_57 : decode cX10_unit 57 = .ok (.getfield 46, 3) := by decide +kernel
theorem dX10_unit_60 : decode cX10_unit 60 = .ok (.aload_n 0, 1) := by decide +kernel
theorem dX10_unit_61 : decode cX10_unit 61 = .ok (.getfield 160, 3) := by decide +kernel
theorem dX10_unit_64 : decode cX10_unit 64 = .ok (.aload_n 0, 1) := by decide +kernel
theorem dX10_unit_65 : decode cX10_unit 65 = .ok (.getfield 46, 3) := by decide +kernel
theorem dX10_unit_68 : decode cX10_unit 68 = .ok (.aload_n 0, 1) := by decide +kernel
theorem dX10_unit_69 : decode cX10_unit 69 = .ok (.getfield 160, 3) := by decide +kernel
theorem dX10_unit_72 : decode cX10_unit 72 = .ok (.iaload, 1) := by decide +kernel
theorem dX10_unit_73 : decode cX10_unit 73 = .ok (.ifCond .ge 7, 3) := by decide +kernel
theorem dX10_unit_76 : decode cX10_unit 76 = .ok (.iload_n 2, 1) := by decide +kernel
theorem dX10_unit_77 : decode cX10_unit 77 = .ok (.goto 19, 3) := by decide +kernel
theorem dX10_unit_80 : decode cX10_unit 80 = .ok (.aload_n 0, 1) := by decide +kernel
theorem dX10_unit_81 : decode cX10_unit 81 = .ok (.iconst 4, 1) := by decide +kernel
theorem dX10_unit_82 : decode cX10_unit 82 = .ok (.aload_n 0, 1) := by decide +kernel
theorem dX10_unit_83 : decode cX10_unit 83 = .ok (.getfield 46, 3) := by decide +kernel
theorem dX10_unit_86 : decode cX10_unit 86 = .ok (.aload_n 0, 1) := by decide +kernel
theorem dX10_unit_87 : decode cX10_unit 87 = .ok (.getfield 160, 3) := by decide +kernel
theorem dX10_unit_90 : decode cX10_unit 90 = .ok (.iaload, 1) := by decide +kernel
theorem dX10_unit_91 : decode cX10_unit 91 = .ok (.iload_n 2, 1) := by decide +kernel
theorem dX10_unit_92 : decode cX10_unit 92 = .ok (.iconst 0, 1) := by decide +kernel
theorem dX10_unit_93 : decode cX10_unit 93 = .ok (.invokevirtual 166, 3) := by decide +kernel
theorem dX10_unit_96 : decode cX10_unit 96 = .ok (.iastore, 1) := by decide +kernel
theorem dX10_unit_97 : decode cX10_unit 97 = .ok (.return_, 1) := by decide +kernel
theorem dX10_joins_0 : decode cX10_joins 0 = .ok (.aload_n 0, 1) := by decide +kernel
theorem dX10_joins_1 : decode cX10_joins 1 = .ok (.getfield 43, 3) := by decide +kernel
theorem dX10_joins_4 : decode cX10_joins 4 = .ok (.aload_n 0, 1) := by decide +kernel
theorem dX10_joins_5 : decode cX10_joins 5 = .ok (.getfield 160, 3) := by decide +kernel
theorem dX10_joins_8 : decode cX10_joins 8 = .ok (.aload_n 0, 1) := by decide +kernel
theorem dX10_joins_9 : decode cX10_joins 9 = .ok (.getfield 43, 3) := by decide +kernel
theorem dX10_joins_12 : decode cX10_joins 12 = .ok (.aload_n 0, 1) := by decide +kernel
theorem dX10_joins_13 : decode cX10_joins 13 = .ok (.getfield 160, 3) := by decide +kernel
theorem dX10_joins_16 : decode cX10_joins 16 = .ok (.iaload, 1) := by decide +kernel
theorem dX10_joins_17 : decode cX10_joins 17 = .ok (.ifCond .ge 15, 3) := by decide +kernel
theorem dX10_joins_20 : decode cX10_joins 20 = .ok (.aload_n 0, 1) := by decide +kernel
theorem dX10_joins_21 : decode cX10_joins 21 = .ok (.getfield 46, 3) := by decide +kernel
theorem dX10_joins_24 : decode cX10_joins 24 = .ok (.aload_n 0, 1) := by decide +kernel
theorem dX10_joins_25 : decode cX10_joins 25 = .ok (.getfield 160, 3) := by decide +kernel
theorem dX10_joins_28 : decode cX10_joins 28 = .ok (.iaload, 1) := by decide +kernel
theorem dX10_joins_29 : decode cX10_joins 29 = .ok (.goto 27, 3) := by decide +kernel
theorem dX10_joins_32 : decode cX10_joins 32 = .ok (.aload_n 0, 1) := by decide +kernel
theorem dX10_joins_33 : decode cX10_joins 33 = .ok (.iconst 5, 1) := by decide +kernel
theorem dX10_joins_34 : decode cX10_joins 34 = .ok (.aload_n 0, 1) := by decide +kernel
theorem dX10_joins_35 : decode cX10_joins 35 = .ok (.getfield 43, 3) := by decide +kernel
theorem dX10_joins_38 : decode cX10_joins 38 = .ok (.aload_n 0, 1) := by decide +kernel
theorem dX10_joins_39 : decode cX10_joins 39 = .ok (.getfield 160, 3) := by decide +kernel
theorem dX10_joins_42 : decode cX10_joins 42 = .ok (.iaload, 1) := by decide +kernel
theorem dX10_joins_43 : decode cX10_joins 43 = .ok (.aload_n 0, 1) := by decide +kernel
theorem dX10_joins_44 : decode cX10_joins 44 = .ok (.getfield 46, 3) := by decide +kernel
theorem dX10_joins_47 : decode cX10_joins 47 = .ok (.aload_n 0, 1) := by decide +kernel
theorem dX10_joins_48 : decode cX10_joins 48 = .ok (.getfield 160, 3) := by decide +kernel
theorem dX10_joins_51 : decode cX10_joins 51 = .ok (.iaload, 1) := by decide +kernel
theorem dX10_joins_52 : decode cX10_joins 52 = .ok (.iconst 0, 1) := by decide +kernel
theorem dX10_joins_53 : decode cX10_joins 53 = .ok (.invokevirtual 166, 3) := by decide +kernel
theorem dX10_joins_56 : decode cX10_joins 56 = .ok (.iastore, 1) := by decide +kernel
theorem dX10_joins_57 : decode cX10_joins 57 = .ok (.aload_n 0, 1) := by decide +kernel
theorem dX10_joins_58 : decode cX10_joins 58 = .ok (.getfield 46, 3) := by decide +kernel
theorem dX10_joins_61 : decode cX10_joins 61 = .ok (.aload_n 0, 1) := by decide +kernel
theorem dX10_joins_62 : decode cX10_joins 62 = .ok (.getfield 160, 3) := by decide +kernel
theorem dX10_joins_65 : decode cX10_joins 65 = .ok (.iconst (-1), 1) := by decide +kernel
theorem dX10_joins_66 : decode cX10_joins 66 = .ok (.iastore, 1) := by decide +kernel
theorem dX10_joins_67 : decode cX10_joins 67 = .ok (.return_, 1) := by decide +kernel
theorem dX10_sign_0 : decode cX10_sign 0 = .ok (.aload_n 0, 1) := by decide +kernel
theorem dX10_sign_1 : decode cX10_sign 1 = .ok (.getfield 170, 3) := by decide +kernel
theorem dX10_sign_4 : decode cX10_sign 4 = .ok (.aload_n 0, 1) := by decide +kernel
theorem dX10_sign_5 : decode cX10_sign 5 = .ok (.getfield 151, 3) := by decide +kernel
theorem dX10_sign_8 : decode cX10_sign 8 = .ok (.if_icmp .ge 15, 3) := by decide +kernel
theorem dX10_sign_11 : decode cX10_sign 11 = .ok (.aload_n 0, 1) := by decide +kernel
theorem dX10_sign_12 : decode cX10_sign 12 = .ok (.getfield 22, 3) := by decide +kernel
theorem dX10_sign_15 : decode cX10_sign 15 = .ok (.aload_n 0, 1) := by decide +kernel
theorem dX10_sign_16 : decode cX10_sign 16 = .ok (.getfield 170, 3) := by decide +kernel
theorem dX10_sign_19 : decode cX10_sign 19 = .ok (.iaload, 1) := by decide +kernel
theorem dX10_sign_20 : decode cX10_sign 20 = .ok (.goto 4, 3) := by decide +kernel
theorem dX10_sign_23 : decode cX10_sign 23 = .ok (.iconst (-1), 1) := by decide +kernel
theorem dX10_sign_24 : decode cX10_sign 24 = .ok (.ireturn, 1) := by decide +kernel
theorem dX10_readsAgents_0 : decode cX10_readsAgents 0 = .ok (.aload_n 0, 1) := by decide +kernel
theorem dX10_readsAgents_1 : decode cX10_readsAgents 1 = .ok (.invokevirtual 173, 3) := by decide +kernel
theorem dX10_readsAgents_4 : decode cX10_readsAgents 4 = .ok (.bipush 91, 2) := by decide +kernel
theorem dX10_readsAgents_6 : decode cX10_readsAgents 6 = .ok (.if_icmp .ne 7, 3) := by decide +kernel
theorem dX10_readsAgents_9 : decode cX10_readsAgents 9 = .ok (.iconst 1, 1) := by decide +kernel
theorem dX10_readsAgents_10 : decode cX10_readsAgents 10 = .ok (.goto 4, 3) := by decide +kernel
theorem dX10_readsAgents_13 : decode cX10_readsAgents 13 = .ok (.iconst 0, 1) := by decide +kernel
theorem dX10_readsAgents_14 : decode cX10_readsAgents 14 = .ok (.istore_n 1, 1) := by decide +kernel
theorem dX10_readsAgents_15 : decode cX10_readsAgents 15 = .ok (.iconst 0, 1) := by decide +kernel
theorem dX10_readsAgents_16 : decode cX10_readsAgents 16 = .ok (.istore_n 2, 1) := by decide +kernel
theorem dX10_readsAgents_17 : decode cX10_readsAgents 17 = .ok (.iconst 0, 1) := by decide +kernel
theorem dX10_readsAgents_18 : decode cX10_readsAgents 18 = .ok (.istore_n 3, 1) := by decide +kernel
theorem dX10_readsAgents_19 : decode cX10_readsAgents 19 = .ok (.aload_n 0, 1) := by decide +kernel
theorem dX10_readsAgents_20 : decode cX10_readsAgents 20 = .ok (.dup, 1) := by decide +kernel
theorem dX10_readsAgents_21 : decode cX10_readsAgents 21 = .ok (.getfield 170, 3) := by decide +kernel
theorem dX10_readsAgents_24 : decode cX10_readsAgents 24 = .ok (.iconst 1, 1) := by decide +kernel
theorem dX10_readsAgents_25 : decode cX10_readsAgents 25 = .ok (.iadd, 1) := by decide +kernel
theorem dX10_readsAgents_26 : decode cX10_readsAgents 26 = .ok (.putfield 170, 3) := by decide +kernel
theorem dX10_readsAgents_29 : decode cX10_readsAgents 29 = .ok (.aload_n 0, 1) := by decide +kernel
theorem dX10_readsAgents_30 : decode cX10_readsAgents 30 = .ok (.invokevirtual 173, 3) := by decide +kernel
theorem dX10_readsAgents_33 : decode cX10_readsAgents 33 = .ok (.bipush 48, 2) := by decide +kernel
theorem dX10_readsAgents_35 : decode cX10_readsAgents 35 = .ok (.iload_n 3, 1) := by decide +kernel
theorem dX10_readsAgents_36 : decode cX10_readsAgents 36 = .ok (.iadd, 1) := by decide +kernel
theorem dX10_readsAgents_37 : decode cX10_readsAgents 37 = .ok (.bipush 48, 2) := by decide +kernel
theorem dX10_readsAgents_39 : decode cX10_readsAgents 39 = .ok (.aload_n 0, 1) := by decide +kernel
theorem dX10_readsAgents_40 : decode cX10_readsAgents 40 = .ok (.getfield 82, 3) := by decide +kernel
theorem dX10_readsAgents_43 : decode cX10_readsAgents 43 = .ok (.iadd, 1) := by decide +kernel
theorem dX10_readsAgents_44 : decode cX10_readsAgents 44 = .ok (.iconst 1, 1) := by decide +kernel
theorem dX10_readsAgents_45 : decode cX10_readsAgents 45 = .ok (.isub, 1) := by decide +kernel
theorem dX10_readsAgents_46 : decode cX10_readsAgents 46 = .ok (.invokestatic 93, 3) := by decide +kernel
theorem dX10_readsAgents_49 : decode cX10_readsAgents 49 = .ok (.ifCond .eq 38, 3) := by decide +kernel
theorem dX10_readsAgents_52 : decode cX10_readsAgents 52 = .ok (.iload_n 2, 1) := by decide +kernel
theorem dX10_readsAgents_53 : decode cX10_readsAgents 53 = .ok (.iconst 1, 1) := by decide +kernel
theorem dX10_readsAgents_54 : decode cX10_readsAgents 54 = .ok (.aload_n 0, 1) := by decide +kernel
theorem dX10_readsAgents_55 : decode cX10_readsAgents 55 = .ok (.invokevirtual 173, 3) := by decide +kernel
theorem dX10_readsAgents_58 : decode cX10_readsAgents 58 = .ok (.bipush 48, 2) := by decide +kernel
theorem dX10_readsAgents_60 : decode cX10_readsAgents 60 = .ok (.isub, 1) := by decide +kernel
theorem dX10_readsAgents_61 : decode cX10_readsAgents 61 = .ok (.ishl, 1) := by decide +kernel
theorem dX10_readsAgents_62 : decode cX10_readsAgents 62 = .ok (.ior, 1) := by decide +kernel
theorem dX10_readsAgents_63 : decode cX10_readsAgents 63 = .ok (.istore_n 2, 1) := by decide +kernel
theorem dX10_readsAgents_64 : decode cX10_readsAgents 64 = .ok (.aload_n 0, 1) := by decide +kernel
theorem dX10_readsAgents_65 : decode cX10_readsAgents 65 = .ok (.invokevirtual 173, 3) := by decide +kernel
theorem dX10_readsAgents_68 : decode cX10_readsAgents 68 = .ok (.bipush 48, 2) := by decide +kernel
theorem dX10_readsAgents_70 : decode cX10_readsAgents 70 = .ok (.isub, 1) := by decide +kernel
theorem dX10_readsAgents_71 : decode cX10_readsAgents 71 = .ok (.iconst 1, 1) := by decide +kernel
theorem dX10_readsAgents_72 : decode cX10_readsAgents 72 = .ok (.iadd, 1) := by decide +kernel
theorem dX10_readsAgents_73 : decode cX10_readsAgents 73 = .ok (.istore_n 3, 1) := by decide +kernel
theorem dX10_readsAgents_74 : decode cX10_readsAgents 74 = .ok (.aload_n 0, 1) := by decide +kernel
theorem dX10_readsAgents_75 : decode cX10_readsAgents 75 = .ok (.dup, 1) := by decide +kernel
theorem dX10_readsAgents_76 : decode cX10_readsAgents 76 = .ok (.getfield 170, 3) := by decide +kernel
theorem dX10_readsAgents_79 : decode cX10_readsAgents 79 = .ok (.iconst 1, 1) := by decide +kernel
theorem dX10_readsAgents_80 : decode cX10_readsAgents 80 = .ok (.iadd, 1) := by decide +kernel
theorem dX10_readsAgents_81 : decode cX10_readsAgents 81 = .ok (.putfield 170, 3) := by decide +kernel
theorem dX10_readsAgents_84 : decode cX10_readsAgents 84 = .ok (.goto (-55), 3) := by decide +kernel
theorem dX10_readsAgents_87 : decode cX10_readsAgents 87 = .ok (.aload_n 0, 1) := by decide +kernel
theorem dX10_readsAgents_88 : decode cX10_readsAgents 88 = .ok (.invokevirtual 173, 3) := by decide +kernel
theorem dX10_readsAgents_91 : decode cX10_readsAgents 91 = .ok (.iload_n 1, 1) := by decide +kernel
theorem dX10_readsAgents_92 : decode cX10_readsAgents 92 = .ok (.ifCond .eq 8, 3) := by decide +kernel
theorem dX10_readsAgents_95 : decode cX10_readsAgents 95 = .ok (.bipush 93, 2) := by decide +kernel
theorem dX10_readsAgents_97 : decode cX10_readsAgents 97 = .ok (.goto 5, 3) := by decide +kernel
theorem dX10_readsAgents_100 : decode cX10_readsAgents 100 = .ok (.bipush 62, 2) := by decide +kernel
theorem dX10_readsAgents_102 : decode cX10_readsAgents 102 = .ok (.if_icmp .eq 5, 3) := by decide +kernel
theorem dX10_readsAgents_105 : decode cX10_readsAgents 105 = .ok (.iconst 0, 1) := by decide +kernel
theorem dX10_readsAgents_106 : decode cX10_readsAgents 106 = .ok (.ireturn, 1) := by decide +kernel
theorem dX10_readsAgents_107 : decode cX10_readsAgents 107 = .ok (.aload_n 0, 1) := by decide +kernel
theorem dX10_readsAgents_108 : decode cX10_readsAgents 108 = .ok (.dup, 1) := by decide +kernel
theorem dX10_readsAgents_109 : decode cX10_readsAgents 109 = .ok (.getfield 170, 3) := by decide +kernel
theorem dX10_readsAgents_112 : decode cX10_readsAgents 112 = .ok (.iconst 1, 1) := by decide +kernel
theorem dX10_readsAgents_113 : decode cX10_readsAgents 113 = .ok (.iadd, 1) := by decide +kernel
theorem dX10_readsAgents_114 : decode cX10_readsAgents 114 = .ok (.putfield 170, 3) := by decide +kernel
theorem dX10_readsAgents_117 : decode cX10_readsAgents 117 = .ok (.aload_n 0, 1) := by decide +kernel
theorem dX10_readsAgents_118 : decode cX10_readsAgents 118 = .ok (.invokevirtual 173, 3) := by decide +kernel
theorem dX10_readsAgents_121 : decode cX10_readsAgents 121 = .ok (.bipush 88, 2) := by decide +kernel
theorem dX10_readsAgents_123 : decode cX10_readsAgents 123 = .ok (.if_icmp .ne 8, 3) := by decide +kernel
theorem dX10_readsAgents_126 : decode cX10_readsAgents 126 = .ok (.bipush 6, 2) := by decide +kernel
theorem dX10_readsAgents_128 : decode cX10_readsAgents 128 = .ok (.goto 46, 3) := by decide +kernel
theorem dX10_readsAgents_131 : decode cX10_readsAgents 131 = .ok (.aload_n 0, 1) := by decide +kernel
theorem dX10_readsAgents_132 : decode cX10_readsAgents 132 = .ok (.invokevirtual 173, 3) := by decide +kernel
theorem dX10_readsAgents_135 : decode cX10_readsAgents 135 = .ok (.bipush 70, 2) := by decide +kernel
theorem dX10_readsAgents_137 : decode cX10_readsAgents 137 = .ok (.if_icmp .ne 8, 3) := by decide +kernel
theorem dX10_readsAgents_140 : decode cX10_readsAgents 140 = .ok (.bipush 7, 2) := by decide +kernel
theorem dX10_readsAgents_142 : decode cX10_readsAgents 142 = .ok (.goto 32, 3) := by decide +kernel
theorem dX10_readsAgents_145 : decode cX10_readsAgents 145 = .ok (.aload_n 0, 1) := by decide +kernel
theorem dX10_readsAgents_146 : decode cX10_readsAgents 146 = .ok (.invokevirtual 173, 3) := by decide +kernel
theorem dX10_readsAgents_149 : decode cX10_readsAgents 149 = .ok (.bipush 71, 2) := by decide +kernel
theorem dX10_readsAgents_151 : decode cX10_readsAgents 151 = .ok (.if_icmp .ne 8, 3) := by decide +kernel
theorem dX10_readsAgents_154 : decode cX10_readsAgents 154 = .ok (.bipush 8, 2) := by decide +kernel
theorem dX10_readsAgents_156 : decode cX10_readsAgents 156 = .ok (.goto 18, 3) := by decide +kernel
theorem dX10_readsAgents_159 : decode cX10_readsAgents 159 = .ok (.aload_n 0, 1) := by decide +kernel
theorem dX10_readsAgents_160 : decode cX10_readsAgents 160 = .ok (.invokevirtual 173, 3) := by decide +kernel
theorem dX10_readsAgents_163 : decode cX10_readsAgents 163 = .ok (.bipush 40, 2) := by decide +kernel
theorem dX10_readsAgents_165 : decode cX10_readsAgents 165 = .ok (.if_icmp .ne 8, 3) := by decide +kernel
theorem dX10_readsAgents_168 : decode cX10_readsAgents 168 = .ok (.bipush 9, 2) := by decide +kernel
theorem dX10_readsAgents_170 : decode cX10_readsAgents 170 = .ok (.goto 4, 3) := by decide +kernel
theorem dX10_readsAgents_173 : decode cX10_readsAgents 173 = .ok (.iconst (-1), 1) := by decide +kernel
theorem dX10_readsAgents_174 : decode cX10_readsAgents 174 = .ok (.istore 4, 2) := by decide +kernel
theorem dX10_readsAgents_176 : decode cX10_readsAgents 176 = .ok (.iload 4, 2) := by decide +kernel
theorem dX10_readsAgents_178 : decode cX10_readsAgents 178 = .ok (.ifCond .ge 5, 3) := by decide +kernel
theorem dX10_readsAgents_181 : decode cX10_readsAgents 181 = .ok (.iconst 0, 1) := by decide +kernel
theorem dX10_readsAgents_182 : decode cX10_readsAgents 182 = .ok (.ireturn, 1) := by decide +kernel
theorem dX10_readsAgents_183 : decode cX10_readsAgents 183 = .ok (.iload 4, 2) := by decide +kernel
theorem dX10_readsAgents_185 : decode cX10_readsAgents 185 = .ok (.iload_n 1, 1) := by decide +kernel
theorem dX10_readsAgents_186 : decode cX10_readsAgents 186 = .ok (.ifCond .eq 7, 3) := by decide +kernel
theorem dX10_readsAgents_189 : decode cX10_readsAgents 189 = .ok (.iconst 4, 1) := by decide +kernel
theorem dX10_readsAgents_190 : decode cX10_readsAgents 190 = .ok (.goto 4, 3) := by decide +kernel
theorem dX10_readsAgents_193 : decode cX10_readsAgents 193 = .ok (.iconst 0, 1) := by decide +kernel
theorem dX10_readsAgents_194 : decode cX10_readsAgents 194 = .ok (.iadd, 1) := by decide +kernel
theorem dX10_readsAgents_195 : decode cX10_readsAgents 195 = .ok (.istore 4, 2) := by decide +kernel
theorem dX10_readsAgents_197 : decode cX10_readsAgents 197 = .ok (.aload_n 0, 1) := by decide +kernel
theorem dX10_readsAgents_198 : decode cX10_readsAgents 198 = .ok (.invokevirtual 173, 3) := by decide +kernel
theorem dX10_readsAgents_201 : decode cX10_readsAgents 201 = .ok (.bipush 40, 2) := by decide +kernel
theorem dX10_readsAgents_203 : decode cX10_readsAgents 203 = .ok (.if_icmp .ne 14, 3) := by decide +kernel
theorem dX10_readsAgents_206 : decode cX10_readsAgents 206 = .ok (.aload_n 0, 1) := by decide +kernel
theorem dX10_readsAgents_207 : decode cX10_readsAgents 207 = .ok (.iconst 2, 1) := by decide +kernel
theorem dX10_readsAgents_208 : decode cX10_readsAgents 208 = .ok (.iload 4, 2) := by decide +kernel
theorem dX10_readsAgents_210 : decode cX10_readsAgents 210 = .ok (.iload_n 2, 1) := by decide +kernel
theorem dX10_readsAgents_211 : decode cX10_readsAgents 211 = .ok (.invokevirtual 177, 3) := by decide +kernel
theorem dX10_readsAgents_214 : decode cX10_readsAgents 214 = .ok (.goto 34, 3) := by decide +kernel
theorem dX10_readsAgents_217 : decode cX10_readsAgents 217 = .ok (.aload_n 0, 1) := by decide +kernel
theorem dX10_readsAgents_218 : decode cX10_readsAgents 218 = .ok (.getfield 61, 3) := by decide +kernel
theorem dX10_readsAgents_221 : decode cX10_readsAgents 221 = .ok (.aload_n 0, 1) := by decide +kernel
theorem dX10_readsAgents_222 : decode cX10_readsAgents 222 = .ok (.getfield 163, 3) := by decide +kernel
theorem dX10_readsAgents_225 : decode cX10_readsAgents 225 = .ok (.iload 4, 2) := by decide +kernel
theorem dX10_readsAgents_227 : decode cX10_readsAgents 227 = .ok (.iastore, 1) := by decide +kernel
theorem dX10_readsAgents_228 : decode cX10_readsAgents 228 = .ok (.aload_n 0, 1) := by decide +kernel
theorem dX10_readsAgents_229 : decode cX10_readsAgents 229 = .ok (.getfield 64, 3) := by decide +kernel
theorem dX10_readsAgents_232 : decode cX10_readsAgents 232 = .ok (.aload_n 0, 1) := by decide +kernel
theorem dX10_readsAgents_233 : decode cX10_readsAgents 233 = .ok (.getfield 163, 3) := by decide +kernel
theorem dX10_readsAgents_236 : decode cX10_readsAgents 236 = .ok (.iload_n 2, 1) := by decide +kernel
theorem dX10_readsAgents_237 : decode cX10_readsAgents 237 = .ok (.iastore, 1) := by decide +kernel
theorem dX10_readsAgents_238 : decode cX10_readsAgents 238 = .ok (.aload_n 0, 1) := by decide +kernel
theorem dX10_readsAgents_239 : decode cX10_readsAgents 239 = .ok (.dup, 1) := by decide +kernel
theorem dX10_readsAgents_240 : decode cX10_readsAgents 240 = .ok (.getfield 163, 3) := by decide +kernel
theorem dX10_readsAgents_243 : decode cX10_readsAgents 243 = .ok (.iconst 1, 1) := by decide +kernel
theorem dX10_readsAgents_244 : decode cX10_readsAgents 244 = .ok (.iadd, 1) := by decide +kernel
theorem dX10_readsAgents_245 : decode cX10_readsAgents 245 = .ok (.putfield 163, 3) := by decide +kernel
theorem dX10_readsAgents_248 : decode cX10_readsAgents 248 = .ok (.aload_n 0, 1) := by decide +kernel
theorem dX10_readsAgents_249 : decode cX10_readsAgents 249 = .ok (.dup, 1) := by decide +kernel
theorem dX10_readsAgents_250 : decode cX10_readsAgents 250 = .ok (.getfield 170, 3) := by decide +kernel
theorem dX10_readsAgents_253 : decode cX10_readsAgents 253 = .ok (.iconst 1, 1) := by decide +kernel
theorem dX10_readsAgents_254 : decode cX10_readsAgents 254 = .ok (.iadd, 1) := by decide +kernel
theorem dX10_readsAgents_255 : decode cX10_readsAgents 255 = .ok (.putfield 170, 3) := by decide +kernel
theorem dX10_readsAgents_258 : decode cX10_readsAgents 258 = .ok (.iconst 1, 1) := by decide +kernel
theorem dX10_readsAgents_259 : decode cX10_readsAgents 259 = .ok (.ireturn, 1) := by decide +kernel
theorem dX10_readsUnit_0 : decode cX10_readsUnit 0 = .ok (.aload_n 0, 1) := by decide +kernel
theorem dX10_readsUnit_1 : decode cX10_readsUnit 1 = .ok (.invokevirtual 173, 3) := by decide +kernel
theorem dX10_readsUnit_4 : decode cX10_readsUnit 4 = .ok (.istore_n 1, 1) := by decide +kernel
theorem dX10_readsUnit_5 : decode cX10_readsUnit 5 = .ok (.aload_n 0, 1) := by decide +kernel
theorem dX10_readsUnit_6 : decode cX10_readsUnit 6 = .ok (.iconst 0, 1) := by decide +kernel
theorem dX10_readsUnit_7 : decode cX10_readsUnit 7 = .ok (.putfield 181, 3) := by decide +kernel
theorem dX10_readsUnit_10 : decode cX10_readsUnit 10 = .ok (.iload_n 1, 1) := by decide +kernel
theorem dX10_readsUnit_11 : decode cX10_readsUnit 11 = .ok (.bipush 60, 2) := by decide +kernel
theorem dX10_readsUnit_13 : decode cX10_readsUnit 13 = .ok (.if_icmp .eq 9, 3) := by decide +kernel
theorem dX10_readsUnit_16 : decode cX10_readsUnit 16 = .ok (.iload_n 1, 1) := by decide +kernel
theorem dX10_readsUnit_17 : decode cX10_readsUnit 17 = .ok (.bipush 91, 2) := by decide +kernel
theorem dX10_readsUnit_19 : decode cX10_readsUnit 19 = .ok (.if_icmp .ne 8, 3) := by decide +kernel
theorem dX10_readsUnit_22 : decode cX10_readsUnit 22 = .ok (.aload_n 0, 1) := by decide +kernel
theorem dX10_readsUnit_23 : decode cX10_readsUnit 23 = .ok (.invokevirtual 184, 3) := by decide +kernel
theorem dX10_readsUnit_26 : decode cX10_readsUnit 26 = .ok (.ireturn, 1) := by decide +kernel
theorem dX10_readsUnit_27 : decode cX10_readsUnit 27 = .ok (.iload_n 1, 1) := by decide +kernel
theorem dX10_readsUnit_28 : decode cX10_readsUnit 28 = .ok (.bipush 33, 2) := by decide +kernel
theorem dX10_readsUnit_30 : decode cX10_readsUnit 30 = .ok (.if_icmp .ne 36, 3) := by decide +kernel
theorem dX10_readsUnit_33 : decode cX10_readsUnit 33 = .ok (.aload_n 0, 1) := by decide +kernel
theorem dX10_readsUnit_34 : decode cX10_readsUnit 34 = .ok (.getfield 61, 3) := by decide +kernel
theorem dX10_readsUnit_37 : decode cX10_readsUnit 37 = .ok (.aload_n 0, 1) := by decide +kernel
theorem dX10_readsUnit_38 : decode cX10_readsUnit 38 = .ok (.getfield 163, 3) := by decide +kernel
theorem dX10_readsUnit_41 : decode cX10_readsUnit 41 = .ok (.iconst 3, 1) := by decide +kernel
theorem dX10_readsUnit_42 : decode cX10_readsUnit 42 = .ok (.iastore, 1) := by decide +kernel
theorem dX10_readsUnit_43 : decode cX10_readsUnit 43 = .ok (.aload_n 0, 1) := by decide +kernel
theorem dX10_readsUnit_44 : decode cX10_readsUnit 44 = .ok (.getfield 64, 3) := by decide +kernel
theorem dX10_readsUnit_47 : decode cX10_readsUnit 47 = .ok (.aload_n 0, 1) := by decide +kernel
theorem dX10_readsUnit_48 : decode cX10_readsUnit 48 = .ok (.getfield 163, 3) := by decide +kernel
theorem dX10_readsUnit_51 : decode cX10_readsUnit 51 = .ok (.iconst 0, 1) := by decide +kernel
theorem dX10_readsUnit_52 : decode cX10_readsUnit 52 = .ok (.iastore, 1) := by decide +kernel
theorem dX10_readsUnit_53 : decode cX10_readsUnit 53 = .ok (.aload_n 0, 1) := by decide +kernel
theorem dX10_readsUnit_54 : decode cX10_readsUnit 54 = .ok (.dup, 1) := by decide +kernel
theorem dX10_readsUnit_55 : decode cX10_readsUnit 55 = .ok (.getfield 163, 3) := by decide +kernel
theorem dX10_readsUnit_58 : decode cX10_readsUnit 58 = .ok (.iconst 1, 1) := by decide +kernel
theorem dX10_readsUnit_59 : decode cX10_readsUnit 59 = .ok (.iadd, 1) := by decide +kernel
theorem dX10_readsUnit_60 : decode cX10_readsUnit 60 = .ok (.putfield 163, 3) := by decide +kernel
theorem dX10_readsUnit_63 : decode cX10_readsUnit 63 = .ok (.goto 97, 3) := by decide +kernel
theorem dX10_readsUnit_66 : decode cX10_readsUnit 66 = .ok (.iload_n 1, 1) := by decide +kernel
theorem dX10_readsUnit_67 : decode cX10_readsUnit 67 = .ok (.bipush 40, 2) := by decide +kernel
theorem dX10_readsUnit_69 : decode cX10_readsUnit 69 = .ok (.if_icmp .ne 13, 3) := by decide +kernel
theorem dX10_readsUnit_72 : decode cX10_readsUnit 72 = .ok (.aload_n 0, 1) := by decide +kernel
theorem dX10_readsUnit_73 : decode cX10_readsUnit 73 = .ok (.iconst 1, 1) := by decide +kernel
theorem dX10_readsUnit_74 : decode cX10_readsUnit 74 = .ok (.iconst 0, 1) := by decide +kernel
theorem dX10_readsUnit_75 : decode cX10_readsUnit 75 = .ok (.iconst 0, 1) := by decide +kernel
theorem dX10_readsUnit_76 : decode cX10_readsUnit 76 = .ok (.invokevirtual 177, 3) := by decide +kernel
theorem dX10_readsUnit_79 : decode cX10_readsUnit 79 = .ok (.goto 81, 3) := by decide +kernel
theorem dX10_readsUnit_82 : decode cX10_readsUnit 82 = .ok (.iload_n 1, 1) := by decide +kernel
theorem dX10_readsUnit_83 : decode cX10_readsUnit 83 = .ok (.bipush 48, 2) := by decide +kernel
theorem dX10_readsUnit_85 : decode cX10_readsUnit 85 = .ok (.if_icmp .eq 9, 3) := by decide +kernel
theorem dX10_readsUnit_88 : decode cX10_readsUnit 88 = .ok (.iload_n 1, 1) := by decide +kernel
theorem dX10_readsUnit_89 : decode cX10_readsUnit 89 = .ok (.bipush 49, 2) := by decide +kernel
theorem dX10_readsUnit_91 : decode cX10_readsUnit 91 = .ok (.if_icmp .ne 33, 3) := by decide +kernel
theorem dX10_readsUnit_94 : decode cX10_readsUnit 94 = .ok (.aload_n 0, 1) := by decide +kernel
theorem dX10_readsUnit_95 : decode cX10_readsUnit 95 = .ok (.aload_n 0, 1) := by decide +kernel
theorem dX10_readsUnit_96 : decode cX10_readsUnit 96 = .ok (.iload_n 1, 1) := by decide +kernel
theorem dX10_readsUnit_97 : decode cX10_readsUnit 97 = .ok (.bipush 48, 2) := by decide +kernel
theorem dX10_readsUnit_99 : decode cX10_readsUnit 99 = .ok (.if_icmp .ne 7, 3) := by decide +kernel
theorem dX10_readsUnit_102 : decode cX10_readsUnit 102 = .ok (.iconst 0, 1) := by decide +kernel
theorem dX10_readsUnit_103 : decode cX10_readsUnit 103 = .ok (.goto 4, 3) := by decide +kernel
theorem dX10_readsUnit_106 : decode cX10_readsUnit 106 = .ok (.iconst 1, 1) := by decide +kernel
theorem dX10_readsUnit_107 : decode cX10_readsUnit 107 = .ok (.iconst (-1), 1) := by decide +kernel
theorem dX10_readsUnit_108 : decode cX10_readsUnit 108 = .ok (.iconst (-1), 1) := by decide +kernel
theorem dX10_readsUnit_109 : decode cX10_readsUnit 109 = .ok (.iconst 0, 1) := by decide +kernel
theorem dX10_readsUnit_110 : decode cX10_readsUnit 110 = .ok (.invokevirtual 166, 3) := by decide +kernel
theorem dX10_readsUnit_113 : decode cX10_readsUnit 113 = .ok (.invokevirtual 188, 3) := by decide +kernel
theorem dX10_readsUnit_116 : decode cX10_readsUnit 116 = .ok (.aload_n 0, 1) := by decide +kernel
theorem dX10_readsUnit_117 : decode cX10_readsUnit 117 = .ok (.iconst 1, 1) := by decide +kernel
theorem dX10_readsUnit_118 : decode cX10_readsUnit 118 = .ok (.putfield 181, 3) := by decide +kernel
theorem dX10_readsUnit_121 : decode cX10_readsUnit 121 = .ok (.goto 39, 3) := by decide +kernel
theorem dX10_readsUnit_124 : decode cX10_readsUnit 124 = .ok (.iload_n 1, 1) := by decide +kernel
theorem dX10_readsUnit_125 : decode cX10_readsUnit 125 = .ok (.bipush 97, 2) := by decide +kernel
theorem dX10_readsUnit_127 : decode cX10_readsUnit 127 = .ok (.bipush 122, 2) := by decide +kernel
theorem dX10_readsUnit_129 : decode cX10_readsUnit 129 = .ok (.invokestatic 93, 3) := by decide +kernel
theorem dX10_readsUnit_132 : decode cX10_readsUnit 132 = .ok (.ifCond .eq 26, 3) := by decide +kernel
theorem dX10_readsUnit_135 : decode cX10_readsUnit 135 = .ok (.aload_n 0, 1) := by decide +kernel
theorem dX10_readsUnit_136 : decode cX10_readsUnit 136 = .ok (.aload_n 0, 1) := by decide +kernel
theorem dX10_readsUnit_137 : decode cX10_readsUnit 137 = .ok (.iconst 2, 1) := by decide +kernel
theorem dX10_readsUnit_138 : decode cX10_readsUnit 138 = .ok (.iload_n 1, 1) := by decide +kernel
theorem dX10_readsUnit_139 : decode cX10_readsUnit 139 = .ok (.bipush 97, 2) := by decide +kernel
theorem dX10_readsUnit_141 : decode cX10_readsUnit 141 = .ok (.isub, 1) := by decide +kernel
theorem dX10_readsUnit_142 : decode cX10_readsUnit 142 = .ok (.iconst (-1), 1) := by decide +kernel
theorem dX10_readsUnit_143 : decode cX10_readsUnit 143 = .ok (.iconst 0, 1) := by decide +kernel
theorem dX10_readsUnit_144 : decode cX10_readsUnit 144 = .ok (.invokevirtual 166, 3) := by decide +kernel
theorem dX10_readsUnit_147 : decode cX10_readsUnit 147 = .ok (.invokevirtual 188, 3) := by decide +kernel
theorem dX10_readsUnit_150 : decode cX10_readsUnit 150 = .ok (.aload_n 0, 1) := by decide +kernel
theorem dX10_readsUnit_151 : decode cX10_readsUnit 151 = .ok (.iconst 1, 1) := by decide +kernel
theorem dX10_readsUnit_152 : decode cX10_readsUnit 152 = .ok (.putfield 181, 3) := by decide +kernel
theorem dX10_readsUnit_155 : decode cX10_readsUnit 155 = .ok (.goto 5, 3) := by decide +kernel
theorem dX10_readsUnit_158 : decode cX10_readsUnit 158 = .ok (.iconst 0, 1) := by decide +kernel
theorem dX10_readsUnit_159 : decode cX10_readsUnit 159 = .ok (.ireturn, 1) := by decide +kernel
theorem dX10_readsUnit_160 : decode cX10_readsUnit 160 = .ok (.aload_n 0, 1) := by decide +kernel
theorem dX10_readsUnit_161 : decode cX10_readsUnit 161 = .ok (.dup, 1) := by decide +kernel
theorem dX10_readsUnit_162 : decode cX10_readsUnit 162 = .ok (.getfield 170, 3) := by decide +kernel
theorem dX10_readsUnit_165 : decode cX10_readsUnit 165 = .ok (.iconst 1, 1) := by decide +kernel
theorem dX10_readsUnit_166 : decode cX10_readsUnit 166 = .ok (.iadd, 1) := by decide +kernel
theorem dX10_readsUnit_167 : decode cX10_readsUnit 167 = .ok (.putfield 170, 3) := by decide +kernel
theorem dX10_readsUnit_170 : decode cX10_readsUnit 170 = .ok (.iconst 1, 1) := by decide +kernel
theorem dX10_readsUnit_171 : decode cX10_readsUnit 171 = .ok (.ireturn, 1) := by decide +kernel
theorem dX10_readsBehind_0 : decode cX10_readsBehind 0 = .ok (.aload_n 0, 1) := by decide +kernel
theorem dX10_readsBehind_1 : decode cX10_readsBehind 1 = .ok (.invokevirtual 173, 3) := by decide +kernel
theorem dX10_readsBehind_4 : decode cX10_readsBehind 4 = .ok (.istore_n 1, 1) := by decide +kernel
theorem dX10_readsBehind_5 : decode cX10_readsBehind 5 = .ok (.iload_n 1, 1) := by decide +kernel
theorem dX10_readsBehind_6 : decode cX10_readsBehind 6 = .ok (.bipush 124, 2) := by decide +kernel
theorem dX10_readsBehind_8 : decode cX10_readsBehind 8 = .ok (.if_icmp .ne 15, 3) := by decide +kernel
theorem dX10_readsBehind_11 : decode cX10_readsBehind 11 = .ok (.aload_n 0, 1) := by decide +kernel
theorem dX10_readsBehind_12 : decode cX10_readsBehind 12 = .ok (.invokevirtual 191, 3) := by decide +kernel
theorem dX10_readsBehind_15 : decode cX10_readsBehind 15 = .ok (.aload_n 0, 1) := by decide +kernel
theorem dX10_readsBehind_16 : decode cX10_readsBehind 16 = .ok (.iconst 0, 1) := by decide +kernel
theorem dX10_readsBehind_17 : decode cX10_readsBehind 17 = .ok (.putfield 181, 3) := by decide +kernel
theorem dX10_readsBehind_20 : decode cX10_readsBehind 20 = .ok (.goto 198, 3) := by decide +kernel
theorem dX10_readsBehind_23 : decode cX10_readsBehind 23 = .ok (.iload_n 1, 1) := by decide +kernel
theorem dX10_readsBehind_24 : decode cX10_readsBehind 24 = .ok (.bipush 38, 2) := by decide +kernel
theorem dX10_readsBehind_26 : decode cX10_readsBehind 26 = .ok (.if_icmp .ne 11, 3) := by decide +kernel
theorem dX10_readsBehind_29 : decode cX10_readsBehind 29 = .ok (.aload_n 0, 1) := by decide +kernel
theorem dX10_readsBehind_30 : decode cX10_readsBehind 30 = .ok (.iconst 0, 1) := by decide +kernel
theorem dX10_readsBehind_31 : decode cX10_readsBehind 31 = .ok (.putfield 181, 3) := by decide +kernel
theorem dX10_readsBehind_34 : decode cX10_readsBehind 34 = .ok (.goto 184, 3) := by decide +kernel
theorem dX10_readsBehind_37 : decode cX10_readsBehind 37 = .ok (.iload_n 1, 1) := by decide +kernel
theorem dX10_readsBehind_38 : decode cX10_readsBehind 38 = .ok (.bipush 85, 2) := by decide +kernel
theorem dX10_readsBehind_40 : decode cX10_readsBehind 40 = .ok (.if_icmp .ne 66, 3) := by decide +kernel
theorem dX10_readsBehind_43 : decode cX10_readsBehind 43 = .ok (.aload_n 0, 1) := by decide +kernel
theorem dX10_readsBehind_44 : decode cX10_readsBehind 44 = .ok (.getfield 40, 3) := by decide +kernel
theorem dX10_readsBehind_47 : decode cX10_readsBehind 47 = .ok (.aload_n 0, 1) := by decide +kernel
theorem dX10_readsBehind_48 : decode cX10_readsBehind 48 = .ok (.getfield 160, 3) := by decide +kernel
theorem dX10_readsBehind_51 : decode cX10_readsBehind 51 = .ok (.iaload, 1) := by decide +kernel
theorem dX10_readsBehind_52 : decode cX10_readsBehind 52 = .ok (.iconst 2, 1) := by decide +kernel
theorem dX10_readsBehind_53 : decode cX10_readsBehind 53 = .ok (.if_icmp .ne 53, 3) := by decide +kernel
theorem dX10_readsBehind_56 : decode cX10_readsBehind 56 = .ok (.aload_n 0, 1) := by decide +kernel
theorem dX10_readsBehind_57 : decode cX10_readsBehind 57 = .ok (.invokevirtual 191, 3) := by decide +kernel
theorem dX10_readsBehind_60 : decode cX10_readsBehind 60 = .ok (.aload_n 0, 1) := by decide +kernel
theorem dX10_readsBehind_61 : decode cX10_readsBehind 61 = .ok (.getfield 49, 3) := by decide +kernel
theorem dX10_readsBehind_64 : decode cX10_readsBehind 64 = .ok (.aload_n 0, 1) := by decide +kernel
theorem dX10_readsBehind_65 : decode cX10_readsBehind 65 = .ok (.getfield 160, 3) := by decide +kernel
theorem dX10_readsBehind_68 : decode cX10_readsBehind 68 = .ok (.aload_n 0, 1) := by decide +kernel
theorem dX10_readsBehind_69 : decode cX10_readsBehind 69 = .ok (.getfield 43, 3) := by decide +kernel
theorem dX10_readsBehind_72 : decode cX10_readsBehind 72 = .ok (.aload_n 0, 1) := by decide +kernel
theorem dX10_readsBehind_73 : decode cX10_readsBehind 73 = .ok (.getfield 160, 3) := by decide +kernel
theorem dX10_readsBehind_76 : decode cX10_readsBehind 76 = .ok (.iaload, 1) := by decide +kernel
theorem dX10_readsBehind_77 : decode cX10_readsBehind 77 = .ok (.iastore, 1) := by decide +kernel
theorem dX10_readsBehind_78 : decode cX10_readsBehind 78 = .ok (.aload_n 0, 1) := by decide +kernel
theorem dX10_readsBehind_79 : decode cX10_readsBehind 79 = .ok (.getfield 40, 3) := by decide +kernel
theorem dX10_readsBehind_82 : decode cX10_readsBehind 82 = .ok (.aload_n 0, 1) := by decide +kernel
theorem dX10_readsBehind_83 : decode cX10_readsBehind 83 = .ok (.getfield 160, 3) := by decide +kernel
theorem dX10_readsBehind_86 : decode cX10_readsBehind 86 = .ok (.iconst 3, 1) := by decide +kernel
theorem dX10_readsBehind_87 : decode cX10_readsBehind 87 = .ok (.iastore, 1) := by decide +kernel
theorem dX10_readsBehind_88 : decode cX10_readsBehind 88 = .ok (.aload_n 0, 1) := by decide +kernel
theorem dX10_readsBehind_89 : decode cX10_readsBehind 89 = .ok (.getfield 43, 3) := by decide +kernel
theorem dX10_readsBehind_92 : decode cX10_readsBehind 92 = .ok (.aload_n 0, 1) := by decide +kernel
theorem dX10_readsBehind_93 : decode cX10_readsBehind 93 = .ok (.getfield 160, 3) := by decide +kernel
theorem dX10_readsBehind_96 : decode cX10_readsBehind 96 = .ok (.iconst (-1), 1) := by decide +kernel
theorem dX10_readsBehind_97 : decode cX10_readsBehind 97 = .ok (.iastore, 1) := by decide +kernel
theorem dX10_readsBehind_98 : decode cX10_readsBehind 98 = .ok (.aload_n 0, 1) := by decide +kernel
theorem dX10_readsBehind_99 : decode cX10_readsBehind 99 = .ok (.iconst 0, 1) := by decide +kernel
theorem dX10_readsBehind_100 : decode cX10_readsBehind 100 = .ok (.putfield 181, 3) := by decide +kernel
theorem dX10_readsBehind_103 : decode cX10_readsBehind 103 = .ok (.goto 115, 3) := by decide +kernel
theorem dX10_readsBehind_106 : decode cX10_readsBehind 106 = .ok (.iload_n 1, 1) := by decide +kernel
theorem dX10_readsBehind_107 : decode cX10_readsBehind 107 = .ok (.bipush 41, 2) := by decide +kernel
theorem dX10_readsBehind_109 : decode cX10_readsBehind 109 = .ok (.if_icmp .ne 107, 3) := by decide +kernel
theorem dX10_readsBehind_112 : decode cX10_readsBehind 112 = .ok (.aload_n 0, 1) := by decide +kernel
theorem dX10_readsBehind_113 : decode cX10_readsBehind 113 = .ok (.getfield 40, 3) := by decide +kernel
theorem dX10_readsBehind_116 : decode cX10_readsBehind 116 = .ok (.aload_n 0, 1) := by decide +kernel
theorem dX10_readsBehind_117 : decode cX10_readsBehind 117 = .ok (.getfield 160, 3) := by decide +kernel
theorem dX10_readsBehind_120 : decode cX10_readsBehind 120 = .ok (.iaload, 1) := by decide +kernel
theorem dX10_readsBehind_121 : decode cX10_readsBehind 121 = .ok (.iconst 1, 1) := by decide +kernel
theorem dX10_readsBehind_122 : decode cX10_readsBehind 122 = .ok (.if_icmp .eq 16, 3) := by decide +kernel
theorem dX10_readsBehind_125 : decode cX10_readsBehind 125 = .ok (.aload_n 0, 1) := by decide +kernel
theorem dX10_readsBehind_126 : decode cX10_readsBehind 126 = .ok (.getfield 40, 3) := by decide +kernel
theorem dX10_readsBehind_129 : decode cX10_readsBehind 129 = .ok (.aload_n 0, 1) := by decide +kernel
theorem dX10_readsBehind_130 : decode cX10_readsBehind 130 = .ok (.getfield 160, 3) := by decide +kernel
theorem dX10_readsBehind_133 : decode cX10_readsBehind 133 = .ok (.iaload, 1) := by decide +kernel
theorem dX10_readsBehind_134 : decode cX10_readsBehind 134 = .ok (.iconst 3, 1) := by decide +kernel
theorem dX10_readsBehind_135 : decode cX10_readsBehind 135 = .ok (.if_icmp .ne 81, 3) := by decide +kernel
theorem dX10_readsBehind_138 : decode cX10_readsBehind 138 = .ok (.aload_n 0, 1) := by decide +kernel
theorem dX10_readsBehind_139 : decode cX10_readsBehind 139 = .ok (.invokevirtual 191, 3) := by decide +kernel
theorem dX10_readsBehind_142 : decode cX10_readsBehind 142 = .ok (.aload_n 0, 1) := by decide +kernel
theorem dX10_readsBehind_143 : decode cX10_readsBehind 143 = .ok (.getfield 43, 3) := by decide +kernel
theorem dX10_readsBehind_146 : decode cX10_readsBehind 146 = .ok (.aload_n 0, 1) := by decide +kernel
theorem dX10_readsBehind_147 : decode cX10_readsBehind 147 = .ok (.getfield 160, 3) := by decide +kernel
theorem dX10_readsBehind_150 : decode cX10_readsBehind 150 = .ok (.iaload, 1) := by decide +kernel
theorem dX10_readsBehind_151 : decode cX10_readsBehind 151 = .ok (.istore_n 2, 1) := by decide +kernel
theorem dX10_readsBehind_152 : decode cX10_readsBehind 152 = .ok (.aload_n 0, 1) := by decide +kernel
theorem dX10_readsBehind_153 : decode cX10_readsBehind 153 = .ok (.getfield 40, 3) := by decide +kernel
theorem dX10_readsBehind_156 : decode cX10_readsBehind 156 = .ok (.aload_n 0, 1) := by decide +kernel
theorem dX10_readsBehind_157 : decode cX10_readsBehind 157 = .ok (.getfield 160, 3) := by decide +kernel
theorem dX10_readsBehind_160 : decode cX10_readsBehind 160 = .ok (.iaload, 1) := by decide +kernel
theorem dX10_readsBehind_161 : decode cX10_readsBehind 161 = .ok (.iconst 3, 1) := by decide +kernel
theorem dX10_readsBehind_162 : decode cX10_readsBehind 162 = .ok (.if_icmp .ne 36, 3) := by decide +kernel
theorem dX10_readsBehind_165 : decode cX10_readsBehind 165 = .ok (.aload_n 0, 1) := by decide +kernel
theorem dX10_readsBehind_166 : decode cX10_readsBehind 166 = .ok (.aload_n 0, 1) := by decide +kernel
theorem dX10_readsBehind_167 : decode cX10_readsBehind 167 = .ok (.getfield 55, 3) := by decide +kernel
theorem dX10_readsBehind_170 : decode cX10_readsBehind 170 = .ok (.aload_n 0, 1) := by decide +kernel
theorem dX10_readsBehind_171 : decode cX10_readsBehind 171 = .ok (.getfield 160, 3) := by decide +kernel
theorem dX10_readsBehind_174 : decode cX10_readsBehind 174 = .ok (.iaload, 1) := by decide +kernel
theorem dX10_readsBehind_175 : decode cX10_readsBehind 175 = .ok (.aload_n 0, 1) := by decide +kernel
theorem dX10_readsBehind_176 : decode cX10_readsBehind 176 = .ok (.getfield 49, 3) := by decide +kernel
theorem dX10_readsBehind_179 : decode cX10_readsBehind 179 = .ok (.aload_n 0, 1) := by decide +kernel
theorem dX10_readsBehind_180 : decode cX10_readsBehind 180 = .ok (.getfield 160, 3) := by decide +kernel
theorem dX10_readsBehind_183 : decode cX10_readsBehind 183 = .ok (.iaload, 1) := by decide +kernel
theorem dX10_readsBehind_184 : decode cX10_readsBehind 184 = .ok (.iload_n 2, 1) := by decide +kernel
theorem dX10_readsBehind_185 : decode cX10_readsBehind 185 = .ok (.aload_n 0, 1) := by decide +kernel
theorem dX10_readsBehind_186 : decode cX10_readsBehind 186 = .ok (.getfield 58, 3) := by decide +kernel
theorem dX10_readsBehind_189 : decode cX10_readsBehind 189 = .ok (.aload_n 0, 1) := by decide +kernel
theorem dX10_readsBehind_190 : decode cX10_readsBehind 190 = .ok (.getfield 160, 3) := by decide +kernel
theorem dX10_readsBehind_193 : decode cX10_readsBehind 193 = .ok (.iaload, 1) := by decide +kernel
theorem dX10_readsBehind_194 : decode cX10_readsBehind 194 = .ok (.invokevirtual 166, 3) := by decide +kernel
theorem dX10_readsBehind_197 : decode cX10_readsBehind 197 = .ok (.istore_n 2, 1) := by decide +kernel
theorem dX10_readsBehind_198 : decode cX10_readsBehind 198 = .ok (.aload_n 0, 1) := by decide +kernel
theorem dX10_readsBehind_199 : decode cX10_readsBehind 199 = .ok (.dup, 1) := by decide +kernel
theorem dX10_readsBehind_200 : decode cX10_readsBehind 200 = .ok (.getfield 160, 3) := by decide +kernel
theorem dX10_readsBehind_203 : decode cX10_readsBehind 203 = .ok (.iconst 1, 1) := by decide +kernel
theorem dX10_readsBehind_204 : decode cX10_readsBehind 204 = .ok (.isub, 1) := by decide +kernel
theorem dX10_readsBehind_205 : decode cX10_readsBehind 205 = .ok (.putfield 160, 3) := by decide +kernel
theorem dX10_readsBehind_208 : decode cX10_readsBehind 208 = .ok (.aload_n 0, 1) := by decide +kernel
theorem dX10_readsBehind_209 : decode cX10_readsBehind 209 = .ok (.iload_n 2, 1) := by decide +kernel
theorem dX10_readsBehind_210 : decode cX10_readsBehind 210 = .ok (.invokevirtual 188, 3) := by decide +kernel
theorem dX10_readsBehind_213 : decode cX10_readsBehind 213 = .ok (.goto 5, 3) := by decide +kernel
theorem dX10_readsBehind_216 : decode cX10_readsBehind 216 = .ok (.iconst 0, 1) := by decide +kernel
theorem dX10_readsBehind_217 : decode cX10_readsBehind 217 = .ok (.ireturn, 1) := by decide +kernel
theorem dX10_readsBehind_218 : decode cX10_readsBehind 218 = .ok (.aload_n 0, 1) := by decide +kernel
theorem dX10_readsBehind_219 : decode cX10_readsBehind 219 = .ok (.dup, 1) := by decide +kernel
theorem dX10_readsBehind_220 : decode cX10_readsBehind 220 = .ok (.getfield 170, 3) := by decide +kernel
theorem dX10_readsBehind_223 : decode cX10_readsBehind 223 = .ok (.iconst 1, 1) := by decide +kernel
theorem dX10_readsBehind_224 : decode cX10_readsBehind 224 = .ok (.iadd, 1) := by decide +kernel
theorem dX10_readsBehind_225 : decode cX10_readsBehind 225 = .ok (.putfield 170, 3) := by decide +kernel
theorem dX10_readsBehind_228 : decode cX10_readsBehind 228 = .ok (.iconst 1, 1) := by decide +kernel
theorem dX10_readsBehind_229 : decode cX10_readsBehind 229 = .ok (.ireturn, 1) := by decide +kernel
theorem dX10_parses_0 : decode cX10_parses 0 = .ok (.aload_n 0, 1) := by decide +kernel
theorem dX10_parses_1 : decode cX10_parses 1 = .ok (.iconst 0, 1) := by decide +kernel
theorem dX10_parses_2 : decode cX10_parses 2 = .ok (.putfield 157, 3) := by decide +kernel
theorem dX10_parses_5 : decode cX10_parses 5 = .ok (.aload_n 0, 1) := by decide +kernel
theorem dX10_parses_6 : decode cX10_parses 6 = .ok (.iconst 0, 1) := by decide +kernel
theorem dX10_parses_7 : decode cX10_parses 7 = .ok (.putfield 163, 3) := by decide +kernel
theorem dX10_parses_10 : decode cX10_parses 10 = .ok (.aload_n 0, 1) := by decide +kernel
theorem dX10_parses_11 : decode cX10_parses 11 = .ok (.iconst (-1), 1) := by decide +kernel
theorem dX10_parses_12 : decode cX10_parses 12 = .ok (.putfield 160, 3) := by decide +kernel
theorem dX10_parses_15 : decode cX10_parses 15 = .ok (.aload_n 0, 1) := by decide +kernel
theorem dX10_parses_16 : decode cX10_parses 16 = .ok (.iconst 0, 1) := by decide +kernel
theorem dX10_parses_17 : decode cX10_parses 17 = .ok (.iconst 0, 1) := by decide +kernel
theorem dX10_parses_18 : decode cX10_parses 18 = .ok (.iconst 0, 1) := by decide +kernel
theorem dX10_parses_19 : decode cX10_parses 19 = .ok (.invokevirtual 177, 3) := by decide +kernel
theorem dX10_parses_22 : decode cX10_parses 22 = .ok (.aload_n 0, 1) := by decide +kernel
theorem dX10_parses_23 : decode cX10_parses 23 = .ok (.iconst 0, 1) := by decide +kernel
theorem dX10_parses_24 : decode cX10_parses 24 = .ok (.putfield 170, 3) := by decide +kernel
theorem dX10_parses_27 : decode cX10_parses 27 = .ok (.aload_n 0, 1) := by decide +kernel
theorem dX10_parses_28 : decode cX10_parses 28 = .ok (.iconst 0, 1) := by decide +kernel
theorem dX10_parses_29 : decode cX10_parses 29 = .ok (.putfield 181, 3) := by decide +kernel
theorem dX10_parses_32 : decode cX10_parses 32 = .ok (.aload_n 0, 1) := by decide +kernel
theorem dX10_parses_33 : decode cX10_parses 33 = .ok (.getfield 170, 3) := by decide +kernel
theorem dX10_parses_36 : decode cX10_parses 36 = .ok (.aload_n 0, 1) := by decide +kernel
theorem dX10_parses_37 : decode cX10_parses 37 = .ok (.getfield 151, 3) := by decide +kernel
theorem dX10_parses_40 : decode cX10_parses 40 = .ok (.if_icmp .ge 29, 3) := by decide +kernel
theorem dX10_parses_43 : decode cX10_parses 43 = .ok (.aload_n 0, 1) := by decide +kernel
theorem dX10_parses_44 : decode cX10_parses 44 = .ok (.getfield 181, 3) := by decide +kernel
theorem dX10_parses_47 : decode cX10_parses 47 = .ok (.ifCond .eq 13, 3) := by decide +kernel
theorem dX10_parses_50 : decode cX10_parses 50 = .ok (.aload_n 0, 1) := by decide +kernel
theorem dX10_parses_51 : decode cX10_parses 51 = .ok (.invokevirtual 194, 3) := by decide +kernel
theorem dX10_parses_54 : decode cX10_parses 54 = .ok (.ifCond .eq 13, 3) := by decide +kernel
theorem dX10_parses_57 : decode cX10_parses 57 = .ok (.goto (-25), 3) := by decide +kernel
theorem dX10_parses_60 : decode cX10_parses 60 = .ok (.aload_n 0, 1) := by decide +kernel
theorem dX10_parses_61 : decode cX10_parses 61 = .ok (.invokevirtual 197, 3) := by decide +kernel
theorem dX10_parses_64 : decode cX10_parses 64 = .ok (.ifCond .ne (-32), 3) := by decide +kernel
theorem dX10_parses_67 : decode cX10_parses 67 = .ok (.iconst 0, 1) := by decide +kernel
theorem dX10_parses_68 : decode cX10_parses 68 = .ok (.ireturn, 1) := by decide +kernel
theorem dX10_parses_69 : decode cX10_parses 69 = .ok (.aload_n 0, 1) := by decide +kernel
theorem dX10_parses_70 : decode cX10_parses 70 = .ok (.getfield 181, 3) := by decide +kernel
theorem dX10_parses_73 : decode cX10_parses 73 = .ok (.ifCond .eq 10, 3) := by decide +kernel
theorem dX10_parses_76 : decode cX10_parses 76 = .ok (.aload_n 0, 1) := by decide +kernel
theorem dX10_parses_77 : decode cX10_parses 77 = .ok (.getfield 160, 3) := by decide +kernel
theorem dX10_parses_80 : decode cX10_parses 80 = .ok (.ifCond .le 5, 3) := by decide +kernel
theorem dX10_parses_83 : decode cX10_parses 83 = .ok (.iconst 0, 1) := by decide +kernel
theorem dX10_parses_84 : decode cX10_parses 84 = .ok (.ireturn, 1) := by decide +kernel
theorem dX10_parses_85 : decode cX10_parses 85 = .ok (.aload_n 0, 1) := by decide +kernel
theorem dX10_parses_86 : decode cX10_parses 86 = .ok (.invokevirtual 191, 3) := by decide +kernel
theorem dX10_parses_89 : decode cX10_parses 89 = .ok (.iconst 1, 1) := by decide +kernel
theorem dX10_parses_90 : decode cX10_parses 90 = .ok (.ireturn, 1) := by decide +kernel
theorem dX10_read_0 : decode cX10_read 0 = .ok (.aload_n 0, 1) := by decide +kernel
theorem dX10_read_1 : decode cX10_read 1 = .ok (.getfield 154, 3) := by decide +kernel
theorem dX10_read_4 : decode cX10_read 4 = .ok (.bipush 8, 2) := by decide +kernel
theorem dX10_read_6 : decode cX10_read 6 = .ok (.if_icmp .ne 6, 3) := by decide +kernel
theorem dX10_read_9 : decode cX10_read 9 = .ok (.bipush (-2), 2) := by decide +kernel
theorem dX10_read_11 : decode cX10_read 11 = .ok (.ireturn, 1) := by decide +kernel
theorem dX10_read_12 : decode cX10_read 12 = .ok (.aload_n 0, 1) := by decide +kernel
theorem dX10_read_13 : decode cX10_read 13 = .ok (.invokevirtual 200, 3) := by decide +kernel
theorem dX10_read_16 : decode cX10_read 16 = .ok (.ifCond .ne 11, 3) := by decide +kernel
theorem dX10_read_19 : decode cX10_read 19 = .ok (.bipush (-100), 2) := by decide +kernel
theorem dX10_read_21 : decode cX10_read 21 = .ok (.aload_n 0, 1) := by decide +kernel
theorem dX10_read_22 : decode cX10_read 22 = .ok (.getfield 170, 3) := by decide +kernel
theorem dX10_read_25 : decode cX10_read 25 = .ok (.isub, 1) := by decide +kernel
theorem dX10_read_26 : decode cX10_read 26 = .ok (.ireturn, 1) := by decide +kernel
theorem dX10_read_27 : decode cX10_read 27 = .ok (.aload_n 0, 1) := by decide +kernel
theorem dX10_read_28 : decode cX10_read 28 = .ok (.getfield 37, 3) := by decide +kernel
theorem dX10_read_31 : decode cX10_read 31 = .ok (.aload_n 0, 1) := by decide +kernel
theorem dX10_read_32 : decode cX10_read 32 = .ok (.getfield 154, 3) := by decide +kernel
theorem dX10_read_35 : decode cX10_read 35 = .ok (.aload_n 0, 1) := by decide +kernel
theorem dX10_read_36 : decode cX10_read 36 = .ok (.getfield 157, 3) := by decide +kernel
theorem dX10_read_39 : decode cX10_read 39 = .ok (.iastore, 1) := by decide +kernel
theorem dX10_read_40 : decode cX10_read 40 = .ok (.aload_n 0, 1) := by decide +kernel
theorem dX10_read_41 : decode cX10_read 41 = .ok (.dup, 1) := by decide +kernel
theorem dX10_read_42 : decode cX10_read 42 = .ok (.getfield 154, 3) := by decide +kernel
theorem dX10_read_45 : decode cX10_read 45 = .ok (.iconst 1, 1) := by decide +kernel
theorem dX10_read_46 : decode cX10_read 46 = .ok (.iadd, 1) := by decide +kernel
theorem dX10_read_47 : decode cX10_read 47 = .ok (.putfield 154, 3) := by decide +kernel
theorem dX10_read_50 : decode cX10_read 50 = .ok (.aload_n 0, 1) := by decide +kernel
theorem dX10_read_51 : decode cX10_read 51 = .ok (.iconst 0, 1) := by decide +kernel
theorem dX10_read_52 : decode cX10_read 52 = .ok (.putfield 151, 3) := by decide +kernel
theorem dX10_read_55 : decode cX10_read 55 = .ok (.aload_n 0, 1) := by decide +kernel
theorem dX10_read_56 : decode cX10_read 56 = .ok (.getfield 154, 3) := by decide +kernel
theorem dX10_read_59 : decode cX10_read 59 = .ok (.iconst 1, 1) := by decide +kernel
theorem dX10_read_60 : decode cX10_read 60 = .ok (.isub, 1) := by decide +kernel
theorem dX10_read_61 : decode cX10_read 61 = .ok (.ireturn, 1) := by decide +kernel
theorem dX10_forget_0 : decode cX10_forget 0 = .ok (.aload_n 0, 1) := by decide +kernel
theorem dX10_forget_1 : decode cX10_forget 1 = .ok (.getfield 154, 3) := by decide +kernel
theorem dX10_forget_4 : decode cX10_forget 4 = .ok (.istore_n 1, 1) := by decide +kernel
theorem dX10_forget_5 : decode cX10_forget 5 = .ok (.aload_n 0, 1) := by decide +kernel
theorem dX10_forget_6 : decode cX10_forget 6 = .ok (.iconst 0, 1) := by decide +kernel
theorem dX10_forget_7 : decode cX10_forget 7 = .ok (.putfield 154, 3) := by decide +kernel
theorem dX10_forget_10 : decode cX10_forget 10 = .ok (.iload_n 1, 1) := by decide +kernel
theorem dX10_forget_11 : decode cX10_forget 11 = .ok (.ireturn, 1) := by decide +kernel
theorem dX10_formulas_0 : decode cX10_formulas 0 = .ok (.aload_n 0, 1) := by decide +kernel
theorem dX10_formulas_1 : decode cX10_formulas 1 = .ok (.getfield 154, 3) := by decide +kernel
theorem dX10_formulas_4 : decode cX10_formulas 4 = .ok (.ireturn, 1) := by decide +kernel
theorem dX10_isFormula_0 : decode cX10_isFormula 0 = .ok (.iload_n 1, 1) := by decide +kernel
theorem dX10_isFormula_1 : decode cX10_isFormula 1 = .ok (.iconst 0, 1) := by decide +kernel
theorem dX10_isFormula_2 : decode cX10_isFormula 2 = .ok (.aload_n 0, 1) := by decide +kernel
theorem dX10_isFormula_3 : decode cX10_isFormula 3 = .ok (.getfield 154, 3) := by decide +kernel
theorem dX10_isFormula_6 : decode cX10_isFormula 6 = .ok (.iconst 1, 1) := by decide +kernel
theorem dX10_isFormula_7 : decode cX10_isFormula 7 = .ok (.isub, 1) := by decide +kernel
theorem dX10_isFormula_8 : decode cX10_isFormula 8 = .ok (.invokestatic 93, 3) := by decide +kernel
theorem dX10_isFormula_11 : decode cX10_isFormula 11 = .ok (.ireturn, 1) := by decide +kernel
theorem dX10_parts_0 : decode cX10_parts 0 = .ok (.aload_n 0, 1) := by decide +kernel
theorem dX10_parts_1 : decode cX10_parts 1 = .ok (.iload_n 1, 1) := by decide +kernel
theorem dX10_parts_2 : decode cX10_parts 2 = .ok (.invokevirtual 203, 3) := by decide +kernel
theorem dX10_parts_5 : decode cX10_parts 5 = .ok (.ifCond .eq 12, 3) := by decide +kernel
theorem dX10_parts_8 : decode cX10_parts 8 = .ok (.aload_n 0, 1) := by decide +kernel
theorem dX10_parts_9 : decode cX10_parts 9 = .ok (.getfield 37, 3) := by decide +kernel
theorem dX10_parts_12 : decode cX10_parts 12 = .ok (.iload_n 1, 1) := by decide +kernel
theorem dX10_parts_13 : decode cX10_parts 13 = .ok (.iaload, 1) := by decide +kernel
theorem dX10_parts_14 : decode cX10_parts 14 = .ok (.goto 4, 3) := by decide +kernel
theorem dX10_parts_17 : decode cX10_parts 17 = .ok (.iconst (-1), 1) := by decide +kernel
theorem dX10_parts_18 : decode cX10_parts 18 = .ok (.ireturn, 1) := by decide +kernel
theorem dX10_all_0 : decode cX10_all 0 = .ok (.iconst 1, 1) := by decide +kernel
theorem dX10_all_1 : decode cX10_all 1 = .ok (.aload_n 0, 1) := by decide +kernel
theorem dX10_all_2 : decode cX10_all 2 = .ok (.getfield 7, 3) := by decide +kernel
theorem dX10_all_5 : decode cX10_all 5 = .ok (.sipush 1200, 3) := by decide +kernel
theorem dX10_all_8 : decode cX10_all 8 = .ok (.iaload, 1) := by decide +kernel
theorem dX10_all_9 : decode cX10_all 9 = .ok (.ishl, 1) := by decide +kernel
theorem dX10_all_10 : decode cX10_all 10 = .ok (.iconst 1, 1) := by decide +kernel
theorem dX10_all_11 : decode cX10_all 11 = .ok (.isub, 1) := by decide +kernel
theorem dX10_all_12 : decode cX10_all 12 = .ok (.ireturn, 1) := by decide +kernel
theorem dX10_plannedAction_0 : decode cX10_plannedAction 0 = .ok (.aload_n 0, 1) := by decide +kernel
theorem dX10_plannedAction_1 : decode cX10_plannedAction 1 = .ok (.getfield 7, 3) := by decide +kernel
theorem dX10_plannedAction_4 : decode cX10_plannedAction 4 = .ok (.bipush 100, 2) := by decide +kernel
theorem dX10_plannedAction_6 : decode cX10_plannedAction 6 = .ok (.iload_n 1, 1) := by decide +kernel
theorem dX10_plannedAction_7 : decode cX10_plannedAction 7 = .ok (.imul, 1) := by decide +kernel
theorem dX10_plannedAction_8 : decode cX10_plannedAction 8 = .ok (.iconst 5, 1) := by decide +kernel
theorem dX10_plannedAction_9 : decode cX10_plannedAction 9 = .ok (.iadd, 1) := by decide +kernel
theorem dX10_plannedAction_10 : decode cX10_plannedAction 10 = .ok (.iload_n 2, 1) := by decide +kernel
theorem dX10_plannedAction_11 : decode cX10_plannedAction 11 = .ok (.iadd, 1) := by decide +kernel
theorem dX10_plannedAction_12 : decode cX10_plannedAction 12 = .ok (.iaload, 1) := by decide +kernel
theorem dX10_plannedAction_13 : decode cX10_plannedAction 13 = .ok (.istore_n 3, 1) := by decide +kernel
theorem dX10_plannedAction_14 : decode cX10_plannedAction 14 = .ok (.iload_n 3, 1) := by decide +kernel
theorem dX10_plannedAction_15 : decode cX10_plannedAction 15 = .ok (.aload_n 0, 1) := by decide +kernel
theorem dX10_plannedAction_16 : decode cX10_plannedAction 16 = .ok (.getfield 7, 3) := by decide +kernel
theorem dX10_plannedAction_19 : decode cX10_plannedAction 19 = .ok (.bipush 100, 2) := by decide +kernel
theorem dX10_plannedAction_21 : decode cX10_plannedAction 21 = .ok (.iload_n 1, 1) := by decide +kernel
theorem dX10_plannedAction_22 : decode cX10_plannedAction 22 = .ok (.imul, 1) := by decide +kernel
theorem dX10_plannedAction_23 : decode cX10_plannedAction 23 = .ok (.iconst 1, 1) := by decide +kernel
theorem dX10_plannedAction_24 : decode cX10_plannedAction 24 = .ok (.iadd, 1) := by decide +kernel
theorem dX10_plannedAction_25 : decode cX10_plannedAction 25 = .ok (.iload_n 2, 1) := by decide +kernel
