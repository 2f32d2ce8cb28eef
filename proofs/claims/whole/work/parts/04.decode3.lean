theorem dX11_flag_66 : decode cX11_flag 66 = .ok (.bipush 18, 2) := by decide +kernel
theorem dX11_flag_68 : decode cX11_flag 68 = .ok (.goto 4, 3) := by decide +kernel
theorem dX11_flag_71 : decode cX11_flag 71 = .ok (.iconst 2, 1) := by decide +kernel
theorem dX11_flag_72 : decode cX11_flag 72 = .ok (.iadd, 1) := by decide +kernel
theorem dX11_flag_73 : decode cX11_flag 73 = .ok (.istore 5, 2) := by decide +kernel
theorem dX11_flag_75 : decode cX11_flag 75 = .ok (.iload 4, 2) := by decide +kernel
theorem dX11_flag_77 : decode cX11_flag 77 = .ok (.ifCond .ne 13, 3) := by decide +kernel
theorem dX11_flag_80 : decode cX11_flag 80 = .ok (.iload 5, 2) := by decide +kernel
theorem dX11_flag_82 : decode cX11_flag 82 = .ok (.bipush 32, 2) := by decide +kernel
theorem dX11_flag_84 : decode cX11_flag 84 = .ok (.iadd, 1) := by decide +kernel
theorem dX11_flag_85 : decode cX11_flag 85 = .ok (.istore 5, 2) := by decide +kernel
theorem dX11_flag_87 : decode cX11_flag 87 = .ok (.goto 30, 3) := by decide +kernel
theorem dX11_flag_90 : decode cX11_flag 90 = .ok (.iload 4, 2) := by decide +kernel
theorem dX11_flag_92 : decode cX11_flag 92 = .ok (.invokestatic 117, 3) := by decide +kernel
theorem dX11_flag_95 : decode cX11_flag 95 = .ok (.sipush 256, 3) := by decide +kernel
theorem dX11_flag_98 : decode cX11_flag 98 = .ok (.if_icmp .ge 19, 3) := by decide +kernel
theorem dX11_flag_101 : decode cX11_flag 101 = .ok (.iload 5, 2) := by decide +kernel
theorem dX11_flag_103 : decode cX11_flag 103 = .ok (.iload 4, 2) := by decide +kernel
theorem dX11_flag_105 : decode cX11_flag 105 = .ok (.ifCond .le 8, 3) := by decide +kernel
theorem dX11_flag_108 : decode cX11_flag 108 = .ok (.bipush 36, 2) := by decide +kernel
theorem dX11_flag_110 : decode cX11_flag 110 = .ok (.goto 4, 3) := by decide +kernel
theorem dX11_flag_113 : decode cX11_flag 113 = .ok (.iconst 4, 1) := by decide +kernel
theorem dX11_flag_114 : decode cX11_flag 114 = .ok (.iadd, 1) := by decide +kernel
theorem dX11_flag_115 : decode cX11_flag 115 = .ok (.istore 5, 2) := by decide +kernel
theorem dX11_flag_117 : decode cX11_flag 117 = .ok (.iload 5, 2) := by decide +kernel
theorem dX11_flag_119 : decode cX11_flag 119 = .ok (.ireturn, 1) := by decide +kernel
theorem dX11_layStep_0 : decode cX11_layStep 0 = .ok (.iload_n 1, 1) := by decide +kernel
theorem dX11_layStep_1 : decode cX11_layStep 1 = .ok (.ifCond .ne 4, 3) := by decide +kernel
theorem dX11_layStep_4 : decode cX11_layStep 4 = .ok (.return_, 1) := by decide +kernel
theorem dX11_layStep_5 : decode cX11_layStep 5 = .ok (.iload_n 1, 1) := by decide +kernel
theorem dX11_layStep_6 : decode cX11_layStep 6 = .ok (.invokestatic 117, 3) := by decide +kernel
theorem dX11_layStep_9 : decode cX11_layStep 9 = .ok (.sipush 255, 3) := by decide +kernel
theorem dX11_layStep_12 : decode cX11_layStep 12 = .ok (.if_icmp .le 11, 3) := by decide +kernel
theorem dX11_layStep_15 : decode cX11_layStep 15 = .ok (.aload_n 0, 1) := by decide +kernel
theorem dX11_layStep_16 : decode cX11_layStep 16 = .ok (.iload_n 1, 1) := by decide +kernel
theorem dX11_layStep_17 : decode cX11_layStep 17 = .ok (.bipush 8, 2) := by decide +kernel
theorem dX11_layStep_19 : decode cX11_layStep 19 = .ok (.ishr, 1) := by decide +kernel
theorem dX11_layStep_20 : decode cX11_layStep 20 = .ok (.invokevirtual 121, 3) := by decide +kernel
theorem dX11_layStep_23 : decode cX11_layStep 23 = .ok (.aload_n 0, 1) := by decide +kernel
theorem dX11_layStep_24 : decode cX11_layStep 24 = .ok (.iload_n 1, 1) := by decide +kernel
theorem dX11_layStep_25 : decode cX11_layStep 25 = .ok (.invokestatic 117, 3) := by decide +kernel
theorem dX11_layStep_28 : decode cX11_layStep 28 = .ok (.sipush 255, 3) := by decide +kernel
theorem dX11_layStep_31 : decode cX11_layStep 31 = .ok (.if_icmp .le 7, 3) := by decide +kernel
theorem dX11_layStep_34 : decode cX11_layStep 34 = .ok (.iload_n 1, 1) := by decide +kernel
theorem dX11_layStep_35 : decode cX11_layStep 35 = .ok (.goto 7, 3) := by decide +kernel
theorem dX11_layStep_38 : decode cX11_layStep 38 = .ok (.iload_n 1, 1) := by decide +kernel
theorem dX11_layStep_39 : decode cX11_layStep 39 = .ok (.invokestatic 117, 3) := by decide +kernel
theorem dX11_layStep_42 : decode cX11_layStep 42 = .ok (.invokevirtual 121, 3) := by decide +kernel
theorem dX11_layStep_45 : decode cX11_layStep 45 = .ok (.return_, 1) := by decide +kernel
theorem dX11_layGlyph_0 : decode cX11_layGlyph 0 = .ok (.aload_n 0, 1) := by decide +kernel
theorem dX11_layGlyph_1 : decode cX11_layGlyph 1 = .ok (.getfield 13, 3) := by decide +kernel
theorem dX11_layGlyph_4 : decode cX11_layGlyph 4 = .ok (.iload_n 1, 1) := by decide +kernel
theorem dX11_layGlyph_5 : decode cX11_layGlyph 5 = .ok (.iaload, 1) := by decide +kernel
theorem dX11_layGlyph_6 : decode cX11_layGlyph 6 = .ok (.ifCond .ne 4, 3) := by decide +kernel
theorem dX11_layGlyph_9 : decode cX11_layGlyph 9 = .ok (.return_, 1) := by decide +kernel
theorem dX11_layGlyph_10 : decode cX11_layGlyph 10 = .ok (.aload_n 0, 1) := by decide +kernel
theorem dX11_layGlyph_11 : decode cX11_layGlyph 11 = .ok (.getfield 107, 3) := by decide +kernel
theorem dX11_layGlyph_14 : decode cX11_layGlyph 14 = .ok (.istore_n 2, 1) := by decide +kernel
theorem dX11_layGlyph_15 : decode cX11_layGlyph 15 = .ok (.aload_n 0, 1) := by decide +kernel
theorem dX11_layGlyph_16 : decode cX11_layGlyph 16 = .ok (.aload_n 0, 1) := by decide +kernel
theorem dX11_layGlyph_17 : decode cX11_layGlyph 17 = .ok (.getfield 13, 3) := by decide +kernel
theorem dX11_layGlyph_20 : decode cX11_layGlyph 20 = .ok (.iload_n 1, 1) := by decide +kernel
theorem dX11_layGlyph_21 : decode cX11_layGlyph 21 = .ok (.iaload, 1) := by decide +kernel
theorem dX11_layGlyph_22 : decode cX11_layGlyph 22 = .ok (.invokevirtual 121, 3) := by decide +kernel
theorem dX11_layGlyph_25 : decode cX11_layGlyph 25 = .ok (.aload_n 0, 1) := by decide +kernel
theorem dX11_layGlyph_26 : decode cX11_layGlyph 26 = .ok (.getfield 16, 3) := by decide +kernel
theorem dX11_layGlyph_29 : decode cX11_layGlyph 29 = .ok (.iload_n 1, 1) := by decide +kernel
theorem dX11_layGlyph_30 : decode cX11_layGlyph 30 = .ok (.iaload, 1) := by decide +kernel
theorem dX11_layGlyph_31 : decode cX11_layGlyph 31 = .ok (.istore_n 3, 1) := by decide +kernel
theorem dX11_layGlyph_32 : decode cX11_layGlyph 32 = .ok (.iconst 0, 1) := by decide +kernel
theorem dX11_layGlyph_33 : decode cX11_layGlyph 33 = .ok (.istore 4, 2) := by decide +kernel
theorem dX11_layGlyph_35 : decode cX11_layGlyph 35 = .ok (.iload 4, 2) := by decide +kernel
theorem dX11_layGlyph_37 : decode cX11_layGlyph 37 = .ok (.iload_n 3, 1) := by decide +kernel
theorem dX11_layGlyph_38 : decode cX11_layGlyph 38 = .ok (.if_icmp .ge 52, 3) := by decide +kernel
theorem dX11_layGlyph_41 : decode cX11_layGlyph 41 = .ok (.iload 4, 2) := by decide +kernel
theorem dX11_layGlyph_43 : decode cX11_layGlyph 43 = .ok (.iconst 1, 1) := by decide +kernel
theorem dX11_layGlyph_44 : decode cX11_layGlyph 44 = .ok (.iadd, 1) := by decide +kernel
theorem dX11_layGlyph_45 : decode cX11_layGlyph 45 = .ok (.iload_n 3, 1) := by decide +kernel
theorem dX11_layGlyph_46 : decode cX11_layGlyph 46 = .ok (.if_icmp .eq 32, 3) := by decide +kernel
theorem dX11_layGlyph_49 : decode cX11_layGlyph 49 = .ok (.aload_n 0, 1) := by decide +kernel
theorem dX11_layGlyph_50 : decode cX11_layGlyph 50 = .ok (.getfield 29, 3) := by decide +kernel
theorem dX11_layGlyph_53 : decode cX11_layGlyph 53 = .ok (.bipush 16, 2) := by decide +kernel
theorem dX11_layGlyph_55 : decode cX11_layGlyph 55 = .ok (.iload_n 1, 1) := by decide +kernel
theorem dX11_layGlyph_56 : decode cX11_layGlyph 56 = .ok (.imul, 1) := by decide +kernel
theorem dX11_layGlyph_57 : decode cX11_layGlyph 57 = .ok (.iload 4, 2) := by decide +kernel
theorem dX11_layGlyph_59 : decode cX11_layGlyph 59 = .ok (.iadd, 1) := by decide +kernel
theorem dX11_layGlyph_60 : decode cX11_layGlyph 60 = .ok (.iconst 1, 1) := by decide +kernel
theorem dX11_layGlyph_61 : decode cX11_layGlyph 61 = .ok (.iadd, 1) := by decide +kernel
theorem dX11_layGlyph_62 : decode cX11_layGlyph 62 = .ok (.iaload, 1) := by decide +kernel
theorem dX11_layGlyph_63 : decode cX11_layGlyph 63 = .ok (.aload_n 0, 1) := by decide +kernel
theorem dX11_layGlyph_64 : decode cX11_layGlyph 64 = .ok (.getfield 29, 3) := by decide +kernel
theorem dX11_layGlyph_67 : decode cX11_layGlyph 67 = .ok (.bipush 16, 2) := by decide +kernel
theorem dX11_layGlyph_69 : decode cX11_layGlyph 69 = .ok (.iload_n 1, 1) := by decide +kernel
theorem dX11_layGlyph_70 : decode cX11_layGlyph 70 = .ok (.imul, 1) := by decide +kernel
theorem dX11_layGlyph_71 : decode cX11_layGlyph 71 = .ok (.iload 4, 2) := by decide +kernel
theorem dX11_layGlyph_73 : decode cX11_layGlyph 73 = .ok (.iadd, 1) := by decide +kernel
theorem dX11_layGlyph_74 : decode cX11_layGlyph 74 = .ok (.iaload, 1) := by decide +kernel
theorem dX11_layGlyph_75 : decode cX11_layGlyph 75 = .ok (.if_icmp .le 9, 3) := by decide +kernel
theorem dX11_layGlyph_78 : decode cX11_layGlyph 78 = .ok (.aload_n 0, 1) := by decide +kernel
theorem dX11_layGlyph_79 : decode cX11_layGlyph 79 = .ok (.iload 4, 2) := by decide +kernel
theorem dX11_layGlyph_81 : decode cX11_layGlyph 81 = .ok (.invokevirtual 121, 3) := by decide +kernel
theorem dX11_layGlyph_84 : decode cX11_layGlyph 84 = .ok (.iinc 4 1, 3) := by decide +kernel
theorem dX11_layGlyph_87 : decode cX11_layGlyph 87 = .ok (.goto (-52), 3) := by decide +kernel
theorem dX11_layGlyph_90 : decode cX11_layGlyph 90 = .ok (.iconst 0, 1) := by decide +kernel
theorem dX11_layGlyph_91 : decode cX11_layGlyph 91 = .ok (.istore 4, 2) := by decide +kernel
theorem dX11_layGlyph_93 : decode cX11_layGlyph 93 = .ok (.iconst 0, 1) := by decide +kernel
theorem dX11_layGlyph_94 : decode cX11_layGlyph 94 = .ok (.istore 5, 2) := by decide +kernel
theorem dX11_layGlyph_96 : decode cX11_layGlyph 96 = .ok (.iload 5, 2) := by decide +kernel
theorem dX11_layGlyph_98 : decode cX11_layGlyph 98 = .ok (.iload_n 3, 1) := by decide +kernel
theorem dX11_layGlyph_99 : decode cX11_layGlyph 99 = .ok (.if_icmp .ge 93, 3) := by decide +kernel
theorem dX11_layGlyph_102 : decode cX11_layGlyph 102 = .ok (.aload_n 0, 1) := by decide +kernel
theorem dX11_layGlyph_103 : decode cX11_layGlyph 103 = .ok (.iload_n 1, 1) := by decide +kernel
theorem dX11_layGlyph_104 : decode cX11_layGlyph 104 = .ok (.iload 5, 2) := by decide +kernel
theorem dX11_layGlyph_106 : decode cX11_layGlyph 106 = .ok (.invokevirtual 125, 3) := by decide +kernel
theorem dX11_layGlyph_109 : decode cX11_layGlyph 109 = .ok (.istore 6, 2) := by decide +kernel
theorem dX11_layGlyph_111 : decode cX11_layGlyph 111 = .ok (.iload 4, 2) := by decide +kernel
theorem dX11_layGlyph_113 : decode cX11_layGlyph 113 = .ok (.iconst 1, 1) := by decide +kernel
theorem dX11_layGlyph_114 : decode cX11_layGlyph 114 = .ok (.iadd, 1) := by decide +kernel
theorem dX11_layGlyph_115 : decode cX11_layGlyph 115 = .ok (.istore 4, 2) := by decide +kernel
theorem dX11_layGlyph_117 : decode cX11_layGlyph 117 = .ok (.iload 5, 2) := by decide +kernel
theorem dX11_layGlyph_119 : decode cX11_layGlyph 119 = .ok (.iconst 1, 1) := by decide +kernel
theorem dX11_layGlyph_120 : decode cX11_layGlyph 120 = .ok (.iadd, 1) := by decide +kernel
theorem dX11_layGlyph_121 : decode cX11_layGlyph 121 = .ok (.iload_n 3, 1) := by decide +kernel
theorem dX11_layGlyph_122 : decode cX11_layGlyph 122 = .ok (.if_icmp .eq 17, 3) := by decide +kernel
theorem dX11_layGlyph_125 : decode cX11_layGlyph 125 = .ok (.aload_n 0, 1) := by decide +kernel
theorem dX11_layGlyph_126 : decode cX11_layGlyph 126 = .ok (.iload_n 1, 1) := by decide +kernel
theorem dX11_layGlyph_127 : decode cX11_layGlyph 127 = .ok (.iload 5, 2) := by decide +kernel
theorem dX11_layGlyph_129 : decode cX11_layGlyph 129 = .ok (.iconst 1, 1) := by decide +kernel
theorem dX11_layGlyph_130 : decode cX11_layGlyph 130 = .ok (.iadd, 1) := by decide +kernel
theorem dX11_layGlyph_131 : decode cX11_layGlyph 131 = .ok (.invokevirtual 125, 3) := by decide +kernel
theorem dX11_layGlyph_134 : decode cX11_layGlyph 134 = .ok (.iload 6, 2) := by decide +kernel
theorem dX11_layGlyph_136 : decode cX11_layGlyph 136 = .ok (.if_icmp .eq 50, 3) := by decide +kernel
theorem dX11_layGlyph_139 : decode cX11_layGlyph 139 = .ok (.iload 4, 2) := by decide +kernel
theorem dX11_layGlyph_141 : decode cX11_layGlyph 141 = .ok (.iconst 2, 1) := by decide +kernel
theorem dX11_layGlyph_142 : decode cX11_layGlyph 142 = .ok (.if_icmp .le 23, 3) := by decide +kernel
theorem dX11_layGlyph_145 : decode cX11_layGlyph 145 = .ok (.aload_n 0, 1) := by decide +kernel
theorem dX11_layGlyph_146 : decode cX11_layGlyph 146 = .ok (.iload 6, 2) := by decide +kernel
theorem dX11_layGlyph_148 : decode cX11_layGlyph 148 = .ok (.bipush 8, 2) := by decide +kernel
theorem dX11_layGlyph_150 : decode cX11_layGlyph 150 = .ok (.iadd, 1) := by decide +kernel
theorem dX11_layGlyph_151 : decode cX11_layGlyph 151 = .ok (.invokevirtual 121, 3) := by decide +kernel
theorem dX11_layGlyph_154 : decode cX11_layGlyph 154 = .ok (.aload_n 0, 1) := by decide +kernel
theorem dX11_layGlyph_155 : decode cX11_layGlyph 155 = .ok (.iload 4, 2) := by decide +kernel
theorem dX11_layGlyph_157 : decode cX11_layGlyph 157 = .ok (.iconst 1, 1) := by decide +kernel
theorem dX11_layGlyph_158 : decode cX11_layGlyph 158 = .ok (.isub, 1) := by decide +kernel
theorem dX11_layGlyph_159 : decode cX11_layGlyph 159 = .ok (.invokevirtual 121, 3) := by decide +kernel
theorem dX11_layGlyph_162 : decode cX11_layGlyph 162 = .ok (.goto 21, 3) := by decide +kernel
theorem dX11_layGlyph_165 : decode cX11_layGlyph 165 = .ok (.aload_n 0, 1) := by decide +kernel
theorem dX11_layGlyph_166 : decode cX11_layGlyph 166 = .ok (.iload 6, 2) := by decide +kernel
theorem dX11_layGlyph_168 : decode cX11_layGlyph 168 = .ok (.invokevirtual 121, 3) := by decide +kernel
theorem dX11_layGlyph_171 : decode cX11_layGlyph 171 = .ok (.iload 4, 2) := by decide +kernel
theorem dX11_layGlyph_173 : decode cX11_layGlyph 173 = .ok (.iconst 2, 1) := by decide +kernel
theorem dX11_layGlyph_174 : decode cX11_layGlyph 174 = .ok (.if_icmp .ne 9, 3) := by decide +kernel
theorem dX11_layGlyph_177 : decode cX11_layGlyph 177 = .ok (.aload_n 0, 1) := by decide +kernel
theorem dX11_layGlyph_178 : decode cX11_layGlyph 178 = .ok (.iload 6, 2) := by decide +kernel
theorem dX11_layGlyph_180 : decode cX11_layGlyph 180 = .ok (.invokevirtual 121, 3) := by decide +kernel
theorem dX11_layGlyph_183 : decode cX11_layGlyph 183 = .ok (.iconst 0, 1) := by decide +kernel
theorem dX11_layGlyph_184 : decode cX11_layGlyph 184 = .ok (.istore 4, 2) := by decide +kernel
theorem dX11_layGlyph_186 : decode cX11_layGlyph 186 = .ok (.iinc 5 1, 3) := by decide +kernel
theorem dX11_layGlyph_189 : decode cX11_layGlyph 189 = .ok (.goto (-93), 3) := by decide +kernel
theorem dX11_layGlyph_192 : decode cX11_layGlyph 192 = .ok (.iconst 0, 1) := by decide +kernel
theorem dX11_layGlyph_193 : decode cX11_layGlyph 193 = .ok (.istore 5, 2) := by decide +kernel
theorem dX11_layGlyph_195 : decode cX11_layGlyph 195 = .ok (.iload 5, 2) := by decide +kernel
theorem dX11_layGlyph_197 : decode cX11_layGlyph 197 = .ok (.iload_n 3, 1) := by decide +kernel
theorem dX11_layGlyph_198 : decode cX11_layGlyph 198 = .ok (.if_icmp .ge 20, 3) := by decide +kernel
theorem dX11_layGlyph_201 : decode cX11_layGlyph 201 = .ok (.aload_n 0, 1) := by decide +kernel
theorem dX11_layGlyph_202 : decode cX11_layGlyph 202 = .ok (.aload_n 0, 1) := by decide +kernel
theorem dX11_layGlyph_203 : decode cX11_layGlyph 203 = .ok (.iload_n 1, 1) := by decide +kernel
theorem dX11_layGlyph_204 : decode cX11_layGlyph 204 = .ok (.iload 5, 2) := by decide +kernel
theorem dX11_layGlyph_206 : decode cX11_layGlyph 206 = .ok (.invokevirtual 110, 3) := by decide +kernel
theorem dX11_layGlyph_209 : decode cX11_layGlyph 209 = .ok (.invokevirtual 128, 3) := by decide +kernel
theorem dX11_layGlyph_212 : decode cX11_layGlyph 212 = .ok (.iinc 5 1, 3) := by decide +kernel
theorem dX11_layGlyph_215 : decode cX11_layGlyph 215 = .ok (.goto (-20), 3) := by decide +kernel
theorem dX11_layGlyph_218 : decode cX11_layGlyph 218 = .ok (.iconst 0, 1) := by decide +kernel
theorem dX11_layGlyph_219 : decode cX11_layGlyph 219 = .ok (.istore 5, 2) := by decide +kernel
theorem dX11_layGlyph_221 : decode cX11_layGlyph 221 = .ok (.iload 5, 2) := by decide +kernel
theorem dX11_layGlyph_223 : decode cX11_layGlyph 223 = .ok (.iload_n 3, 1) := by decide +kernel
theorem dX11_layGlyph_224 : decode cX11_layGlyph 224 = .ok (.if_icmp .ge 20, 3) := by decide +kernel
theorem dX11_layGlyph_227 : decode cX11_layGlyph 227 = .ok (.aload_n 0, 1) := by decide +kernel
theorem dX11_layGlyph_228 : decode cX11_layGlyph 228 = .ok (.aload_n 0, 1) := by decide +kernel
theorem dX11_layGlyph_229 : decode cX11_layGlyph 229 = .ok (.iload_n 1, 1) := by decide +kernel
theorem dX11_layGlyph_230 : decode cX11_layGlyph 230 = .ok (.iload 5, 2) := by decide +kernel
theorem dX11_layGlyph_232 : decode cX11_layGlyph 232 = .ok (.invokevirtual 114, 3) := by decide +kernel
theorem dX11_layGlyph_235 : decode cX11_layGlyph 235 = .ok (.invokevirtual 128, 3) := by decide +kernel
theorem dX11_layGlyph_238 : decode cX11_layGlyph 238 = .ok (.iinc 5 1, 3) := by decide +kernel
theorem dX11_layGlyph_241 : decode cX11_layGlyph 241 = .ok (.goto (-20), 3) := by decide +kernel
theorem dX11_layGlyph_244 : decode cX11_layGlyph 244 = .ok (.aload_n 0, 1) := by decide +kernel
theorem dX11_layGlyph_245 : decode cX11_layGlyph 245 = .ok (.getfield 107, 3) := by decide +kernel
theorem dX11_layGlyph_248 : decode cX11_layGlyph 248 = .ok (.iload_n 2, 1) := by decide +kernel
theorem dX11_layGlyph_249 : decode cX11_layGlyph 249 = .ok (.isub, 1) := by decide +kernel
theorem dX11_layGlyph_250 : decode cX11_layGlyph 250 = .ok (.iconst 2, 1) := by decide +kernel
theorem dX11_layGlyph_251 : decode cX11_layGlyph 251 = .ok (.irem, 1) := by decide +kernel
theorem dX11_layGlyph_252 : decode cX11_layGlyph 252 = .ok (.ifCond .eq 8, 3) := by decide +kernel
theorem dX11_layGlyph_255 : decode cX11_layGlyph 255 = .ok (.aload_n 0, 1) := by decide +kernel
theorem dX11_layGlyph_256 : decode cX11_layGlyph 256 = .ok (.iconst 0, 1) := by decide +kernel
theorem dX11_layGlyph_257 : decode cX11_layGlyph 257 = .ok (.invokevirtual 121, 3) := by decide +kernel
theorem dX11_layGlyph_260 : decode cX11_layGlyph 260 = .ok (.return_, 1) := by decide +kernel
theorem dX11_layTable_0 : decode cX11_layTable 0 = .ok (.aload_n 0, 1) := by decide +kernel
theorem dX11_layTable_1 : decode cX11_layTable 1 = .ok (.iconst 0, 1) := by decide +kernel
theorem dX11_layTable_2 : decode cX11_layTable 2 = .ok (.putfield 107, 3) := by decide +kernel
theorem dX11_layTable_5 : decode cX11_layTable 5 = .ok (.iconst 0, 1) := by decide +kernel
theorem dX11_layTable_6 : decode cX11_layTable 6 = .ok (.istore_n 2, 1) := by decide +kernel
theorem dX11_layTable_7 : decode cX11_layTable 7 = .ok (.iload_n 2, 1) := by decide +kernel
theorem dX11_layTable_8 : decode cX11_layTable 8 = .ok (.aload_n 0, 1) := by decide +kernel
theorem dX11_layTable_9 : decode cX11_layTable 9 = .ok (.getfield 32, 3) := by decide +kernel
theorem dX11_layTable_12 : decode cX11_layTable 12 = .ok (.iload_n 1, 1) := by decide +kernel
theorem dX11_layTable_13 : decode cX11_layTable 13 = .ok (.iaload, 1) := by decide +kernel
theorem dX11_layTable_14 : decode cX11_layTable 14 = .ok (.if_icmp .ge 24, 3) := by decide +kernel
theorem dX11_layTable_17 : decode cX11_layTable 17 = .ok (.aload_n 0, 1) := by decide +kernel
theorem dX11_layTable_18 : decode cX11_layTable 18 = .ok (.aload_n 0, 1) := by decide +kernel
theorem dX11_layTable_19 : decode cX11_layTable 19 = .ok (.getfield 35, 3) := by decide +kernel
theorem dX11_layTable_22 : decode cX11_layTable 22 = .ok (.bipush 20, 2) := by decide +kernel
theorem dX11_layTable_24 : decode cX11_layTable 24 = .ok (.iload_n 1, 1) := by decide +kernel
theorem dX11_layTable_25 : decode cX11_layTable 25 = .ok (.imul, 1) := by decide +kernel
theorem dX11_layTable_26 : decode cX11_layTable 26 = .ok (.iload_n 2, 1) := by decide +kernel
theorem dX11_layTable_27 : decode cX11_layTable 27 = .ok (.iadd, 1) := by decide +kernel
theorem dX11_layTable_28 : decode cX11_layTable 28 = .ok (.iaload, 1) := by decide +kernel
theorem dX11_layTable_29 : decode cX11_layTable 29 = .ok (.invokevirtual 121, 3) := by decide +kernel
theorem dX11_layTable_32 : decode cX11_layTable 32 = .ok (.iinc 2 1, 3) := by decide +kernel
theorem dX11_layTable_35 : decode cX11_layTable 35 = .ok (.goto (-28), 3) := by decide +kernel
theorem dX11_layTable_38 : decode cX11_layTable 38 = .ok (.iconst 0, 1) := by decide +kernel
theorem dX11_layTable_39 : decode cX11_layTable 39 = .ok (.istore_n 2, 1) := by decide +kernel
theorem dX11_layTable_40 : decode cX11_layTable 40 = .ok (.iload_n 2, 1) := by decide +kernel
theorem dX11_layTable_41 : decode cX11_layTable 41 = .ok (.aload_n 0, 1) := by decide +kernel
theorem dX11_layTable_42 : decode cX11_layTable 42 = .ok (.getfield 87, 3) := by decide +kernel
theorem dX11_layTable_45 : decode cX11_layTable 45 = .ok (.if_icmp .ge 18, 3) := by decide +kernel
theorem dX11_layTable_48 : decode cX11_layTable 48 = .ok (.iload_n 1, 1) := by decide +kernel
theorem dX11_layTable_49 : decode cX11_layTable 49 = .ok (.ifCond .ne 14, 3) := by decide +kernel
theorem dX11_layTable_52 : decode cX11_layTable 52 = .ok (.aload_n 0, 1) := by decide +kernel
theorem dX11_layTable_53 : decode cX11_layTable 53 = .ok (.iload_n 2, 1) := by decide +kernel
theorem dX11_layTable_54 : decode cX11_layTable 54 = .ok (.invokevirtual 131, 3) := by decide +kernel
theorem dX11_layTable_57 : decode cX11_layTable 57 = .ok (.iinc 2 1, 3) := by decide +kernel
theorem dX11_layTable_60 : decode cX11_layTable 60 = .ok (.goto (-20), 3) := by decide +kernel
theorem dX11_layTable_63 : decode cX11_layTable 63 = .ok (.iload_n 1, 1) := by decide +kernel
theorem dX11_layTable_64 : decode cX11_layTable 64 = .ok (.iconst 1, 1) := by decide +kernel
theorem dX11_layTable_65 : decode cX11_layTable 65 = .ok (.if_icmp .eq 4, 3) := by decide +kernel
theorem dX11_layTable_68 : decode cX11_layTable 68 = .ok (.return_, 1) := by decide +kernel
theorem dX11_layTable_69 : decode cX11_layTable 69 = .ok (.iconst 0, 1) := by decide +kernel
theorem dX11_layTable_70 : decode cX11_layTable 70 = .ok (.istore_n 2, 1) := by decide +kernel
theorem dX11_layTable_71 : decode cX11_layTable 71 = .ok (.iload_n 2, 1) := by decide +kernel
theorem dX11_layTable_72 : decode cX11_layTable 72 = .ok (.aload_n 0, 1) := by decide +kernel
theorem dX11_layTable_73 : decode cX11_layTable 73 = .ok (.getfield 87, 3) := by decide +kernel
theorem dX11_layTable_76 : decode cX11_layTable 76 = .ok (.if_icmp .ge 58, 3) := by decide +kernel
theorem dX11_layTable_79 : decode cX11_layTable 79 = .ok (.aload_n 0, 1) := by decide +kernel
theorem dX11_layTable_80 : decode cX11_layTable 80 = .ok (.iload_n 2, 1) := by decide +kernel
theorem dX11_layTable_81 : decode cX11_layTable 81 = .ok (.invokevirtual 134, 3) := by decide +kernel
theorem dX11_layTable_84 : decode cX11_layTable 84 = .ok (.istore_n 3, 1) := by decide +kernel
theorem dX11_layTable_85 : decode cX11_layTable 85 = .ok (.aload_n 0, 1) := by decide +kernel
theorem dX11_layTable_86 : decode cX11_layTable 86 = .ok (.iconst 4, 1) := by decide +kernel
theorem dX11_layTable_87 : decode cX11_layTable 87 = .ok (.iload_n 2, 1) := by decide +kernel
theorem dX11_layTable_88 : decode cX11_layTable 88 = .ok (.imul, 1) := by decide +kernel
theorem dX11_layTable_89 : decode cX11_layTable 89 = .ok (.putfield 107, 3) := by decide +kernel
theorem dX11_layTable_92 : decode cX11_layTable 92 = .ok (.aload_n 0, 1) := by decide +kernel
theorem dX11_layTable_93 : decode cX11_layTable 93 = .ok (.aload_n 0, 1) := by decide +kernel
theorem dX11_layTable_94 : decode cX11_layTable 94 = .ok (.getfield 7, 3) := by decide +kernel
theorem dX11_layTable_97 : decode cX11_layTable 97 = .ok (.iload_n 2, 1) := by decide +kernel
theorem dX11_layTable_98 : decode cX11_layTable 98 = .ok (.iaload, 1) := by decide +kernel
theorem dX11_layTable_99 : decode cX11_layTable 99 = .ok (.bipush 8, 2) := by decide +kernel
theorem dX11_layTable_101 : decode cX11_layTable 101 = .ok (.ishr, 1) := by decide +kernel
theorem dX11_layTable_102 : decode cX11_layTable 102 = .ok (.invokevirtual 121, 3) := by decide +kernel
theorem dX11_layTable_105 : decode cX11_layTable 105 = .ok (.aload_n 0, 1) := by decide +kernel
theorem dX11_layTable_106 : decode cX11_layTable 106 = .ok (.aload_n 0, 1) := by decide +kernel
theorem dX11_layTable_107 : decode cX11_layTable 107 = .ok (.getfield 7, 3) := by decide +kernel
theorem dX11_layTable_110 : decode cX11_layTable 110 = .ok (.iload_n 2, 1) := by decide +kernel
theorem dX11_layTable_111 : decode cX11_layTable 111 = .ok (.iaload, 1) := by decide +kernel
theorem dX11_layTable_112 : decode cX11_layTable 112 = .ok (.invokevirtual 121, 3) := by decide +kernel
theorem dX11_layTable_115 : decode cX11_layTable 115 = .ok (.aload_n 0, 1) := by decide +kernel
theorem dX11_layTable_116 : decode cX11_layTable 116 = .ok (.iload_n 3, 1) := by decide +kernel
theorem dX11_layTable_117 : decode cX11_layTable 117 = .ok (.bipush 8, 2) := by decide +kernel
theorem dX11_layTable_119 : decode cX11_layTable 119 = .ok (.ishr, 1) := by decide +kernel
theorem dX11_layTable_120 : decode cX11_layTable 120 = .ok (.invokevirtual 121, 3) := by decide +kernel
theorem dX11_layTable_123 : decode cX11_layTable 123 = .ok (.aload_n 0, 1) := by decide +kernel
theorem dX11_layTable_124 : decode cX11_layTable 124 = .ok (.iload_n 3, 1) := by decide +kernel
theorem dX11_layTable_125 : decode cX11_layTable 125 = .ok (.invokevirtual 121, 3) := by decide +kernel
theorem dX11_layTable_128 : decode cX11_layTable 128 = .ok (.iinc 2 1, 3) := by decide +kernel
theorem dX11_layTable_131 : decode cX11_layTable 131 = .ok (.goto (-60), 3) := by decide +kernel
theorem dX11_layTable_134 : decode cX11_layTable 134 = .ok (.return_, 1) := by decide +kernel
theorem dX11_sizeBefore_0 : decode cX11_sizeBefore 0 = .ok (.aload_n 0, 1) := by decide +kernel
theorem dX11_sizeBefore_1 : decode cX11_sizeBefore 1 = .ok (.bipush 100, 2) := by decide +kernel
theorem dX11_sizeBefore_3 : decode cX11_sizeBefore 3 = .ok (.putfield 107, 3) := by decide +kernel
theorem dX11_sizeBefore_6 : decode cX11_sizeBefore 6 = .ok (.iconst 0, 1) := by decide +kernel
theorem dX11_sizeBefore_7 : decode cX11_sizeBefore 7 = .ok (.istore_n 2, 1) := by decide +kernel
theorem dX11_sizeBefore_8 : decode cX11_sizeBefore 8 = .ok (.iload_n 2, 1) := by decide +kernel
theorem dX11_sizeBefore_9 : decode cX11_sizeBefore 9 = .ok (.iload_n 1, 1) := by decide +kernel
theorem dX11_sizeBefore_10 : decode cX11_sizeBefore 10 = .ok (.if_icmp .ge 14, 3) := by decide +kernel
theorem dX11_sizeBefore_13 : decode cX11_sizeBefore 13 = .ok (.aload_n 0, 1) := by decide +kernel
theorem dX11_sizeBefore_14 : decode cX11_sizeBefore 14 = .ok (.iload_n 2, 1) := by decide +kernel
theorem dX11_sizeBefore_15 : decode cX11_sizeBefore 15 = .ok (.invokevirtual 131, 3) := by decide +kernel
theorem dX11_sizeBefore_18 : decode cX11_sizeBefore 18 = .ok (.iinc 2 1, 3) := by decide +kernel
theorem dX11_sizeBefore_21 : decode cX11_sizeBefore 21 = .ok (.goto (-13), 3) := by decide +kernel
theorem dX11_sizeBefore_24 : decode cX11_sizeBefore 24 = .ok (.aload_n 0, 1) := by decide +kernel
theorem dX11_sizeBefore_25 : decode cX11_sizeBefore 25 = .ok (.getfield 107, 3) := by decide +kernel
theorem dX11_sizeBefore_28 : decode cX11_sizeBefore 28 = .ok (.bipush 100, 2) := by decide +kernel
theorem dX11_sizeBefore_30 : decode cX11_sizeBefore 30 = .ok (.isub, 1) := by decide +kernel
theorem dX11_sizeBefore_31 : decode cX11_sizeBefore 31 = .ok (.ireturn, 1) := by decide +kernel
theorem dX11_add_0 : decode cX11_add 0 = .ok (.aload_n 0, 1) := by decide +kernel
theorem dX11_add_1 : decode cX11_add 1 = .ok (.getfield 68, 3) := by decide +kernel
theorem dX11_add_4 : decode cX11_add 4 = .ok (.aload_n 0, 1) := by decide +kernel
theorem dX11_add_5 : decode cX11_add 5 = .ok (.getfield 137, 3) := by decide +kernel
theorem dX11_add_8 : decode cX11_add 8 = .ok (.iload_n 1, 1) := by decide +kernel
theorem dX11_add_9 : decode cX11_add 9 = .ok (.sipush 255, 3) := by decide +kernel
theorem dX11_add_12 : decode cX11_add 12 = .ok (.iand, 1) := by decide +kernel
theorem dX11_add_13 : decode cX11_add 13 = .ok (.iastore, 1) := by decide +kernel
theorem dX11_add_14 : decode cX11_add 14 = .ok (.aload_n 0, 1) := by decide +kernel
theorem dX11_add_15 : decode cX11_add 15 = .ok (.dup, 1) := by decide +kernel
theorem dX11_add_16 : decode cX11_add 16 = .ok (.getfield 137, 3) := by decide +kernel
theorem dX11_add_19 : decode cX11_add 19 = .ok (.iconst 1, 1) := by decide +kernel
theorem dX11_add_20 : decode cX11_add 20 = .ok (.iadd, 1) := by decide +kernel
theorem dX11_add_21 : decode cX11_add 21 = .ok (.putfield 137, 3) := by decide +kernel
theorem dX11_add_24 : decode cX11_add 24 = .ok (.return_, 1) := by decide +kernel
theorem dX11_addLong_0 : decode cX11_addLong 0 = .ok (.iload_n 1, 1) := by decide +kernel
theorem dX11_addLong_1 : decode cX11_addLong 1 = .ok (.sipush 16383, 3) := by decide +kernel
theorem dX11_addLong_4 : decode cX11_addLong 4 = .ok (.if_icmp .le 16, 3) := by decide +kernel
theorem dX11_addLong_7 : decode cX11_addLong 7 = .ok (.aload_n 0, 1) := by decide +kernel
theorem dX11_addLong_8 : decode cX11_addLong 8 = .ok (.sipush 128, 3) := by decide +kernel
theorem dX11_addLong_11 : decode cX11_addLong 11 = .ok (.iload_n 1, 1) := by decide +kernel
theorem dX11_addLong_12 : decode cX11_addLong 12 = .ok (.sipush 16384, 3) := by decide +kernel
theorem dX11_addLong_15 : decode cX11_addLong 15 = .ok (.idiv, 1) := by decide +kernel
theorem dX11_addLong_16 : decode cX11_addLong 16 = .ok (.iadd, 1) := by decide +kernel
theorem dX11_addLong_17 : decode cX11_addLong 17 = .ok (.invokevirtual 140, 3) := by decide +kernel
theorem dX11_addLong_20 : decode cX11_addLong 20 = .ok (.iload_n 1, 1) := by decide +kernel
theorem dX11_addLong_21 : decode cX11_addLong 21 = .ok (.bipush 127, 2) := by decide +kernel
theorem dX11_addLong_23 : decode cX11_addLong 23 = .ok (.if_icmp .le 20, 3) := by decide +kernel
theorem dX11_addLong_26 : decode cX11_addLong 26 = .ok (.aload_n 0, 1) := by decide +kernel
theorem dX11_addLong_27 : decode cX11_addLong 27 = .ok (.sipush 128, 3) := by decide +kernel
theorem dX11_addLong_30 : decode cX11_addLong 30 = .ok (.iload_n 1, 1) := by decide +kernel
theorem dX11_addLong_31 : decode cX11_addLong 31 = .ok (.sipush 128, 3) := by decide +kernel
theorem dX11_addLong_34 : decode cX11_addLong 34 = .ok (.idiv, 1) := by decide +kernel
theorem dX11_addLong_35 : decode cX11_addLong 35 = .ok (.sipush 128, 3) := by decide +kernel
theorem dX11_addLong_38 : decode cX11_addLong 38 = .ok (.irem, 1) := by decide +kernel
theorem dX11_addLong_39 : decode cX11_addLong 39 = .ok (.iadd, 1) := by decide +kernel
theorem dX11_addLong_40 : decode cX11_addLong 40 = .ok (.invokevirtual 140, 3) := by decide +kernel
theorem dX11_addLong_43 : decode cX11_addLong 43 = .ok (.aload_n 0, 1) := by decide +kernel
theorem dX11_addLong_44 : decode cX11_addLong 44 = .ok (.iload_n 1, 1) := by decide +kernel
theorem dX11_addLong_45 : decode cX11_addLong 45 = .ok (.sipush 128, 3) := by decide +kernel
theorem dX11_addLong_48 : decode cX11_addLong 48 = .ok (.irem, 1) := by decide +kernel
theorem dX11_addLong_49 : decode cX11_addLong 49 = .ok (.invokevirtual 140, 3) := by decide +kernel
theorem dX11_addLong_52 : decode cX11_addLong 52 = .ok (.return_, 1) := by decide +kernel
theorem dX11_flow_0 : decode cX11_flow 0 = .ok (.aload_n 0, 1) := by decide +kernel
theorem dX11_flow_1 : decode cX11_flow 1 = .ok (.getfield 71, 3) := by decide +kernel
theorem dX11_flow_4 : decode cX11_flow 4 = .ok (.aload_n 0, 1) := by decide +kernel
theorem dX11_flow_5 : decode cX11_flow 5 = .ok (.getfield 143, 3) := by decide +kernel
theorem dX11_flow_8 : decode cX11_flow 8 = .ok (.iload_n 1, 1) := by decide +kernel
theorem dX11_flow_9 : decode cX11_flow 9 = .ok (.sipush 255, 3) := by decide +kernel
theorem dX11_flow_12 : decode cX11_flow 12 = .ok (.iand, 1) := by decide +kernel
theorem dX11_flow_13 : decode cX11_flow 13 = .ok (.iastore, 1) := by decide +kernel
theorem dX11_flow_14 : decode cX11_flow 14 = .ok (.aload_n 0, 1) := by decide +kernel
theorem dX11_flow_15 : decode cX11_flow 15 = .ok (.dup, 1) := by decide +kernel
theorem dX11_flow_16 : decode cX11_flow 16 = .ok (.getfield 143, 3) := by decide +kernel
theorem dX11_flow_19 : decode cX11_flow 19 = .ok (.iconst 1, 1) := by decide +kernel
theorem dX11_flow_20 : decode cX11_flow 20 = .ok (.iadd, 1) := by decide +kernel
theorem dX11_flow_21 : decode cX11_flow 21 = .ok (.putfield 143, 3) := by decide +kernel
theorem dX11_flow_24 : decode cX11_flow 24 = .ok (.return_, 1) := by decide +kernel
theorem dX11_flowShort_0 : decode cX11_flowShort 0 = .ok (.iload_n 1, 1) := by decide +kernel
theorem dX11_flowShort_1 : decode cX11_flowShort 1 = .ok (.sipush 761, 3) := by decide +kernel
theorem dX11_flowShort_4 : decode cX11_flowShort 4 = .ok (.if_icmp .le 13, 3) := by decide +kernel
theorem dX11_flowShort_7 : decode cX11_flowShort 7 = .ok (.aload_n 0, 1) := by decide +kernel
theorem dX11_flowShort_8 : decode cX11_flowShort 8 = .ok (.sipush 253, 3) := by decide +kernel
theorem dX11_flowShort_11 : decode cX11_flowShort 11 = .ok (.invokevirtual 146, 3) := by decide +kernel
theorem dX11_flowShort_14 : decode cX11_flowShort 14 = .ok (.goto 34, 3) := by decide +kernel
theorem dX11_flowShort_17 : decode cX11_flowShort 17 = .ok (.iload_n 1, 1) := by decide +kernel
theorem dX11_flowShort_18 : decode cX11_flowShort 18 = .ok (.sipush 505, 3) := by decide +kernel
theorem dX11_flowShort_21 : decode cX11_flowShort 21 = .ok (.if_icmp .le 13, 3) := by decide +kernel
theorem dX11_flowShort_24 : decode cX11_flowShort 24 = .ok (.aload_n 0, 1) := by decide +kernel
theorem dX11_flowShort_25 : decode cX11_flowShort 25 = .ok (.sipush 254, 3) := by decide +kernel
theorem dX11_flowShort_28 : decode cX11_flowShort 28 = .ok (.invokevirtual 146, 3) := by decide +kernel
theorem dX11_flowShort_31 : decode cX11_flowShort 31 = .ok (.goto 17, 3) := by decide +kernel
theorem dX11_flowShort_34 : decode cX11_flowShort 34 = .ok (.iload_n 1, 1) := by decide +kernel
theorem dX11_flowShort_35 : decode cX11_flowShort 35 = .ok (.sipush 252, 3) := by decide +kernel
theorem dX11_flowShort_38 : decode cX11_flowShort 38 = .ok (.if_icmp .le 10, 3) := by decide +kernel
theorem dX11_flowShort_41 : decode cX11_flowShort 41 = .ok (.aload_n 0, 1) := by decide +kernel
theorem dX11_flowShort_42 : decode cX11_flowShort 42 = .ok (.sipush 255, 3) := by decide +kernel
theorem dX11_flowShort_45 : decode cX11_flowShort 45 = .ok (.invokevirtual 146, 3) := by decide +kernel
theorem dX11_flowShort_48 : decode cX11_flowShort 48 = .ok (.iload_n 1, 1) := by decide +kernel
theorem dX11_flowShort_49 : decode cX11_flowShort 49 = .ok (.sipush 761, 3) := by decide +kernel
theorem dX11_flowShort_52 : decode cX11_flowShort 52 = .ok (.if_icmp .le 12, 3) := by decide +kernel
theorem dX11_flowShort_55 : decode cX11_flowShort 55 = .ok (.aload_n 0, 1) := by decide +kernel
theorem dX11_flowShort_56 : decode cX11_flowShort 56 = .ok (.iload_n 1, 1) := by decide +kernel
theorem dX11_flowShort_57 : decode cX11_flowShort 57 = .ok (.sipush 256, 3) := by decide +kernel
theorem dX11_flowShort_60 : decode cX11_flowShort 60 = .ok (.idiv, 1) := by decide +kernel
theorem dX11_flowShort_61 : decode cX11_flowShort 61 = .ok (.invokevirtual 146, 3) := by decide +kernel
theorem dX11_flowShort_64 : decode cX11_flowShort 64 = .ok (.aload_n 0, 1) := by decide +kernel
theorem dX11_flowShort_65 : decode cX11_flowShort 65 = .ok (.iload_n 1, 1) := by decide +kernel
theorem dX11_flowShort_66 : decode cX11_flowShort 66 = .ok (.sipush 761, 3) := by decide +kernel
theorem dX11_flowShort_69 : decode cX11_flowShort 69 = .ok (.if_icmp .le 7, 3) := by decide +kernel
theorem dX11_flowShort_72 : decode cX11_flowShort 72 = .ok (.iload_n 1, 1) := by decide +kernel
theorem dX11_flowShort_73 : decode cX11_flowShort 73 = .ok (.goto 34, 3) := by decide +kernel
theorem dX11_flowShort_76 : decode cX11_flowShort 76 = .ok (.iload_n 1, 1) := by decide +kernel
theorem dX11_flowShort_77 : decode cX11_flowShort 77 = .ok (.sipush 505, 3) := by decide +kernel
theorem dX11_flowShort_80 : decode cX11_flowShort 80 = .ok (.if_icmp .le 11, 3) := by decide +kernel
theorem dX11_flowShort_83 : decode cX11_flowShort 83 = .ok (.iload_n 1, 1) := by decide +kernel
theorem dX11_flowShort_84 : decode cX11_flowShort 84 = .ok (.sipush 506, 3) := by decide +kernel
theorem dX11_flowShort_87 : decode cX11_flowShort 87 = .ok (.isub, 1) := by decide +kernel
theorem dX11_flowShort_88 : decode cX11_flowShort 88 = .ok (.goto 19, 3) := by decide +kernel
theorem dX11_flowShort_91 : decode cX11_flowShort 91 = .ok (.iload_n 1, 1) := by decide +kernel
theorem dX11_flowShort_92 : decode cX11_flowShort 92 = .ok (.sipush 252, 3) := by decide +kernel
theorem dX11_flowShort_95 : decode cX11_flowShort 95 = .ok (.if_icmp .le 11, 3) := by decide +kernel
theorem dX11_flowShort_98 : decode cX11_flowShort 98 = .ok (.iload_n 1, 1) := by decide +kernel
theorem dX11_flowShort_99 : decode cX11_flowShort 99 = .ok (.sipush 253, 3) := by decide +kernel
theorem dX11_flowShort_102 : decode cX11_flowShort 102 = .ok (.isub, 1) := by decide +kernel
theorem dX11_flowShort_103 : decode cX11_flowShort 103 = .ok (.goto 4, 3) := by decide +kernel
theorem dX11_flowShort_106 : decode cX11_flowShort 106 = .ok (.iload_n 1, 1) := by decide +kernel
theorem dX11_flowShort_107 : decode cX11_flowShort 107 = .ok (.invokevirtual 146, 3) := by decide +kernel
theorem dX11_flowShort_110 : decode cX11_flowShort 110 = .ok (.return_, 1) := by decide +kernel
theorem dX11_signOf_0 : decode cX11_signOf 0 = .ok (.aload_n 0, 1) := by decide +kernel
theorem dX11_signOf_1 : decode cX11_signOf 1 = .ok (.iload_n 1, 1) := by decide +kernel
theorem dX11_signOf_2 : decode cX11_signOf 2 = .ok (.iload_n 2, 1) := by decide +kernel
theorem dX11_signOf_3 : decode cX11_signOf 3 = .ok (.invokevirtual 110, 3) := by decide +kernel
theorem dX11_signOf_6 : decode cX11_signOf 6 = .ok (.istore_n 3, 1) := by decide +kernel
theorem dX11_signOf_7 : decode cX11_signOf 7 = .ok (.aload_n 0, 1) := by decide +kernel
theorem dX11_signOf_8 : decode cX11_signOf 8 = .ok (.iload_n 1, 1) := by decide +kernel
theorem dX11_signOf_9 : decode cX11_signOf 9 = .ok (.iload_n 2, 1) := by decide +kernel
theorem dX11_signOf_10 : decode cX11_signOf 10 = .ok (.invokevirtual 114, 3) := by decide +kernel
theorem dX11_signOf_13 : decode cX11_signOf 13 = .ok (.istore 4, 2) := by decide +kernel
theorem dX11_signOf_15 : decode cX11_signOf 15 = .ok (.iload_n 3, 1) := by decide +kernel
theorem dX11_signOf_16 : decode cX11_signOf 16 = .ok (.invokestatic 117, 3) := by decide +kernel
theorem dX11_signOf_19 : decode cX11_signOf 19 = .ok (.istore 5, 2) := by decide +kernel
theorem dX11_signOf_21 : decode cX11_signOf 21 = .ok (.iload 4, 2) := by decide +kernel
theorem dX11_signOf_23 : decode cX11_signOf 23 = .ok (.invokestatic 117, 3) := by decide +kernel
theorem dX11_signOf_26 : decode cX11_signOf 26 = .ok (.istore 6, 2) := by decide +kernel
theorem dX11_signOf_28 : decode cX11_signOf 28 = .ok (.iload_n 3, 1) := by decide +kernel
theorem dX11_signOf_29 : decode cX11_signOf 29 = .ok (.ifCond .lt 7, 3) := by decide +kernel
theorem dX11_signOf_32 : decode cX11_signOf 32 = .ok (.iconst 1, 1) := by decide +kernel
theorem dX11_signOf_33 : decode cX11_signOf 33 = .ok (.goto 4, 3) := by decide +kernel
theorem dX11_signOf_36 : decode cX11_signOf 36 = .ok (.iconst 0, 1) := by decide +kernel
theorem dX11_signOf_37 : decode cX11_signOf 37 = .ok (.istore 7, 2) := by decide +kernel
theorem dX11_signOf_39 : decode cX11_signOf 39 = .ok (.iload 4, 2) := by decide +kernel
theorem dX11_signOf_41 : decode cX11_signOf 41 = .ok (.ifCond .lt 7, 3) := by decide +kernel
theorem dX11_signOf_44 : decode cX11_signOf 44 = .ok (.iconst 1, 1) := by decide +kernel
theorem dX11_signOf_45 : decode cX11_signOf 45 = .ok (.goto 4, 3) := by decide +kernel
theorem dX11_signOf_48 : decode cX11_signOf 48 = .ok (.iconst 0, 1) := by decide +kernel
theorem dX11_signOf_49 : decode cX11_signOf 49 = .ok (.istore 8, 2) := by decide +kernel
theorem dX11_signOf_51 : decode cX11_signOf 51 = .ok (.iload 5, 2) := by decide +kernel
theorem dX11_signOf_53 : decode cX11_signOf 53 = .ok (.ifCond .ne 23, 3) := by decide +kernel
theorem dX11_signOf_56 : decode cX11_signOf 56 = .ok (.iload 6, 2) := by decide +kernel
theorem dX11_signOf_58 : decode cX11_signOf 58 = .ok (.sipush 1280, 3) := by decide +kernel
theorem dX11_signOf_61 : decode cX11_signOf 61 = .ok (.if_icmp .ge 15, 3) := by decide +kernel
theorem dX11_signOf_64 : decode cX11_signOf 64 = .ok (.iload 6, 2) := by decide +kernel
theorem dX11_signOf_66 : decode cX11_signOf 66 = .ok (.sipush 256, 3) := by decide +kernel
theorem dX11_signOf_69 : decode cX11_signOf 69 = .ok (.idiv, 1) := by decide +kernel
theorem dX11_signOf_70 : decode cX11_signOf 70 = .ok (.iconst 2, 1) := by decide +kernel
theorem dX11_signOf_71 : decode cX11_signOf 71 = .ok (.imul, 1) := by decide +kernel
theorem dX11_signOf_72 : decode cX11_signOf 72 = .ok (.iload 8, 2) := by decide +kernel
theorem dX11_signOf_74 : decode cX11_signOf 74 = .ok (.iadd, 1) := by decide +kernel
theorem dX11_signOf_75 : decode cX11_signOf 75 = .ok (.ireturn, 1) := by decide +kernel
theorem dX11_signOf_76 : decode cX11_signOf 76 = .ok (.iload 6, 2) := by decide +kernel
theorem dX11_signOf_78 : decode cX11_signOf 78 = .ok (.ifCond .ne 26, 3) := by decide +kernel
theorem dX11_signOf_81 : decode cX11_signOf 81 = .ok (.iload 5, 2) := by decide +kernel
theorem dX11_signOf_83 : decode cX11_signOf 83 = .ok (.sipush 1280, 3) := by decide +kernel
theorem dX11_signOf_86 : decode cX11_signOf 86 = .ok (.if_icmp .ge 18, 3) := by decide +kernel
theorem dX11_signOf_89 : decode cX11_signOf 89 = .ok (.bipush 10, 2) := by decide +kernel
theorem dX11_signOf_91 : decode cX11_signOf 91 = .ok (.iload 5, 2) := by decide +kernel
theorem dX11_signOf_93 : decode cX11_signOf 93 = .ok (.sipush 256, 3) := by decide +kernel
theorem dX11_signOf_96 : decode cX11_signOf 96 = .ok (.idiv, 1) := by decide +kernel
theorem dX11_signOf_97 : decode cX11_signOf 97 = .ok (.iconst 2, 1) := by decide +kernel
theorem dX11_signOf_98 : decode cX11_signOf 98 = .ok (.imul, 1) := by decide +kernel
theorem dX11_signOf_99 : decode cX11_signOf 99 = .ok (.iadd, 1) := by decide +kernel
theorem dX11_signOf_100 : decode cX11_signOf 100 = .ok (.iload 7, 2) := by decide +kernel
theorem dX11_signOf_102 : decode cX11_signOf 102 = .ok (.iadd, 1) := by decide +kernel
theorem dX11_signOf_103 : decode cX11_signOf 103 = .ok (.ireturn, 1) := by decide +kernel
theorem dX11_signOf_104 : decode cX11_signOf 104 = .ok (.iload 5, 2) := by decide +kernel
theorem dX11_signOf_106 : decode cX11_signOf 106 = .ok (.ifCond .eq 8, 3) := by decide +kernel
theorem dX11_signOf_109 : decode cX11_signOf 109 = .ok (.iload 6, 2) := by decide +kernel
theorem dX11_signOf_111 : decode cX11_signOf 111 = .ok (.ifCond .ne 7, 3) := by decide +kernel
theorem dX11_signOf_114 : decode cX11_signOf 114 = .ok (.iconst 1, 1) := by decide +kernel
theorem dX11_signOf_115 : decode cX11_signOf 115 = .ok (.goto 4, 3) := by decide +kernel
theorem dX11_signOf_118 : decode cX11_signOf 118 = .ok (.iconst 0, 1) := by decide +kernel
theorem dX11_signOf_119 : decode cX11_signOf 119 = .ok (.istore 9, 2) := by decide +kernel
theorem dX11_signOf_121 : decode cX11_signOf 121 = .ok (.iload 9, 2) := by decide +kernel
theorem dX11_signOf_123 : decode cX11_signOf 123 = .ok (.ifCond .ne 49, 3) := by decide +kernel
theorem dX11_signOf_126 : decode cX11_signOf 126 = .ok (.iload 5, 2) := by decide +kernel
theorem dX11_signOf_128 : decode cX11_signOf 128 = .ok (.bipush 65, 2) := by decide +kernel
theorem dX11_signOf_130 : decode cX11_signOf 130 = .ok (.if_icmp .ge 42, 3) := by decide +kernel
theorem dX11_signOf_133 : decode cX11_signOf 133 = .ok (.iload 6, 2) := by decide +kernel
theorem dX11_signOf_135 : decode cX11_signOf 135 = .ok (.bipush 65, 2) := by decide +kernel
theorem dX11_signOf_137 : decode cX11_signOf 137 = .ok (.if_icmp .ge 35, 3) := by decide +kernel
theorem dX11_signOf_140 : decode cX11_signOf 140 = .ok (.bipush 20, 2) := by decide +kernel
theorem dX11_signOf_142 : decode cX11_signOf 142 = .ok (.iload 5, 2) := by decide +kernel
theorem dX11_signOf_144 : decode cX11_signOf 144 = .ok (.iconst 1, 1) := by decide +kernel
theorem dX11_signOf_145 : decode cX11_signOf 145 = .ok (.isub, 1) := by decide +kernel
theorem dX11_signOf_146 : decode cX11_signOf 146 = .ok (.bipush 16, 2) := by decide +kernel
theorem dX11_signOf_148 : decode cX11_signOf 148 = .ok (.idiv, 1) := by decide +kernel
theorem dX11_signOf_149 : decode cX11_signOf 149 = .ok (.bipush 16, 2) := by decide +kernel
theorem dX11_signOf_151 : decode cX11_signOf 151 = .ok (.imul, 1) := by decide +kernel
theorem dX11_signOf_152 : decode cX11_signOf 152 = .ok (.iadd, 1) := by decide +kernel
theorem dX11_signOf_153 : decode cX11_signOf 153 = .ok (.iload 6, 2) := by decide +kernel
theorem dX11_signOf_155 : decode cX11_signOf 155 = .ok (.iconst 1, 1) := by decide +kernel
theorem dX11_signOf_156 : decode cX11_signOf 156 = .ok (.isub, 1) := by decide +kernel
theorem dX11_signOf_157 : decode cX11_signOf 157 = .ok (.bipush 16, 2) := by decide +kernel
theorem dX11_signOf_159 : decode cX11_signOf 159 = .ok (.idiv, 1) := by decide +kernel
theorem dX11_signOf_160 : decode cX11_signOf 160 = .ok (.iconst 4, 1) := by decide +kernel
theorem dX11_signOf_161 : decode cX11_signOf 161 = .ok (.imul, 1) := by decide +kernel
theorem dX11_signOf_162 : decode cX11_signOf 162 = .ok (.iadd, 1) := by decide +kernel
theorem dX11_signOf_163 : decode cX11_signOf 163 = .ok (.iload 7, 2) := by decide +kernel
theorem dX11_signOf_165 : decode cX11_signOf 165 = .ok (.iadd, 1) := by decide +kernel
theorem dX11_signOf_166 : decode cX11_signOf 166 = .ok (.iconst 2, 1) := by decide +kernel
theorem dX11_signOf_167 : decode cX11_signOf 167 = .ok (.iload 8, 2) := by decide +kernel
theorem dX11_signOf_169 : decode cX11_signOf 169 = .ok (.imul, 1) := by decide +kernel
theorem dX11_signOf_170 : decode cX11_signOf 170 = .ok (.iadd, 1) := by decide +kernel
theorem dX11_signOf_171 : decode cX11_signOf 171 = .ok (.ireturn, 1) := by decide +kernel
theorem dX11_signOf_172 : decode cX11_signOf 172 = .ok (.iload 9, 2) := by decide +kernel
theorem dX11_signOf_174 : decode cX11_signOf 174 = .ok (.ifCond .ne 53, 3) := by decide +kernel
theorem dX11_signOf_177 : decode cX11_signOf 177 = .ok (.iload 5, 2) := by decide +kernel
theorem dX11_signOf_179 : decode cX11_signOf 179 = .ok (.sipush 769, 3) := by decide +kernel
theorem dX11_signOf_182 : decode cX11_signOf 182 = .ok (.if_icmp .ge 45, 3) := by decide +kernel
theorem dX11_signOf_185 : decode cX11_signOf 185 = .ok (.iload 6, 2) := by decide +kernel
theorem dX11_signOf_187 : decode cX11_signOf 187 = .ok (.sipush 769, 3) := by decide +kernel
theorem dX11_signOf_190 : decode cX11_signOf 190 = .ok (.if_icmp .ge 37, 3) := by decide +kernel
theorem dX11_signOf_193 : decode cX11_signOf 193 = .ok (.bipush 84, 2) := by decide +kernel
theorem dX11_signOf_195 : decode cX11_signOf 195 = .ok (.iload 5, 2) := by decide +kernel
theorem dX11_signOf_197 : decode cX11_signOf 197 = .ok (.iconst 1, 1) := by decide +kernel
theorem dX11_signOf_198 : decode cX11_signOf 198 = .ok (.isub, 1) := by decide +kernel
theorem dX11_signOf_199 : decode cX11_signOf 199 = .ok (.sipush 256, 3) := by decide +kernel
theorem dX11_signOf_202 : decode cX11_signOf 202 = .ok (.idiv, 1) := by decide +kernel
theorem dX11_signOf_203 : decode cX11_signOf 203 = .ok (.bipush 12, 2) := by decide +kernel
theorem dX11_signOf_205 : decode cX11_signOf 205 = .ok (.imul, 1) := by decide +kernel
theorem dX11_signOf_206 : decode cX11_signOf 206 = .ok (.iadd, 1) := by decide +kernel
theorem dX11_signOf_207 : decode cX11_signOf 207 = .ok (.iload 6, 2) := by decide +kernel
theorem dX11_signOf_209 : decode cX11_signOf 209 = .ok (.iconst 1, 1) := by decide +kernel
theorem dX11_signOf_210 : decode cX11_signOf 210 = .ok (.isub, 1) := by decide +kernel
theorem dX11_signOf_211 : decode cX11_signOf 211 = .ok (.sipush 256, 3) := by decide +kernel
theorem dX11_signOf_214 : decode cX11_signOf 214 = .ok (.idiv, 1) := by decide +kernel
theorem dX11_signOf_215 : decode cX11_signOf 215 = .ok (.iconst 4, 1) := by decide +kernel
theorem dX11_signOf_216 : decode cX11_signOf 216 = .ok (.imul, 1) := by decide +kernel
theorem dX11_signOf_217 : decode cX11_signOf 217 = .ok (.iadd, 1) := by decide +kernel
theorem dX11_signOf_218 : decode cX11_signOf 218 = .ok (.iload 7, 2) := by decide +kernel
theorem dX11_signOf_220 : decode cX11_signOf 220 = .ok (.iadd, 1) := by decide +kernel
theorem dX11_signOf_221 : decode cX11_signOf 221 = .ok (.iconst 2, 1) := by decide +kernel
theorem dX11_signOf_222 : decode cX11_signOf 222 = .ok (.iload 8, 2) := by decide +kernel
theorem dX11_signOf_224 : decode cX11_signOf 224 = .ok (.imul, 1) := by decide +kernel
theorem dX11_signOf_225 : decode cX11_signOf 225 = .ok (.iadd, 1) := by decide +kernel
theorem dX11_signOf_226 : decode cX11_signOf 226 = .ok (.ireturn, 1) := by decide +kernel
theorem dX11_signOf_227 : decode cX11_signOf 227 = .ok (.iload 5, 2) := by decide +kernel
theorem dX11_signOf_229 : decode cX11_signOf 229 = .ok (.sipush 4096, 3) := by decide +kernel
theorem dX11_signOf_232 : decode cX11_signOf 232 = .ok (.if_icmp .ge 16, 3) := by decide +kernel
theorem dX11_signOf_235 : decode cX11_signOf 235 = .ok (.iload 6, 2) := by decide +kernel
theorem dX11_signOf_237 : decode cX11_signOf 237 = .ok (.sipush 4096, 3) := by decide +kernel
theorem dX11_signOf_240 : decode cX11_signOf 240 = .ok (.if_icmp .ge 8, 3) := by decide +kernel
theorem dX11_signOf_243 : decode cX11_signOf 243 = .ok (.bipush 120, 2) := by decide +kernel
theorem dX11_signOf_245 : decode cX11_signOf 245 = .ok (.goto 5, 3) := by decide +kernel
theorem dX11_signOf_248 : decode cX11_signOf 248 = .ok (.bipush 124, 2) := by decide +kernel
theorem dX11_signOf_250 : decode cX11_signOf 250 = .ok (.iload 7, 2) := by decide +kernel
theorem dX11_signOf_252 : decode cX11_signOf 252 = .ok (.iadd, 1) := by decide +kernel
theorem dX11_signOf_253 : decode cX11_signOf 253 = .ok (.iconst 2, 1) := by decide +kernel
theorem dX11_signOf_254 : decode cX11_signOf 254 = .ok (.iload 8, 2) := by decide +kernel
theorem dX11_signOf_256 : decode cX11_signOf 256 = .ok (.imul, 1) := by decide +kernel
theorem dX11_signOf_257 : decode cX11_signOf 257 = .ok (.iadd, 1) := by decide +kernel
theorem dX11_signOf_258 : decode cX11_signOf 258 = .ok (.ireturn, 1) := by decide +kernel
theorem dX11_flowStep_0 : decode cX11_flowStep 0 = .ok (.aload_n 0, 1) := by decide +kernel
theorem dX11_flowStep_1 : decode cX11_flowStep 1 = .ok (.iload_n 1, 1) := by decide +kernel
theorem dX11_flowStep_2 : decode cX11_flowStep 2 = .ok (.iload_n 2, 1) := by decide +kernel
theorem dX11_flowStep_3 : decode cX11_flowStep 3 = .ok (.invokevirtual 149, 3) := by decide +kernel
theorem dX11_flowStep_6 : decode cX11_flowStep 6 = .ok (.istore_n 3, 1) := by decide +kernel
theorem dX11_flowStep_7 : decode cX11_flowStep 7 = .ok (.aload_n 0, 1) := by decide +kernel
theorem dX11_flowStep_8 : decode cX11_flowStep 8 = .ok (.iload_n 1, 1) := by decide +kernel
theorem dX11_flowStep_9 : decode cX11_flowStep 9 = .ok (.iload_n 2, 1) := by decide +kernel
theorem dX11_flowStep_10 : decode cX11_flowStep 10 = .ok (.invokevirtual 110, 3) := by decide +kernel
theorem dX11_flowStep_13 : decode cX11_flowStep 13 = .ok (.invokestatic 117, 3) := by decide +kernel
theorem dX11_flowStep_16 : decode cX11_flowStep 16 = .ok (.istore 4, 2) := by decide +kernel
theorem dX11_flowStep_18 : decode cX11_flowStep 18 = .ok (.aload_n 0, 1) := by decide +kernel
theorem dX11_flowStep_19 : decode cX11_flowStep 19 = .ok (.iload_n 1, 1) := by decide +kernel
theorem dX11_flowStep_20 : decode cX11_flowStep 20 = .ok (.iload_n 2, 1) := by decide +kernel
theorem dX11_flowStep_21 : decode cX11_flowStep 21 = .ok (.invokevirtual 114, 3) := by decide +kernel
theorem dX11_flowStep_24 : decode cX11_flowStep 24 = .ok (.invokestatic 117, 3) := by decide +kernel
theorem dX11_flowStep_27 : decode cX11_flowStep 27 = .ok (.istore 5, 2) := by decide +kernel
theorem dX11_flowStep_29 : decode cX11_flowStep 29 = .ok (.iload_n 3, 1) := by decide +kernel
theorem dX11_flowStep_30 : decode cX11_flowStep 30 = .ok (.bipush 20, 2) := by decide +kernel
theorem dX11_flowStep_32 : decode cX11_flowStep 32 = .ok (.if_icmp .ge 23, 3) := by decide +kernel
theorem dX11_flowStep_35 : decode cX11_flowStep 35 = .ok (.aload_n 0, 1) := by decide +kernel
theorem dX11_flowStep_36 : decode cX11_flowStep 36 = .ok (.iload_n 3, 1) := by decide +kernel
theorem dX11_flowStep_37 : decode cX11_flowStep 37 = .ok (.bipush 10, 2) := by decide +kernel
theorem dX11_flowStep_39 : decode cX11_flowStep 39 = .ok (.if_icmp .ge 8, 3) := by decide +kernel
theorem dX11_flowStep_42 : decode cX11_flowStep 42 = .ok (.iload 5, 2) := by decide +kernel
theorem dX11_flowStep_44 : decode cX11_flowStep 44 = .ok (.goto 5, 3) := by decide +kernel
theorem dX11_flowStep_47 : decode cX11_flowStep 47 = .ok (.iload 4, 2) := by decide +kernel
theorem dX11_flowStep_49 : decode cX11_flowStep 49 = .ok (.invokevirtual 146, 3) := by decide +kernel
theorem dX11_flowStep_52 : decode cX11_flowStep 52 = .ok (.goto 142, 3) := by decide +kernel
theorem dX11_flowStep_55 : decode cX11_flowStep 55 = .ok (.iload_n 3, 1) := by decide +kernel
theorem dX11_flowStep_56 : decode cX11_flowStep 56 = .ok (.bipush 84, 2) := by decide +kernel
theorem dX11_flowStep_58 : decode cX11_flowStep 58 = .ok (.if_icmp .ge 28, 3) := by decide +kernel
theorem dX11_flowStep_61 : decode cX11_flowStep 61 = .ok (.aload_n 0, 1) := by decide +kernel
theorem dX11_flowStep_62 : decode cX11_flowStep 62 = .ok (.iload 4, 2) := by decide +kernel
theorem dX11_flowStep_64 : decode cX11_flowStep 64 = .ok (.iconst 1, 1) := by decide +kernel
theorem dX11_flowStep_65 : decode cX11_flowStep 65 = .ok (.isub, 1) := by decide +kernel
theorem dX11_flowStep_66 : decode cX11_flowStep 66 = .ok (.bipush 16, 2) := by decide +kernel
theorem dX11_flowStep_68 : decode cX11_flowStep 68 = .ok (.irem, 1) := by decide +kernel
theorem dX11_flowStep_69 : decode cX11_flowStep 69 = .ok (.bipush 16, 2) := by decide +kernel
theorem dX11_flowStep_71 : decode cX11_flowStep 71 = .ok (.imul, 1) := by decide +kernel
theorem dX11_flowStep_72 : decode cX11_flowStep 72 = .ok (.iload 5, 2) := by decide +kernel
theorem dX11_flowStep_74 : decode cX11_flowStep 74 = .ok (.iconst 1, 1) := by decide +kernel
theorem dX11_flowStep_75 : decode cX11_flowStep 75 = .ok (.isub, 1) := by decide +kernel
theorem dX11_flowStep_76 : decode cX11_flowStep 76 = .ok (.bipush 16, 2) := by decide +kernel
theorem dX11_flowStep_78 : decode cX11_flowStep 78 = .ok (.irem, 1) := by decide +kernel
theorem dX11_flowStep_79 : decode cX11_flowStep 79 = .ok (.iadd, 1) := by decide +kernel
theorem dX11_flowStep_80 : decode cX11_flowStep 80 = .ok (.invokevirtual 146, 3) := by decide +kernel
theorem dX11_flowStep_83 : decode cX11_flowStep 83 = .ok (.goto 111, 3) := by decide +kernel
theorem dX11_flowStep_86 : decode cX11_flowStep 86 = .ok (.iload_n 3, 1) := by decide +kernel
theorem dX11_flowStep_87 : decode cX11_flowStep 87 = .ok (.bipush 120, 2) := by decide +kernel
theorem dX11_flowStep_89 : decode cX11_flowStep 89 = .ok (.if_icmp .ge 30, 3) := by decide +kernel
theorem dX11_flowStep_92 : decode cX11_flowStep 92 = .ok (.aload_n 0, 1) := by decide +kernel
theorem dX11_flowStep_93 : decode cX11_flowStep 93 = .ok (.iload 4, 2) := by decide +kernel
theorem dX11_flowStep_95 : decode cX11_flowStep 95 = .ok (.iconst 1, 1) := by decide +kernel
theorem dX11_flowStep_96 : decode cX11_flowStep 96 = .ok (.isub, 1) := by decide +kernel
theorem dX11_flowStep_97 : decode cX11_flowStep 97 = .ok (.sipush 256, 3) := by decide +kernel
theorem dX11_flowStep_100 : decode cX11_flowStep 100 = .ok (.irem, 1) := by decide +kernel
theorem dX11_flowStep_101 : decode cX11_flowStep 101 = .ok (.invokevirtual 146, 3) := by decide +kernel
theorem dX11_flowStep_104 : decode cX11_flowStep 104 = .ok (.aload_n 0, 1) := by decide +kernel
theorem dX11_flowStep_105 : decode cX11_flowStep 105 = .ok (.iload 5, 2) := by decide +kernel
theorem dX11_flowStep_107 : decode cX11_flowStep 107 = .ok (.iconst 1, 1) := by decide +kernel
theorem dX11_flowStep_108 : decode cX11_flowStep 108 = .ok (.isub, 1) := by decide +kernel
theorem dX11_flowStep_109 : decode cX11_flowStep 109 = .ok (.sipush 256, 3) := by decide +kernel
theorem dX11_flowStep_112 : decode cX11_flowStep 112 = .ok (.irem, 1) := by decide +kernel
theorem dX11_flowStep_113 : decode cX11_flowStep 113 = .ok (.invokevirtual 146, 3) := by decide +kernel
theorem dX11_flowStep_116 : decode cX11_flowStep 116 = .ok (.goto 78, 3) := by decide +kernel
theorem dX11_flowStep_119 : decode cX11_flowStep 119 = .ok (.iload_n 3, 1) := by decide +kernel
theorem dX11_flowStep_120 : decode cX11_flowStep 120 = .ok (.bipush 124, 2) := by decide +kernel
theorem dX11_flowStep_122 : decode cX11_flowStep 122 = .ok (.if_icmp .ge 40, 3) := by decide +kernel
theorem dX11_flowStep_125 : decode cX11_flowStep 125 = .ok (.aload_n 0, 1) := by decide +kernel
theorem dX11_flowStep_126 : decode cX11_flowStep 126 = .ok (.iload 4, 2) := by decide +kernel
theorem dX11_flowStep_128 : decode cX11_flowStep 128 = .ok (.bipush 16, 2) := by decide +kernel
theorem dX11_flowStep_130 : decode cX11_flowStep 130 = .ok (.idiv, 1) := by decide +kernel
theorem dX11_flowStep_131 : decode cX11_flowStep 131 = .ok (.invokevirtual 146, 3) := by decide +kernel
theorem dX11_flowStep_134 : decode cX11_flowStep 134 = .ok (.aload_n 0, 1) := by decide +kernel
theorem dX11_flowStep_135 : decode cX11_flowStep 135 = .ok (.iload 4, 2) := by decide +kernel
theorem dX11_flowStep_137 : decode cX11_flowStep 137 = .ok (.bipush 16, 2) := by decide +kernel
theorem dX11_flowStep_139 : decode cX11_flowStep 139 = .ok (.irem, 1) := by decide +kernel
theorem dX11_flowStep_140 : decode cX11_flowStep 140 = .ok (.bipush 16, 2) := by decide +kernel
theorem dX11_flowStep_142 : decode cX11_flowStep 142 = .ok (.imul, 1) := by decide +kernel
theorem dX11_flowStep_143 : decode cX11_flowStep 143 = .ok (.iload 5, 2) := by decide +kernel
theorem dX11_flowStep_145 : decode cX11_flowStep 145 = .ok (.sipush 256, 3) := by decide +kernel
theorem dX11_flowStep_148 : decode cX11_flowStep 148 = .ok (.idiv, 1) := by decide +kernel
theorem dX11_flowStep_149 : decode cX11_flowStep 149 = .ok (.iadd, 1) := by decide +kernel
theorem dX11_flowStep_150 : decode cX11_flowStep 150 = .ok (.invokevirtual 146, 3) := by decide +kernel
theorem dX11_flowStep_153 : decode cX11_flowStep 153 = .ok (.aload_n 0, 1) := by decide +kernel
theorem dX11_flowStep_154 : decode cX11_flowStep 154 = .ok (.iload 5, 2) := by decide +kernel
theorem dX11_flowStep_156 : decode cX11_flowStep 156 = .ok (.invokevirtual 146, 3) := by decide +kernel
theorem dX11_flowStep_159 : decode cX11_flowStep 159 = .ok (.goto 35, 3) := by decide +kernel
theorem dX11_flowStep_162 : decode cX11_flowStep 162 = .ok (.aload_n 0, 1) := by decide +kernel
theorem dX11_flowStep_163 : decode cX11_flowStep 163 = .ok (.iload 4, 2) := by decide +kernel
theorem dX11_flowStep_165 : decode cX11_flowStep 165 = .ok (.sipush 256, 3) := by decide +kernel
theorem dX11_flowStep_168 : decode cX11_flowStep 168 = .ok (.idiv, 1) := by decide +kernel
theorem dX11_flowStep_169 : decode cX11_flowStep 169 = .ok (.invokevirtual 146, 3) := by decide +kernel
theorem dX11_flowStep_172 : decode cX11_flowStep 172 = .ok (.aload_n 0, 1) := by decide +kernel
theorem dX11_flowStep_173 : decode cX11_flowStep 173 = .ok (.iload 4, 2) := by decide +kernel
theorem dX11_flowStep_175 : decode cX11_flowStep 175 = .ok (.invokevirtual 146, 3) := by decide +kernel
theorem dX11_flowStep_178 : decode cX11_flowStep 178 = .ok (.aload_n 0, 1) := by decide +kernel
theorem dX11_flowStep_179 : decode cX11_flowStep 179 = .ok (.iload 5, 2) := by decide +kernel
theorem dX11_flowStep_181 : decode cX11_flowStep 181 = .ok (.sipush 256, 3) := by decide +kernel
theorem dX11_flowStep_184 : decode cX11_flowStep 184 = .ok (.idiv, 1) := by decide +kernel
theorem dX11_flowStep_185 : decode cX11_flowStep 185 = .ok (.invokevirtual 146, 3) := by decide +kernel
theorem dX11_flowStep_188 : decode cX11_flowStep 188 = .ok (.aload_n 0, 1) := by decide +kernel
theorem dX11_flowStep_189 : decode cX11_flowStep 189 = .ok (.iload 5, 2) := by decide +kernel
theorem dX11_flowStep_191 : decode cX11_flowStep 191 = .ok (.invokevirtual 146, 3) := by decide +kernel
theorem dX11_flowStep_194 : decode cX11_flowStep 194 = .ok (.return_, 1) := by decide +kernel
theorem dX11_flowTable_0 : decode cX11_flowTable 0 = .ok (.iconst 0, 1) := by decide +kernel
theorem dX11_flowTable_1 : decode cX11_flowTable 1 = .ok (.istore_n 2, 1) := by decide +kernel
theorem dX11_flowTable_2 : decode cX11_flowTable 2 = .ok (.iload_n 2, 1) := by decide +kernel
theorem dX11_flowTable_3 : decode cX11_flowTable 3 = .ok (.aload_n 0, 1) := by decide +kernel
theorem dX11_flowTable_4 : decode cX11_flowTable 4 = .ok (.getfield 32, 3) := by decide +kernel
theorem dX11_flowTable_7 : decode cX11_flowTable 7 = .ok (.iload_n 1, 1) := by decide +kernel
theorem dX11_flowTable_8 : decode cX11_flowTable 8 = .ok (.iaload, 1) := by decide +kernel
theorem dX11_flowTable_9 : decode cX11_flowTable 9 = .ok (.if_icmp .ge 24, 3) := by decide +kernel
theorem dX11_flowTable_12 : decode cX11_flowTable 12 = .ok (.aload_n 0, 1) := by decide +kernel
theorem dX11_flowTable_13 : decode cX11_flowTable 13 = .ok (.aload_n 0, 1) := by decide +kernel
theorem dX11_flowTable_14 : decode cX11_flowTable 14 = .ok (.getfield 35, 3) := by decide +kernel
theorem dX11_flowTable_17 : decode cX11_flowTable 17 = .ok (.bipush 20, 2) := by decide +kernel
theorem dX11_flowTable_19 : decode cX11_flowTable 19 = .ok (.iload_n 1, 1) := by decide +kernel
theorem dX11_flowTable_20 : decode cX11_flowTable 20 = .ok (.imul, 1) := by decide +kernel
theorem dX11_flowTable_21 : decode cX11_flowTable 21 = .ok (.iload_n 2, 1) := by decide +kernel
theorem dX11_flowTable_22 : decode cX11_flowTable 22 = .ok (.iadd, 1) := by decide +kernel
theorem dX11_flowTable_23 : decode cX11_flowTable 23 = .ok (.iaload, 1) := by decide +kernel
theorem dX11_flowTable_24 : decode cX11_flowTable 24 = .ok (.invokevirtual 146, 3) := by decide +kernel
theorem dX11_flowTable_27 : decode cX11_flowTable 27 = .ok (.iinc 2 1, 3) := by decide +kernel
theorem dX11_flowTable_30 : decode cX11_flowTable 30 = .ok (.goto (-28), 3) := by decide +kernel
theorem dX11_flowTable_33 : decode cX11_flowTable 33 = .ok (.iconst 0, 1) := by decide +kernel
theorem dX11_flowTable_34 : decode cX11_flowTable 34 = .ok (.istore_n 2, 1) := by decide +kernel
theorem dX11_flowTable_35 : decode cX11_flowTable 35 = .ok (.iload_n 2, 1) := by decide +kernel
theorem dX11_flowTable_36 : decode cX11_flowTable 36 = .ok (.aload_n 0, 1) := by decide +kernel
theorem dX11_flowTable_37 : decode cX11_flowTable 37 = .ok (.getfield 87, 3) := by decide +kernel
theorem dX11_flowTable_40 : decode cX11_flowTable 40 = .ok (.if_icmp .ge 24, 3) := by decide +kernel
theorem dX11_flowTable_43 : decode cX11_flowTable 43 = .ok (.iload_n 1, 1) := by decide +kernel
theorem dX11_flowTable_44 : decode cX11_flowTable 44 = .ok (.iconst 1, 1) := by decide +kernel
theorem dX11_flowTable_45 : decode cX11_flowTable 45 = .ok (.if_icmp .ne 19, 3) := by decide +kernel
theorem dX11_flowTable_48 : decode cX11_flowTable 48 = .ok (.aload_n 0, 1) := by decide +kernel
theorem dX11_flowTable_49 : decode cX11_flowTable 49 = .ok (.aload_n 0, 1) := by decide +kernel
theorem dX11_flowTable_50 : decode cX11_flowTable 50 = .ok (.getfield 7, 3) := by decide +kernel
theorem dX11_flowTable_53 : decode cX11_flowTable 53 = .ok (.iload_n 2, 1) := by decide +kernel
theorem dX11_flowTable_54 : decode cX11_flowTable 54 = .ok (.iaload, 1) := by decide +kernel
theorem dX11_flowTable_55 : decode cX11_flowTable 55 = .ok (.invokevirtual 152, 3) := by decide +kernel
theorem dX11_flowTable_58 : decode cX11_flowTable 58 = .ok (.iinc 2 1, 3) := by decide +kernel
theorem dX11_flowTable_61 : decode cX11_flowTable 61 = .ok (.goto (-26), 3) := by decide +kernel
theorem dX11_flowTable_64 : decode cX11_flowTable 64 = .ok (.iload_n 1, 1) := by decide +kernel
theorem dX11_flowTable_65 : decode cX11_flowTable 65 = .ok (.ifCond .eq 4, 3) := by decide +kernel
theorem dX11_flowTable_68 : decode cX11_flowTable 68 = .ok (.return_, 1) := by decide +kernel
theorem dX11_flowTable_69 : decode cX11_flowTable 69 = .ok (.aload_n 0, 1) := by decide +kernel
theorem dX11_flowTable_70 : decode cX11_flowTable 70 = .ok (.aload_n 0, 1) := by decide +kernel
theorem dX11_flowTable_71 : decode cX11_flowTable 71 = .ok (.getfield 87, 3) := by decide +kernel
theorem dX11_flowTable_74 : decode cX11_flowTable 74 = .ok (.invokevirtual 146, 3) := by decide +kernel
theorem dX11_flowTable_77 : decode cX11_flowTable 77 = .ok (.iconst 0, 1) := by decide +kernel
theorem dX11_flowTable_78 : decode cX11_flowTable 78 = .ok (.istore_n 2, 1) := by decide +kernel
theorem dX11_flowTable_79 : decode cX11_flowTable 79 = .ok (.iload_n 2, 1) := by decide +kernel
theorem dX11_flowTable_80 : decode cX11_flowTable 80 = .ok (.aload_n 0, 1) := by decide +kernel
theorem dX11_flowTable_81 : decode cX11_flowTable 81 = .ok (.getfield 87, 3) := by decide +kernel
theorem dX11_flowTable_84 : decode cX11_flowTable 84 = .ok (.if_icmp .ge 19, 3) := by decide +kernel
theorem dX11_flowTable_87 : decode cX11_flowTable 87 = .ok (.aload_n 0, 1) := by decide +kernel
theorem dX11_flowTable_88 : decode cX11_flowTable 88 = .ok (.aload_n 0, 1) := by decide +kernel
theorem dX11_flowTable_89 : decode cX11_flowTable 89 = .ok (.getfield 13, 3) := by decide +kernel
theorem dX11_flowTable_92 : decode cX11_flowTable 92 = .ok (.iload_n 2, 1) := by decide +kernel
theorem dX11_flowTable_93 : decode cX11_flowTable 93 = .ok (.iaload, 1) := by decide +kernel
theorem dX11_flowTable_94 : decode cX11_flowTable 94 = .ok (.invokevirtual 146, 3) := by decide +kernel
theorem dX11_flowTable_97 : decode cX11_flowTable 97 = .ok (.iinc 2 1, 3) := by decide +kernel
theorem dX11_flowTable_100 : decode cX11_flowTable 100 = .ok (.goto (-21), 3) := by decide +kernel
theorem dX11_flowTable_103 : decode cX11_flowTable 103 = .ok (.iconst 0, 1) := by decide +kernel
theorem dX11_flowTable_104 : decode cX11_flowTable 104 = .ok (.istore_n 2, 1) := by decide +kernel
theorem dX11_flowTable_105 : decode cX11_flowTable 105 = .ok (.iload_n 2, 1) := by decide +kernel
theorem dX11_flowTable_106 : decode cX11_flowTable 106 = .ok (.aload_n 0, 1) := by decide +kernel
theorem dX11_flowTable_107 : decode cX11_flowTable 107 = .ok (.getfield 87, 3) := by decide +kernel
theorem dX11_flowTable_110 : decode cX11_flowTable 110 = .ok (.if_icmp .ge 83, 3) := by decide +kernel
theorem dX11_flowTable_113 : decode cX11_flowTable 113 = .ok (.iconst 0, 1) := by decide +kernel
theorem dX11_flowTable_114 : decode cX11_flowTable 114 = .ok (.istore_n 3, 1) := by decide +kernel
theorem dX11_flowTable_115 : decode cX11_flowTable 115 = .ok (.iload_n 3, 1) := by decide +kernel
theorem dX11_flowTable_116 : decode cX11_flowTable 116 = .ok (.aload_n 0, 1) := by decide +kernel
theorem dX11_flowTable_117 : decode cX11_flowTable 117 = .ok (.getfield 13, 3) := by decide +kernel
theorem dX11_flowTable_120 : decode cX11_flowTable 120 = .ok (.iload_n 2, 1) := by decide +kernel
theorem dX11_flowTable_121 : decode cX11_flowTable 121 = .ok (.iaload, 1) := by decide +kernel
theorem dX11_flowTable_122 : decode cX11_flowTable 122 = .ok (.if_icmp .ge 65, 3) := by decide +kernel
theorem dX11_flowTable_125 : decode cX11_flowTable 125 = .ok (.iconst 0, 1) := by decide +kernel
theorem dX11_flowTable_126 : decode cX11_flowTable 126 = .ok (.istore 4, 2) := by decide +kernel
theorem dX11_flowTable_128 : decode cX11_flowTable 128 = .ok (.iconst 0, 1) := by decide +kernel
theorem dX11_flowTable_129 : decode cX11_flowTable 129 = .ok (.istore 5, 2) := by decide +kernel
theorem dX11_flowTable_131 : decode cX11_flowTable 131 = .ok (.iload 5, 2) := by decide +kernel
theorem dX11_flowTable_133 : decode cX11_flowTable 133 = .ok (.aload_n 0, 1) := by decide +kernel
theorem dX11_flowTable_134 : decode cX11_flowTable 134 = .ok (.getfield 16, 3) := by decide +kernel
theorem dX11_flowTable_137 : decode cX11_flowTable 137 = .ok (.iload_n 2, 1) := by decide +kernel
theorem dX11_flowTable_138 : decode cX11_flowTable 138 = .ok (.iaload, 1) := by decide +kernel
theorem dX11_flowTable_139 : decode cX11_flowTable 139 = .ok (.if_icmp .ge 36, 3) := by decide +kernel
theorem dX11_flowTable_142 : decode cX11_flowTable 142 = .ok (.aload_n 0, 1) := by decide +kernel
theorem dX11_flowTable_143 : decode cX11_flowTable 143 = .ok (.getfield 29, 3) := by decide +kernel
theorem dX11_flowTable_146 : decode cX11_flowTable 146 = .ok (.bipush 16, 2) := by decide +kernel
theorem dX11_flowTable_148 : decode cX11_flowTable 148 = .ok (.iload_n 2, 1) := by decide +kernel
theorem dX11_flowTable_149 : decode cX11_flowTable 149 = .ok (.imul, 1) := by decide +kernel
theorem dX11_flowTable_150 : decode cX11_flowTable 150 = .ok (.iload 5, 2) := by decide +kernel
theorem dX11_flowTable_152 : decode cX11_flowTable 152 = .ok (.iadd, 1) := by decide +kernel
theorem dX11_flowTable_153 : decode cX11_flowTable 153 = .ok (.iaload, 1) := by decide +kernel
theorem dX11_flowTable_154 : decode cX11_flowTable 154 = .ok (.iload_n 3, 1) := by decide +kernel
theorem dX11_flowTable_155 : decode cX11_flowTable 155 = .ok (.if_icmp .ne 10, 3) := by decide +kernel
theorem dX11_flowTable_158 : decode cX11_flowTable 158 = .ok (.iload 4, 2) := by decide +kernel
theorem dX11_flowTable_160 : decode cX11_flowTable 160 = .ok (.iconst 1, 1) := by decide +kernel
theorem dX11_flowTable_161 : decode cX11_flowTable 161 = .ok (.iadd, 1) := by decide +kernel
theorem dX11_flowTable_162 : decode cX11_flowTable 162 = .ok (.goto 5, 3) := by decide +kernel
theorem dX11_flowTable_165 : decode cX11_flowTable 165 = .ok (.iload 4, 2) := by decide +kernel
theorem dX11_flowTable_167 : decode cX11_flowTable 167 = .ok (.istore 4, 2) := by decide +kernel
theorem dX11_flowTable_169 : decode cX11_flowTable 169 = .ok (.iinc 5 1, 3) := by decide +kernel
theorem dX11_flowTable_172 : decode cX11_flowTable 172 = .ok (.goto (-41), 3) := by decide +kernel
theorem dX11_flowTable_175 : decode cX11_flowTable 175 = .ok (.aload_n 0, 1) := by decide +kernel
theorem dX11_flowTable_176 : decode cX11_flowTable 176 = .ok (.iload 4, 2) := by decide +kernel
theorem dX11_flowTable_178 : decode cX11_flowTable 178 = .ok (.invokevirtual 152, 3) := by decide +kernel
theorem dX11_flowTable_181 : decode cX11_flowTable 181 = .ok (.iinc 3 1, 3) := by decide +kernel
theorem dX11_flowTable_184 : decode cX11_flowTable 184 = .ok (.goto (-69), 3) := by decide +kernel
theorem dX11_flowTable_187 : decode cX11_flowTable 187 = .ok (.iinc 2 1, 3) := by decide +kernel
theorem dX11_flowTable_190 : decode cX11_flowTable 190 = .ok (.goto (-85), 3) := by decide +kernel
theorem dX11_flowTable_193 : decode cX11_flowTable 193 = .ok (.iconst 0, 1) := by decide +kernel
theorem dX11_flowTable_194 : decode cX11_flowTable 194 = .ok (.istore_n 2, 1) := by decide +kernel
theorem dX11_flowTable_195 : decode cX11_flowTable 195 = .ok (.iload_n 2, 1) := by decide +kernel
theorem dX11_flowTable_196 : decode cX11_flowTable 196 = .ok (.aload_n 0, 1) := by decide +kernel
theorem dX11_flowTable_197 : decode cX11_flowTable 197 = .ok (.getfield 87, 3) := by decide +kernel
theorem dX11_flowTable_200 : decode cX11_flowTable 200 = .ok (.if_icmp .ge 59, 3) := by decide +kernel
theorem dX11_flowTable_203 : decode cX11_flowTable 203 = .ok (.iconst 0, 1) := by decide +kernel
theorem dX11_flowTable_204 : decode cX11_flowTable 204 = .ok (.istore_n 3, 1) := by decide +kernel
theorem dX11_flowTable_205 : decode cX11_flowTable 205 = .ok (.iload_n 3, 1) := by decide +kernel
theorem dX11_flowTable_206 : decode cX11_flowTable 206 = .ok (.aload_n 0, 1) := by decide +kernel
theorem dX11_flowTable_207 : decode cX11_flowTable 207 = .ok (.getfield 16, 3) := by decide +kernel
theorem dX11_flowTable_210 : decode cX11_flowTable 210 = .ok (.iload_n 2, 1) := by decide +kernel
theorem dX11_flowTable_211 : decode cX11_flowTable 211 = .ok (.iaload, 1) := by decide +kernel
theorem dX11_flowTable_212 : decode cX11_flowTable 212 = .ok (.if_icmp .ge 41, 3) := by decide +kernel
theorem dX11_flowTable_215 : decode cX11_flowTable 215 = .ok (.aload_n 0, 1) := by decide +kernel
theorem dX11_flowTable_216 : decode cX11_flowTable 216 = .ok (.aload_n 0, 1) := by decide +kernel
theorem dX11_flowTable_217 : decode cX11_flowTable 217 = .ok (.iload_n 2, 1) := by decide +kernel
theorem dX11_flowTable_218 : decode cX11_flowTable 218 = .ok (.iload_n 3, 1) := by decide +kernel
theorem dX11_flowTable_219 : decode cX11_flowTable 219 = .ok (.invokevirtual 149, 3) := by decide +kernel
theorem dX11_flowTable_222 : decode cX11_flowTable 222 = .ok (.aload_n 0, 1) := by decide +kernel
theorem dX11_flowTable_223 : decode cX11_flowTable 223 = .ok (.getfield 25, 3) := by decide +kernel
theorem dX11_flowTable_226 : decode cX11_flowTable 226 = .ok (.bipush 16, 2) := by decide +kernel
theorem dX11_flowTable_228 : decode cX11_flowTable 228 = .ok (.iload_n 2, 1) := by decide +kernel
theorem dX11_flowTable_229 : decode cX11_flowTable 229 = .ok (.imul, 1) := by decide +kernel
theorem dX11_flowTable_230 : decode cX11_flowTable 230 = .ok (.iload_n 3, 1) := by decide +kernel
theorem dX11_flowTable_231 : decode cX11_flowTable 231 = .ok (.iadd, 1) := by decide +kernel
theorem dX11_flowTable_232 : decode cX11_flowTable 232 = .ok (.baload, 1) := by decide +kernel
theorem dX11_flowTable_233 : decode cX11_flowTable 233 = .ok (.ifCond .eq 7, 3) := by decide +kernel
theorem dX11_flowTable_236 : decode cX11_flowTable 236 = .ok (.iconst 0, 1) := by decide +kernel
theorem dX11_flowTable_237 : decode cX11_flowTable 237 = .ok (.goto 6, 3) := by decide +kernel
theorem dX11_flowTable_240 : decode cX11_flowTable 240 = .ok (.sipush 128, 3) := by decide +kernel
theorem dX11_flowTable_243 : decode cX11_flowTable 243 = .ok (.iadd, 1) := by decide +kernel
theorem dX11_flowTable_244 : decode cX11_flowTable 244 = .ok (.invokevirtual 146, 3) := by decide +kernel
theorem dX11_flowTable_247 : decode cX11_flowTable 247 = .ok (.iinc 3 1, 3) := by decide +kernel
theorem dX11_flowTable_250 : decode cX11_flowTable 250 = .ok (.goto (-45), 3) := by decide +kernel
theorem dX11_flowTable_253 : decode cX11_flowTable 253 = .ok (.iinc 2 1, 3) := by decide +kernel
theorem dX11_flowTable_256 : decode cX11_flowTable 256 = .ok (.goto (-61), 3) := by decide +kernel
theorem dX11_flowTable_259 : decode cX11_flowTable 259 = .ok (.iconst 0, 1) := by decide +kernel
theorem dX11_flowTable_260 : decode cX11_flowTable 260 = .ok (.istore_n 2, 1) := by decide +kernel
theorem dX11_flowTable_261 : decode cX11_flowTable 261 = .ok (.iload_n 2, 1) := by decide +kernel
theorem dX11_flowTable_262 : decode cX11_flowTable 262 = .ok (.aload_n 0, 1) := by decide +kernel
theorem dX11_flowTable_263 : decode cX11_flowTable 263 = .ok (.getfield 87, 3) := by decide +kernel
theorem dX11_flowTable_266 : decode cX11_flowTable 266 = .ok (.if_icmp .ge 33, 3) := by decide +kernel
theorem dX11_flowTable_269 : decode cX11_flowTable 269 = .ok (.iconst 0, 1) := by decide +kernel
theorem dX11_flowTable_270 : decode cX11_flowTable 270 = .ok (.istore_n 3, 1) := by decide +kernel
theorem dX11_flowTable_271 : decode cX11_flowTable 271 = .ok (.iload_n 3, 1) := by decide +kernel
theorem dX11_flowTable_272 : decode cX11_flowTable 272 = .ok (.aload_n 0, 1) := by decide +kernel
theorem dX11_flowTable_273 : decode cX11_flowTable 273 = .ok (.getfield 16, 3) := by decide +kernel
theorem dX11_flowTable_276 : decode cX11_flowTable 276 = .ok (.iload_n 2, 1) := by decide +kernel
theorem dX11_flowTable_277 : decode cX11_flowTable 277 = .ok (.iaload, 1) := by decide +kernel
theorem dX11_flowTable_278 : decode cX11_flowTable 278 = .ok (.if_icmp .ge 15, 3) := by decide +kernel
theorem dX11_flowTable_281 : decode cX11_flowTable 281 = .ok (.aload_n 0, 1) := by decide +kernel
theorem dX11_flowTable_282 : decode cX11_flowTable 282 = .ok (.iload_n 2, 1) := by decide +kernel
theorem dX11_flowTable_283 : decode cX11_flowTable 283 = .ok (.iload_n 3, 1) := by decide +kernel
theorem dX11_flowTable_284 : decode cX11_flowTable 284 = .ok (.invokevirtual 155, 3) := by decide +kernel
theorem dX11_flowTable_287 : decode cX11_flowTable 287 = .ok (.iinc 3 1, 3) := by decide +kernel
theorem dX11_flowTable_290 : decode cX11_flowTable 290 = .ok (.goto (-19), 3) := by decide +kernel
theorem dX11_flowTable_293 : decode cX11_flowTable 293 = .ok (.iinc 2 1, 3) := by decide +kernel
theorem dX11_flowTable_296 : decode cX11_flowTable 296 = .ok (.goto (-35), 3) := by decide +kernel
theorem dX11_flowTable_299 : decode cX11_flowTable 299 = .ok (.return_, 1) := by decide +kernel
theorem dX11_bit_0 : decode cX11_bit 0 = .ok (.aload_n 0, 1) := by decide +kernel
theorem dX11_bit_1 : decode cX11_bit 1 = .ok (.iconst 2, 1) := by decide +kernel
theorem dX11_bit_2 : decode cX11_bit 2 = .ok (.aload_n 0, 1) := by decide +kernel
theorem dX11_bit_3 : decode cX11_bit 3 = .ok (.getfield 159, 3) := by decide +kernel
theorem dX11_bit_6 : decode cX11_bit 6 = .ok (.imul, 1) := by decide +kernel
theorem dX11_bit_7 : decode cX11_bit 7 = .ok (.iload_n 1, 1) := by decide +kernel
theorem dX11_bit_8 : decode cX11_bit 8 = .ok (.iadd, 1) := by decide +kernel
theorem dX11_bit_9 : decode cX11_bit 9 = .ok (.putfield 159, 3) := by decide +kernel
theorem dX11_bit_12 : decode cX11_bit 12 = .ok (.aload_n 0, 1) := by decide +kernel
theorem dX11_bit_13 : decode cX11_bit 13 = .ok (.dup, 1) := by decide +kernel
theorem dX11_bit_14 : decode cX11_bit 14 = .ok (.getfield 162, 3) := by decide +kernel
theorem dX11_bit_17 : decode cX11_bit 17 = .ok (.iconst 1, 1) := by decide +kernel
theorem dX11_bit_18 : decode cX11_bit 18 = .ok (.iadd, 1) := by decide +kernel
theorem dX11_bit_19 : decode cX11_bit 19 = .ok (.putfield 162, 3) := by decide +kernel
theorem dX11_bit_22 : decode cX11_bit 22 = .ok (.aload_n 0, 1) := by decide +kernel
theorem dX11_bit_23 : decode cX11_bit 23 = .ok (.getfield 162, 3) := by decide +kernel
theorem dX11_bit_26 : decode cX11_bit 26 = .ok (.bipush 8, 2) := by decide +kernel
theorem dX11_bit_28 : decode cX11_bit 28 = .ok (.if_icmp .ne 21, 3) := by decide +kernel
theorem dX11_bit_31 : decode cX11_bit 31 = .ok (.aload_n 0, 1) := by decide +kernel
theorem dX11_bit_32 : decode cX11_bit 32 = .ok (.aload_n 0, 1) := by decide +kernel
theorem dX11_bit_33 : decode cX11_bit 33 = .ok (.getfield 159, 3) := by decide +kernel
theorem dX11_bit_36 : decode cX11_bit 36 = .ok (.invokevirtual 140, 3) := by decide +kernel
theorem dX11_bit_39 : decode cX11_bit 39 = .ok (.aload_n 0, 1) := by decide +kernel
theorem dX11_bit_40 : decode cX11_bit 40 = .ok (.iconst 0, 1) := by decide +kernel
theorem dX11_bit_41 : decode cX11_bit 41 = .ok (.putfield 159, 3) := by decide +kernel
theorem dX11_bit_44 : decode cX11_bit 44 = .ok (.aload_n 0, 1) := by decide +kernel
theorem dX11_bit_45 : decode cX11_bit 45 = .ok (.iconst 0, 1) := by decide +kernel
theorem dX11_bit_46 : decode cX11_bit 46 = .ok (.putfield 162, 3) := by decide +kernel
theorem dX11_bit_49 : decode cX11_bit 49 = .ok (.return_, 1) := by decide +kernel
theorem dX11_bits_0 : decode cX11_bits 0 = .ok (.iload_n 2, 1) := by decide +kernel
theorem dX11_bits_1 : decode cX11_bits 1 = .ok (.iconst 1, 1) := by decide +kernel
theorem dX11_bits_2 : decode cX11_bits 2 = .ok (.isub, 1) := by decide +kernel
theorem dX11_bits_3 : decode cX11_bits 3 = .ok (.istore_n 3, 1) := by decide +kernel
theorem dX11_bits_4 : decode cX11_bits 4 = .ok (.iload_n 3, 1) := by decide +kernel
theorem dX11_bits_5 : decode cX11_bits 5 = .ok (.ifCond .lt 18, 3) := by decide +kernel
theorem dX11_bits_8 : decode cX11_bits 8 = .ok (.aload_n 0, 1) := by decide +kernel
theorem dX11_bits_9 : decode cX11_bits 9 = .ok (.iload_n 1, 1) := by decide +kernel
theorem dX11_bits_10 : decode cX11_bits 10 = .ok (.iload_n 3, 1) := by decide +kernel
theorem dX11_bits_11 : decode cX11_bits 11 = .ok (.ishr, 1) := by decide +kernel
theorem dX11_bits_12 : decode cX11_bits 12 = .ok (.iconst 1, 1) := by decide +kernel
theorem dX11_bits_13 : decode cX11_bits 13 = .ok (.iand, 1) := by decide +kernel
theorem dX11_bits_14 : decode cX11_bits 14 = .ok (.invokevirtual 165, 3) := by decide +kernel
theorem dX11_bits_17 : decode cX11_bits 17 = .ok (.iinc 3 (-1), 3) := by decide +kernel
theorem dX11_bits_20 : decode cX11_bits 20 = .ok (.goto (-16), 3) := by decide +kernel
theorem dX11_bits_23 : decode cX11_bits 23 = .ok (.return_, 1) := by decide +kernel
theorem dX11_gamma_0 : decode cX11_gamma 0 = .ok (.iconst 0, 1) := by decide +kernel
theorem dX11_gamma_1 : decode cX11_gamma 1 = .ok (.istore_n 2, 1) := by decide +kernel
theorem dX11_gamma_2 : decode cX11_gamma 2 = .ok (.iload_n 1, 1) := by decide +kernel
theorem dX11_gamma_3 : decode cX11_gamma 3 = .ok (.iload_n 2, 1) := by decide +kernel
theorem dX11_gamma_4 : decode cX11_gamma 4 = .ok (.ishr, 1) := by decide +kernel
theorem dX11_gamma_5 : decode cX11_gamma 5 = .ok (.iconst 1, 1) := by decide +kernel
theorem dX11_gamma_6 : decode cX11_gamma 6 = .ok (.if_icmp .le 9, 3) := by decide +kernel
theorem dX11_gamma_9 : decode cX11_gamma 9 = .ok (.iinc 2 1, 3) := by decide +kernel
theorem dX11_gamma_12 : decode cX11_gamma 12 = .ok (.goto (-10), 3) := by decide +kernel
theorem dX11_gamma_15 : decode cX11_gamma 15 = .ok (.aload_n 0, 1) := by decide +kernel
theorem dX11_gamma_16 : decode cX11_gamma 16 = .ok (.iconst 0, 1) := by decide +kernel
theorem dX11_gamma_17 : decode cX11_gamma 17 = .ok (.iload_n 2, 1) := by decide +kernel
theorem dX11_gamma_18 : decode cX11_gamma 18 = .ok (.invokevirtual 168, 3) := by decide +kernel
theorem dX11_gamma_21 : decode cX11_gamma 21 = .ok (.aload_n 0, 1) := by decide +kernel
theorem dX11_gamma_22 : decode cX11_gamma 22 = .ok (.iload_n 1, 1) := by decide +kernel
theorem dX11_gamma_23 : decode cX11_gamma 23 = .ok (.iload_n 2, 1) := by decide +kernel
theorem dX11_gamma_24 : decode cX11_gamma 24 = .ok (.iconst 1, 1) := by decide +kernel
theorem dX11_gamma_25 : decode cX11_gamma 25 = .ok (.iadd, 1) := by decide +kernel
theorem dX11_gamma_26 : decode cX11_gamma 26 = .ok (.invokevirtual 168, 3) := by decide +kernel
theorem dX11_gamma_29 : decode cX11_gamma 29 = .ok (.return_, 1) := by decide +kernel
theorem dX11_alike_0 : decode cX11_alike 0 = .ok (.iconst 0, 1) := by decide +kernel
theorem dX11_alike_1 : decode cX11_alike 1 = .ok (.istore_n 3, 1) := by decide +kernel
theorem dX11_alike_2 : decode cX11_alike 2 = .ok (.iload_n 1, 1) := by decide +kernel
theorem dX11_alike_3 : decode cX11_alike 3 = .ok (.iload_n 3, 1) := by decide +kernel
theorem dX11_alike_4 : decode cX11_alike 4 = .ok (.iadd, 1) := by decide +kernel
theorem dX11_alike_5 : decode cX11_alike 5 = .ok (.aload_n 0, 1) := by decide +kernel
theorem dX11_alike_6 : decode cX11_alike 6 = .ok (.getfield 143, 3) := by decide +kernel
theorem dX11_alike_9 : decode cX11_alike 9 = .ok (.if_icmp .ge 30, 3) := by decide +kernel
theorem dX11_alike_12 : decode cX11_alike 12 = .ok (.aload_n 0, 1) := by decide +kernel
theorem dX11_alike_13 : decode cX11_alike 13 = .ok (.getfield 71, 3) := by decide +kernel
theorem dX11_alike_16 : decode cX11_alike 16 = .ok (.iload_n 1, 1) := by decide +kernel
theorem dX11_alike_17 : decode cX11_alike 17 = .ok (.iload_n 3, 1) := by decide +kernel
theorem dX11_alike_18 : decode cX11_alike 18 = .ok (.iadd, 1) := by decide +kernel
theorem dX11_alike_19 : decode cX11_alike 19 = .ok (.iaload, 1) := by decide +kernel
theorem dX11_alike_20 : decode cX11_alike 20 = .ok (.aload_n 0, 1) := by decide +kernel
theorem dX11_alike_21 : decode cX11_alike 21 = .ok (.getfield 71, 3) := by decide +kernel
theorem dX11_alike_24 : decode cX11_alike 24 = .ok (.iload_n 1, 1) := by decide +kernel
theorem dX11_alike_25 : decode cX11_alike 25 = .ok (.iload_n 3, 1) := by decide +kernel
theorem dX11_alike_26 : decode cX11_alike 26 = .ok (.iadd, 1) := by decide +kernel
theorem dX11_alike_27 : decode cX11_alike 27 = .ok (.iload_n 2, 1) := by decide +kernel
theorem dX11_alike_28 : decode cX11_alike 28 = .ok (.isub, 1) := by decide +kernel
theorem dX11_alike_29 : decode cX11_alike 29 = .ok (.iaload, 1) := by decide +kernel
theorem dX11_alike_30 : decode cX11_alike 30 = .ok (.if_icmp .ne 9, 3) := by decide +kernel
theorem dX11_alike_33 : decode cX11_alike 33 = .ok (.iinc 3 1, 3) := by decide +kernel
theorem dX11_alike_36 : decode cX11_alike 36 = .ok (.goto (-34), 3) := by decide +kernel
theorem dX11_alike_39 : decode cX11_alike 39 = .ok (.iload_n 3, 1) := by decide +kernel
theorem dX11_alike_40 : decode cX11_alike 40 = .ok (.ireturn, 1) := by decide +kernel
theorem dX11_compress_0 : decode cX11_compress 0 = .ok (.aload_n 0, 1) := by decide +kernel
theorem dX11_compress_1 : decode cX11_compress 1 = .ok (.iconst 0, 1) := by decide +kernel
theorem dX11_compress_2 : decode cX11_compress 2 = .ok (.putfield 159, 3) := by decide +kernel
theorem dX11_compress_5 : decode cX11_compress 5 = .ok (.aload_n 0, 1) := by decide +kernel
theorem dX11_compress_6 : decode cX11_compress 6 = .ok (.iconst 0, 1) := by decide +kernel
theorem dX11_compress_7 : decode cX11_compress 7 = .ok (.putfield 162, 3) := by decide +kernel
theorem dX11_compress_10 : decode cX11_compress 10 = .ok (.iconst 0, 1) := by decide +kernel
theorem dX11_compress_11 : decode cX11_compress 11 = .ok (.istore_n 1, 1) := by decide +kernel
theorem dX11_compress_12 : decode cX11_compress 12 = .ok (.iload_n 1, 1) := by decide +kernel
theorem dX11_compress_13 : decode cX11_compress 13 = .ok (.aload_n 0, 1) := by decide +kernel
theorem dX11_compress_14 : decode cX11_compress 14 = .ok (.getfield 143, 3) := by decide +kernel
theorem dX11_compress_17 : decode cX11_compress 17 = .ok (.if_icmp .ge 104, 3) := by decide +kernel
theorem dX11_compress_20 : decode cX11_compress 20 = .ok (.iconst 0, 1) := by decide +kernel
theorem dX11_compress_21 : decode cX11_compress 21 = .ok (.istore_n 2, 1) := by decide +kernel
theorem dX11_compress_22 : decode cX11_compress 22 = .ok (.iconst 0, 1) := by decide +kernel
theorem dX11_compress_23 : decode cX11_compress 23 = .ok (.istore_n 3, 1) := by decide +kernel
theorem dX11_compress_24 : decode cX11_compress 24 = .ok (.iload_n 1, 1) := by decide +kernel
theorem dX11_compress_25 : decode cX11_compress 25 = .ok (.istore 4, 2) := by decide +kernel
theorem dX11_compress_27 : decode cX11_compress 27 = .ok (.iload 4, 2) := by decide +kernel
theorem dX11_compress_29 : decode cX11_compress 29 = .ok (.iconst 1, 1) := by decide +kernel
theorem dX11_compress_30 : decode cX11_compress 30 = .ok (.if_icmp .lt 44, 3) := by decide +kernel
theorem dX11_compress_33 : decode cX11_compress 33 = .ok (.aload_n 0, 1) := by decide +kernel
theorem dX11_compress_34 : decode cX11_compress 34 = .ok (.iload_n 1, 1) := by decide +kernel
theorem dX11_compress_35 : decode cX11_compress 35 = .ok (.iload 4, 2) := by decide +kernel
theorem dX11_compress_37 : decode cX11_compress 37 = .ok (.invokevirtual 171, 3) := by decide +kernel
theorem dX11_compress_40 : decode cX11_compress 40 = .ok (.istore 5, 2) := by decide +kernel
theorem dX11_compress_42 : decode cX11_compress 42 = .ok (.iload 5, 2) := by decide +kernel
theorem dX11_compress_44 : decode cX11_compress 44 = .ok (.iload_n 2, 1) := by decide +kernel
theorem dX11_compress_45 : decode cX11_compress 45 = .ok (.if_icmp .lt 8, 3) := by decide +kernel
theorem dX11_compress_48 : decode cX11_compress 48 = .ok (.iload 4, 2) := by decide +kernel
theorem dX11_compress_50 : decode cX11_compress 50 = .ok (.goto 4, 3) := by decide +kernel
theorem dX11_compress_53 : decode cX11_compress 53 = .ok (.iload_n 3, 1) := by decide +kernel
theorem dX11_compress_54 : decode cX11_compress 54 = .ok (.istore_n 3, 1) := by decide +kernel
theorem dX11_compress_55 : decode cX11_compress 55 = .ok (.iload 5, 2) := by decide +kernel
theorem dX11_compress_57 : decode cX11_compress 57 = .ok (.iload_n 2, 1) := by decide +kernel
theorem dX11_compress_58 : decode cX11_compress 58 = .ok (.if_icmp .lt 8, 3) := by decide +kernel
theorem dX11_compress_61 : decode cX11_compress 61 = .ok (.iload 5, 2) := by decide +kernel
theorem dX11_compress_63 : decode cX11_compress 63 = .ok (.goto 4, 3) := by decide +kernel
theorem dX11_compress_66 : decode cX11_compress 66 = .ok (.iload_n 2, 1) := by decide +kernel
theorem dX11_compress_67 : decode cX11_compress 67 = .ok (.istore_n 2, 1) := by decide +kernel
theorem dX11_compress_68 : decode cX11_compress 68 = .ok (.iinc 4 (-1), 3) := by decide +kernel
theorem dX11_compress_71 : decode cX11_compress 71 = .ok (.goto (-44), 3) := by decide +kernel
theorem dX11_compress_74 : decode cX11_compress 74 = .ok (.iload_n 2, 1) := by decide +kernel
theorem dX11_compress_75 : decode cX11_compress 75 = .ok (.iconst 2, 1) := by decide +kernel
theorem dX11_compress_76 : decode cX11_compress 76 = .ok (.if_icmp .le 27, 3) := by decide +kernel
theorem dX11_compress_79 : decode cX11_compress 79 = .ok (.aload_n 0, 1) := by decide +kernel
theorem dX11_compress_80 : decode cX11_compress 80 = .ok (.iconst 1, 1) := by decide +kernel
theorem dX11_compress_81 : decode cX11_compress 81 = .ok (.invokevirtual 165, 3) := by decide +kernel
theorem dX11_compress_84 : decode cX11_compress 84 = .ok (.aload_n 0, 1) := by decide +kernel
theorem dX11_compress_85 : decode cX11_compress 85 = .ok (.iload_n 2, 1) := by decide +kernel
theorem dX11_compress_86 : decode cX11_compress 86 = .ok (.iconst 2, 1) := by decide +kernel
theorem dX11_compress_87 : decode cX11_compress 87 = .ok (.isub, 1) := by decide +kernel
theorem dX11_compress_88 : decode cX11_compress 88 = .ok (.invokevirtual 174, 3) := by decide +kernel
theorem dX11_compress_91 : decode cX11_compress 91 = .ok (.aload_n 0, 1) := by decide +kernel
theorem dX11_compress_92 : decode cX11_compress 92 = .ok (.iload_n 3, 1) := by decide +kernel
theorem dX11_compress_93 : decode cX11_compress 93 = .ok (.invokevirtual 174, 3) := by decide +kernel
theorem dX11_compress_96 : decode cX11_compress 96 = .ok (.iload_n 1, 1) := by decide +kernel
theorem dX11_compress_97 : decode cX11_compress 97 = .ok (.iload_n 2, 1) := by decide +kernel
theorem dX11_compress_98 : decode cX11_compress 98 = .ok (.iadd, 1) := by decide +kernel
theorem dX11_compress_99 : decode cX11_compress 99 = .ok (.istore_n 1, 1) := by decide +kernel
theorem dX11_compress_100 : decode cX11_compress 100 = .ok (.goto 18, 3) := by decide +kernel
theorem dX11_compress_103 : decode cX11_compress 103 = .ok (.aload_n 0, 1) := by decide +kernel
theorem dX11_compress_104 : decode cX11_compress 104 = .ok (.aload_n 0, 1) := by decide +kernel
theorem dX11_compress_105 : decode cX11_compress 105 = .ok (.getfield 71, 3) := by decide +kernel
theorem dX11_compress_108 : decode cX11_compress 108 = .ok (.iload_n 1, 1) := by decide +kernel
theorem dX11_compress_109 : decode cX11_compress 109 = .ok (.iaload, 1) := by decide +kernel
theorem dX11_compress_110 : decode cX11_compress 110 = .ok (.bipush 9, 2) := by decide +kernel
theorem dX11_compress_112 : decode cX11_compress 112 = .ok (.invokevirtual 168, 3) := by decide +kernel
theorem dX11_compress_115 : decode cX11_compress 115 = .ok (.iinc 1 1, 3) := by decide +kernel
theorem dX11_compress_118 : decode cX11_compress 118 = .ok (.goto (-106), 3) := by decide +kernel
theorem dX11_compress_121 : decode cX11_compress 121 = .ok (.aload_n 0, 1) := by decide +kernel
theorem dX11_compress_122 : decode cX11_compress 122 = .ok (.getfield 162, 3) := by decide +kernel
theorem dX11_compress_125 : decode cX11_compress 125 = .ok (.ifCond .le 11, 3) := by decide +kernel
theorem dX11_compress_128 : decode cX11_compress 128 = .ok (.aload_n 0, 1) := by decide +kernel
theorem dX11_compress_129 : decode cX11_compress 129 = .ok (.iconst 0, 1) := by decide +kernel
theorem dX11_compress_130 : decode cX11_compress 130 = .ok (.invokevirtual 165, 3) := by decide +kernel
theorem dX11_compress_133 : decode cX11_compress 133 = .ok (.goto (-12), 3) := by decide +kernel
theorem dX11_compress_136 : decode cX11_compress 136 = .ok (.return_, 1) := by decide +kernel
theorem dX11_pack_0 : decode cX11_pack 0 = .ok (.aload_n 0, 1) := by decide +kernel
theorem dX11_pack_1 : decode cX11_pack 1 = .ok (.aload_n 0, 1) := by decide +kernel
theorem dX11_pack_2 : decode cX11_pack 2 = .ok (.invokevirtual 94, 3) := by decide +kernel
theorem dX11_pack_5 : decode cX11_pack 5 = .ok (.ifCond .eq 7, 3) := by decide +kernel
theorem dX11_pack_8 : decode cX11_pack 8 = .ok (.iconst 1, 1) := by decide +kernel
theorem dX11_pack_9 : decode cX11_pack 9 = .ok (.goto 4, 3) := by decide +kernel
theorem dX11_pack_12 : decode cX11_pack 12 = .ok (.iconst 0, 1) := by decide +kernel
theorem dX11_pack_13 : decode cX11_pack 13 = .ok (.putfield 83, 3) := by decide +kernel
theorem dX11_pack_16 : decode cX11_pack 16 = .ok (.aload_n 0, 1) := by decide +kernel
theorem dX11_pack_17 : decode cX11_pack 17 = .ok (.getfield 83, 3) := by decide +kernel
theorem dX11_pack_20 : decode cX11_pack 20 = .ok (.ifCond .le 5, 3) := by decide +kernel
theorem dX11_pack_23 : decode cX11_pack 23 = .ok (.iconst 0, 1) := by decide +kernel
theorem dX11_pack_24 : decode cX11_pack 24 = .ok (.ireturn, 1) := by decide +kernel
theorem dX11_pack_25 : decode cX11_pack 25 = .ok (.aload_n 0, 1) := by decide +kernel
theorem dX11_pack_26 : decode cX11_pack 26 = .ok (.iconst 0, 1) := by decide +kernel
theorem dX11_pack_27 : decode cX11_pack 27 = .ok (.putfield 137, 3) := by decide +kernel
theorem dX11_pack_30 : decode cX11_pack 30 = .ok (.aload_n 0, 1) := by decide +kernel
theorem dX11_pack_31 : decode cX11_pack 31 = .ok (.iconst 0, 1) := by decide +kernel
theorem dX11_pack_32 : decode cX11_pack 32 = .ok (.putfield 143, 3) := by decide +kernel
theorem dX11_pack_35 : decode cX11_pack 35 = .ok (.aload_n 0, 1) := by decide +kernel
theorem dX11_pack_36 : decode cX11_pack 36 = .ok (.bipush 119, 2) := by decide +kernel
theorem dX11_pack_38 : decode cX11_pack 38 = .ok (.invokevirtual 140, 3) := by decide +kernel
theorem dX11_pack_41 : decode cX11_pack 41 = .ok (.aload_n 0, 1) := by decide +kernel
theorem dX11_pack_42 : decode cX11_pack 42 = .ok (.bipush 50, 2) := by decide +kernel
theorem dX11_pack_44 : decode cX11_pack 44 = .ok (.invokevirtual 140, 3) := by decide +kernel
theorem dX11_pack_47 : decode cX11_pack 47 = .ok (.aload_n 0, 1) := by decide +kernel
theorem dX11_pack_48 : decode cX11_pack 48 = .ok (.aload_n 0, 1) := by decide +kernel
theorem dX11_pack_49 : decode cX11_pack 49 = .ok (.invokevirtual 177, 3) := by decide +kernel
theorem dX11_pack_52 : decode cX11_pack 52 = .ok (.invokevirtual 140, 3) := by decide +kernel
theorem dX11_pack_55 : decode cX11_pack 55 = .ok (.iconst 0, 1) := by decide +kernel
theorem dX11_pack_56 : decode cX11_pack 56 = .ok (.istore_n 1, 1) := by decide +kernel
theorem dX11_pack_57 : decode cX11_pack 57 = .ok (.iload_n 1, 1) := by decide +kernel
theorem dX11_pack_58 : decode cX11_pack 58 = .ok (.bipush 7, 2) := by decide +kernel
theorem dX11_pack_60 : decode cX11_pack 60 = .ok (.if_icmp .ge 72, 3) := by decide +kernel
theorem dX11_pack_63 : decode cX11_pack 63 = .ok (.aload_n 0, 1) := by decide +kernel
theorem dX11_pack_64 : decode cX11_pack 64 = .ok (.iload_n 1, 1) := by decide +kernel
theorem dX11_pack_65 : decode cX11_pack 65 = .ok (.invokevirtual 104, 3) := by decide +kernel
theorem dX11_pack_68 : decode cX11_pack 68 = .ok (.ifCond .eq 58, 3) := by decide +kernel
theorem dX11_pack_71 : decode cX11_pack 71 = .ok (.aload_n 0, 1) := by decide +kernel
theorem dX11_pack_72 : decode cX11_pack 72 = .ok (.getfield 143, 3) := by decide +kernel
theorem dX11_pack_75 : decode cX11_pack 75 = .ok (.istore_n 2, 1) := by decide +kernel
theorem dX11_pack_76 : decode cX11_pack 76 = .ok (.aload_n 0, 1) := by decide +kernel
theorem dX11_pack_77 : decode cX11_pack 77 = .ok (.iload_n 1, 1) := by decide +kernel
theorem dX11_pack_78 : decode cX11_pack 78 = .ok (.invokevirtual 181, 3) := by decide +kernel
theorem dX11_pack_81 : decode cX11_pack 81 = .ok (.aload_n 0, 1) := by decide +kernel
theorem dX11_pack_82 : decode cX11_pack 82 = .ok (.iload_n 1, 1) := by decide +kernel
theorem dX11_pack_83 : decode cX11_pack 83 = .ok (.invokevirtual 184, 3) := by decide +kernel
theorem dX11_pack_86 : decode cX11_pack 86 = .ok (.aload_n 0, 1) := by decide +kernel
theorem dX11_pack_87 : decode cX11_pack 87 = .ok (.iload_n 1, 1) := by decide +kernel
theorem dX11_pack_88 : decode cX11_pack 88 = .ok (.iconst 2, 1) := by decide +kernel
theorem dX11_pack_89 : decode cX11_pack 89 = .ok (.if_icmp .ge 10, 3) := by decide +kernel
theorem dX11_pack_92 : decode cX11_pack 92 = .ok (.bipush 64, 2) := by decide +kernel
theorem dX11_pack_94 : decode cX11_pack 94 = .ok (.iload_n 1, 1) := by decide +kernel
theorem dX11_pack_95 : decode cX11_pack 95 = .ok (.iadd, 1) := by decide +kernel
theorem dX11_pack_96 : decode cX11_pack 96 = .ok (.goto 4, 3) := by decide +kernel
theorem dX11_pack_99 : decode cX11_pack 99 = .ok (.iload_n 1, 1) := by decide +kernel
theorem dX11_pack_100 : decode cX11_pack 100 = .ok (.invokevirtual 140, 3) := by decide +kernel
theorem dX11_pack_103 : decode cX11_pack 103 = .ok (.aload_n 0, 1) := by decide +kernel
theorem dX11_pack_104 : decode cX11_pack 104 = .ok (.aload_n 0, 1) := by decide +kernel
theorem dX11_pack_105 : decode cX11_pack 105 = .ok (.getfield 107, 3) := by decide +kernel
theorem dX11_pack_108 : decode cX11_pack 108 = .ok (.invokevirtual 187, 3) := by decide +kernel
theorem dX11_pack_111 : decode cX11_pack 111 = .ok (.iload_n 1, 1) := by decide +kernel
theorem dX11_pack_112 : decode cX11_pack 112 = .ok (.iconst 2, 1) := by decide +kernel
theorem dX11_pack_113 : decode cX11_pack 113 = .ok (.if_icmp .ge 13, 3) := by decide +kernel
theorem dX11_pack_116 : decode cX11_pack 116 = .ok (.aload_n 0, 1) := by decide +kernel
theorem dX11_pack_117 : decode cX11_pack 117 = .ok (.aload_n 0, 1) := by decide +kernel
theorem dX11_pack_118 : decode cX11_pack 118 = .ok (.getfield 143, 3) := by decide +kernel
theorem dX11_pack_121 : decode cX11_pack 121 = .ok (.iload_n 2, 1) := by decide +kernel
theorem dX11_pack_122 : decode cX11_pack 122 = .ok (.isub, 1) := by decide +kernel
theorem dX11_pack_123 : decode cX11_pack 123 = .ok (.invokevirtual 187, 3) := by decide +kernel
theorem dX11_pack_126 : decode cX11_pack 126 = .ok (.iinc 1 1, 3) := by decide +kernel
theorem dX11_pack_129 : decode cX11_pack 129 = .ok (.goto (-72), 3) := by decide +kernel
theorem dX11_pack_132 : decode cX11_pack 132 = .ok (.aload_n 0, 1) := by decide +kernel
theorem dX11_pack_133 : decode cX11_pack 133 = .ok (.aload_n 0, 1) := by decide +kernel
theorem dX11_pack_134 : decode cX11_pack 134 = .ok (.getfield 143, 3) := by decide +kernel
theorem dX11_pack_137 : decode cX11_pack 137 = .ok (.invokevirtual 187, 3) := by decide +kernel
theorem dX11_pack_140 : decode cX11_pack 140 = .ok (.aload_n 0, 1) := by decide +kernel
theorem dX11_pack_141 : decode cX11_pack 141 = .ok (.invokevirtual 190, 3) := by decide +kernel
theorem dX11_pack_144 : decode cX11_pack 144 = .ok (.aload_n 0, 1) := by decide +kernel
theorem dX11_pack_145 : decode cX11_pack 145 = .ok (.getfield 137, 3) := by decide +kernel
theorem dX11_pack_148 : decode cX11_pack 148 = .ok (.ireturn, 1) := by decide +kernel
theorem dX11_addFour_0 : decode cX11_addFour 0 = .ok (.iconst 3, 1) := by decide +kernel
theorem dX11_addFour_1 : decode cX11_addFour 1 = .ok (.istore_n 3, 1) := by decide +kernel
theorem dX11_addFour_2 : decode cX11_addFour 2 = .ok (.iload_n 3, 1) := by decide +kernel
theorem dX11_addFour_3 : decode cX11_addFour 3 = .ok (.ifCond .lt 24, 3) := by decide +kernel
theorem dX11_addFour_6 : decode cX11_addFour 6 = .ok (.aload_n 0, 1) := by decide +kernel
theorem dX11_addFour_7 : decode cX11_addFour 7 = .ok (.lload_n 1, 1) := by decide +kernel
theorem dX11_addFour_8 : decode cX11_addFour 8 = .ok (.bipush 8, 2) := by decide +kernel
theorem dX11_addFour_10 : decode cX11_addFour 10 = .ok (.iload_n 3, 1) := by decide +kernel
theorem dX11_addFour_11 : decode cX11_addFour 11 = .ok (.imul, 1) := by decide +kernel
theorem dX11_addFour_12 : decode cX11_addFour 12 = .ok (.lshr, 1) := by decide +kernel
theorem dX11_addFour_13 : decode cX11_addFour 13 = .ok (.ldc2_w 102, 3) := by decide +kernel
theorem dX11_addFour_16 : decode cX11_addFour 16 = .ok (.land, 1) := by decide +kernel
theorem dX11_addFour_17 : decode cX11_addFour 17 = .ok (.l2i, 1) := by decide +kernel
theorem dX11_addFour_18 : decode cX11_addFour 18 = .ok (.invokevirtual 140, 3) := by decide +kernel
theorem dX11_addFour_21 : decode cX11_addFour 21 = .ok (.iinc 3 (-1), 3) := by decide +kernel
theorem dX11_addFour_24 : decode cX11_addFour 24 = .ok (.goto (-22), 3) := by decide +kernel
theorem dX11_addFour_27 : decode cX11_addFour 27 = .ok (.return_, 1) := by decide +kernel
theorem dX11_plain_0 : decode cX11_plain 0 = .ok (.aload_n 0, 1) := by decide +kernel
theorem dX11_plain_1 : decode cX11_plain 1 = .ok (.aload_n 0, 1) := by decide +kernel
theorem dX11_plain_2 : decode cX11_plain 2 = .ok (.invokevirtual 94, 3) := by decide +kernel
theorem dX11_plain_5 : decode cX11_plain 5 = .ok (.ifCond .eq 7, 3) := by decide +kernel
theorem dX11_plain_8 : decode cX11_plain 8 = .ok (.iconst 1, 1) := by decide +kernel
theorem dX11_plain_9 : decode cX11_plain 9 = .ok (.goto 4, 3) := by decide +kernel
theorem dX11_plain_12 : decode cX11_plain 12 = .ok (.iconst 0, 1) := by decide +kernel
theorem dX11_plain_13 : decode cX11_plain 13 = .ok (.putfield 83, 3) := by decide +kernel
theorem dX11_plain_16 : decode cX11_plain 16 = .ok (.aload_n 0, 1) := by decide +kernel
theorem dX11_plain_17 : decode cX11_plain 17 = .ok (.getfield 83, 3) := by decide +kernel
theorem dX11_plain_20 : decode cX11_plain 20 = .ok (.ifCond .le 5, 3) := by decide +kernel
theorem dX11_plain_23 : decode cX11_plain 23 = .ok (.iconst 0, 1) := by decide +kernel
theorem dX11_plain_24 : decode cX11_plain 24 = .ok (.ireturn, 1) := by decide +kernel
theorem dX11_plain_25 : decode cX11_plain 25 = .ok (.aload_n 0, 1) := by decide +kernel
theorem dX11_plain_26 : decode cX11_plain 26 = .ok (.iconst 0, 1) := by decide +kernel
theorem dX11_plain_27 : decode cX11_plain 27 = .ok (.putfield 137, 3) := by decide +kernel
theorem dX11_plain_30 : decode cX11_plain 30 = .ok (.iconst 1, 1) := by decide +kernel
theorem dX11_plain_31 : decode cX11_plain 31 = .ok (.bipush 9, 2) := by decide +kernel
theorem dX11_plain_33 : decode cX11_plain 33 = .ok (.aload_n 0, 1) := by decide +kernel
theorem dX11_plain_34 : decode cX11_plain 34 = .ok (.invokevirtual 177, 3) := by decide +kernel
theorem dX11_plain_37 : decode cX11_plain 37 = .ok (.imul, 1) := by decide +kernel
theorem dX11_plain_38 : decode cX11_plain 38 = .ok (.iadd, 1) := by decide +kernel
theorem dX11_plain_39 : decode cX11_plain 39 = .ok (.istore_n 1, 1) := by decide +kernel
theorem dX11_plain_40 : decode cX11_plain 40 = .ok (.aload_n 0, 1) := by decide +kernel
theorem dX11_plain_41 : decode cX11_plain 41 = .ok (.aload_n 0, 1) := by decide +kernel
theorem dX11_plain_42 : decode cX11_plain 42 = .ok (.invokevirtual 177, 3) := by decide +kernel
theorem dX11_plain_45 : decode cX11_plain 45 = .ok (.invokevirtual 140, 3) := by decide +kernel
theorem dX11_plain_48 : decode cX11_plain 48 = .ok (.iconst 0, 1) := by decide +kernel
theorem dX11_plain_49 : decode cX11_plain 49 = .ok (.istore_n 2, 1) := by decide +kernel
theorem dX11_plain_50 : decode cX11_plain 50 = .ok (.iload_n 2, 1) := by decide +kernel
theorem dX11_plain_51 : decode cX11_plain 51 = .ok (.bipush 7, 2) := by decide +kernel
theorem dX11_plain_53 : decode cX11_plain 53 = .ok (.if_icmp .ge 158, 3) := by decide +kernel
theorem dX11_plain_56 : decode cX11_plain 56 = .ok (.aload_n 0, 1) := by decide +kernel
theorem dX11_plain_57 : decode cX11_plain 57 = .ok (.iload_n 2, 1) := by decide +kernel
theorem dX11_plain_58 : decode cX11_plain 58 = .ok (.invokevirtual 104, 3) := by decide +kernel
theorem dX11_plain_61 : decode cX11_plain 61 = .ok (.ifCond .eq 144, 3) := by decide +kernel
theorem dX11_plain_64 : decode cX11_plain 64 = .ok (.aload_n 0, 1) := by decide +kernel
theorem dX11_plain_65 : decode cX11_plain 65 = .ok (.iload_n 2, 1) := by decide +kernel
theorem dX11_plain_66 : decode cX11_plain 66 = .ok (.invokevirtual 184, 3) := by decide +kernel
theorem dX11_plain_69 : decode cX11_plain 69 = .ok (.aload_n 0, 1) := by decide +kernel
theorem dX11_plain_70 : decode cX11_plain 70 = .ok (.getfield 107, 3) := by decide +kernel
theorem dX11_plain_73 : decode cX11_plain 73 = .ok (.istore_n 3, 1) := by decide +kernel
theorem dX11_plain_74 : decode cX11_plain 74 = .ok (.aload_n 0, 1) := by decide +kernel
theorem dX11_plain_75 : decode cX11_plain 75 = .ok (.getfield 107, 3) := by decide +kernel
theorem dX11_plain_78 : decode cX11_plain 78 = .ok (.iconst 4, 1) := by decide +kernel
theorem dX11_plain_79 : decode cX11_plain 79 = .ok (.irem, 1) := by decide +kernel
theorem dX11_plain_80 : decode cX11_plain 80 = .ok (.ifCond .eq 11, 3) := by decide +kernel
theorem dX11_plain_83 : decode cX11_plain 83 = .ok (.aload_n 0, 1) := by decide +kernel
theorem dX11_plain_84 : decode cX11_plain 84 = .ok (.iconst 0, 1) := by decide +kernel
theorem dX11_plain_85 : decode cX11_plain 85 = .ok (.invokevirtual 121, 3) := by decide +kernel
theorem dX11_plain_88 : decode cX11_plain 88 = .ok (.goto (-14), 3) := by decide +kernel
theorem dX11_plain_91 : decode cX11_plain 91 = .ok (.lconst 0, 1) := by decide +kernel
theorem dX11_plain_92 : decode cX11_plain 92 = .ok (.lstore 4, 2) := by decide +kernel
theorem dX11_plain_94 : decode cX11_plain 94 = .ok (.iconst 0, 1) := by decide +kernel
theorem dX11_plain_95 : decode cX11_plain 95 = .ok (.istore 6, 2) := by decide +kernel
theorem dX11_plain_97 : decode cX11_plain 97 = .ok (.iload 6, 2) := by decide +kernel
theorem dX11_plain_99 : decode cX11_plain 99 = .ok (.aload_n 0, 1) := by decide +kernel
theorem dX11_plain_100 : decode cX11_plain 100 = .ok (.getfield 107, 3) := by decide +kernel
theorem dX11_plain_103 : decode cX11_plain 103 = .ok (.if_icmp .ge 67, 3) := by decide +kernel
theorem dX11_plain_106 : decode cX11_plain 106 = .ok (.lload 4, 2) := by decide +kernel
theorem dX11_plain_108 : decode cX11_plain 108 = .ok (.aload_n 0, 1) := by decide +kernel
theorem dX11_plain_109 : decode cX11_plain 109 = .ok (.getfield 74, 3) := by decide +kernel
theorem dX11_plain_112 : decode cX11_plain 112 = .ok (.iload 6, 2) := by decide +kernel
theorem dX11_plain_114 : decode cX11_plain 114 = .ok (.iaload, 1) := by decide +kernel
theorem dX11_plain_115 : decode cX11_plain 115 = .ok (.i2l, 1) := by decide +kernel
theorem dX11_plain_116 : decode cX11_plain 116 = .ok (.ldc2_w 193, 3) := by decide +kernel
theorem dX11_plain_119 : decode cX11_plain 119 = .ok (.lmul, 1) := by decide +kernel
theorem dX11_plain_120 : decode cX11_plain 120 = .ok (.aload_n 0, 1) := by decide +kernel
theorem dX11_plain_121 : decode cX11_plain 121 = .ok (.getfield 74, 3) := by decide +kernel
theorem dX11_plain_124 : decode cX11_plain 124 = .ok (.iload 6, 2) := by decide +kernel
theorem dX11_plain_126 : decode cX11_plain 126 = .ok (.iconst 1, 1) := by decide +kernel
theorem dX11_plain_127 : decode cX11_plain 127 = .ok (.iadd, 1) := by decide +kernel
theorem dX11_plain_128 : decode cX11_plain 128 = .ok (.iaload, 1) := by decide +kernel
theorem dX11_plain_129 : decode cX11_plain 129 = .ok (.i2l, 1) := by decide +kernel
theorem dX11_plain_130 : decode cX11_plain 130 = .ok (.ladd, 1) := by decide +kernel
theorem dX11_plain_131 : decode cX11_plain 131 = .ok (.ldc2_w 193, 3) := by decide +kernel
theorem dX11_plain_134 : decode cX11_plain 134 = .ok (.lmul, 1) := by decide +kernel
theorem dX11_plain_135 : decode cX11_plain 135 = .ok (.aload_n 0, 1) := by decide +kernel
theorem dX11_plain_136 : decode cX11_plain 136 = .ok (.getfield 74, 3) := by decide +kernel
theorem dX11_plain_139 : decode cX11_plain 139 = .ok (.iload 6, 2) := by decide +kernel
theorem dX11_plain_141 : decode cX11_plain 141 = .ok (.iconst 2, 1) := by decide +kernel
theorem dX11_plain_142 : decode cX11_plain 142 = .ok (.iadd, 1) := by decide +kernel
theorem dX11_plain_143 : decode cX11_plain 143 = .ok (.iaload, 1) := by decide +kernel
theorem dX11_plain_144 : decode cX11_plain 144 = .ok (.i2l, 1) := by decide +kernel
theorem dX11_plain_145 : decode cX11_plain 145 = .ok (.ladd, 1) := by decide +kernel
theorem dX11_plain_146 : decode cX11_plain 146 = .ok (.ldc2_w 193, 3) := by decide +kernel
theorem dX11_plain_149 : decode cX11_plain 149 = .ok (.lmul, 1) := by decide +kernel
theorem dX11_plain_150 : decode cX11_plain 150 = .ok (.aload_n 0, 1) := by decide +kernel
theorem dX11_plain_151 : decode cX11_plain 151 = .ok (.getfield 74, 3) := by decide +kernel
theorem dX11_plain_154 : decode cX11_plain 154 = .ok (.iload 6, 2) := by decide +kernel
theorem dX11_plain_156 : decode cX11_plain 156 = .ok (.iconst 3, 1) := by decide +kernel
theorem dX11_plain_157 : decode cX11_plain 157 = .ok (.iadd, 1) := by decide +kernel
theorem dX11_plain_158 : decode cX11_plain 158 = .ok (.iaload, 1) := by decide +kernel
theorem dX11_plain_159 : decode cX11_plain 159 = .ok (.i2l, 1) := by decide +kernel
theorem dX11_plain_160 : decode cX11_plain 160 = .ok (.ladd, 1) := by decide +kernel
theorem dX11_plain_161 : decode cX11_plain 161 = .ok (.ladd, 1) := by decide +kernel
theorem dX11_plain_162 : decode cX11_plain 162 = .ok (.lstore 4, 2) := by decide +kernel
theorem dX11_plain_164 : decode cX11_plain 164 = .ok (.iinc 6 4, 3) := by decide +kernel
theorem dX11_plain_167 : decode cX11_plain 167 = .ok (.goto (-70), 3) := by decide +kernel
theorem dX11_plain_170 : decode cX11_plain 170 = .ok (.aload_n 0, 1) := by decide +kernel
theorem dX11_plain_171 : decode cX11_plain 171 = .ok (.iload_n 2, 1) := by decide +kernel
theorem dX11_plain_172 : decode cX11_plain 172 = .ok (.invokevirtual 140, 3) := by decide +kernel
theorem dX11_plain_175 : decode cX11_plain 175 = .ok (.aload_n 0, 1) := by decide +kernel
theorem dX11_plain_176 : decode cX11_plain 176 = .ok (.lload 4, 2) := by decide +kernel
theorem dX11_plain_178 : decode cX11_plain 178 = .ok (.ldc2_w 195, 3) := by decide +kernel
theorem dX11_plain_181 : decode cX11_plain 181 = .ok (.lrem, 1) := by decide +kernel
theorem dX11_plain_182 : decode cX11_plain 182 = .ok (.invokevirtual 197, 3) := by decide +kernel
theorem dX11_plain_185 : decode cX11_plain 185 = .ok (.aload_n 0, 1) := by decide +kernel
theorem dX11_plain_186 : decode cX11_plain 186 = .ok (.iload_n 1, 1) := by decide +kernel
theorem dX11_plain_187 : decode cX11_plain 187 = .ok (.i2l, 1) := by decide +kernel
theorem dX11_plain_188 : decode cX11_plain 188 = .ok (.ldc2_w 201, 3) := by decide +kernel
theorem dX11_plain_191 : decode cX11_plain 191 = .ok (.lmul, 1) := by decide +kernel
theorem dX11_plain_192 : decode cX11_plain 192 = .ok (.iload_n 3, 1) := by decide +kernel
theorem dX11_plain_193 : decode cX11_plain 193 = .ok (.i2l, 1) := by decide +kernel
theorem dX11_plain_194 : decode cX11_plain 194 = .ok (.ladd, 1) := by decide +kernel
theorem dX11_plain_195 : decode cX11_plain 195 = .ok (.invokevirtual 197, 3) := by decide +kernel
theorem dX11_plain_198 : decode cX11_plain 198 = .ok (.iload_n 1, 1) := by decide +kernel
theorem dX11_plain_199 : decode cX11_plain 199 = .ok (.aload_n 0, 1) := by decide +kernel
theorem dX11_plain_200 : decode cX11_plain 200 = .ok (.getfield 107, 3) := by decide +kernel
theorem dX11_plain_203 : decode cX11_plain 203 = .ok (.iadd, 1) := by decide +kernel
theorem dX11_plain_204 : decode cX11_plain 204 = .ok (.istore_n 1, 1) := by decide +kernel
theorem dX11_plain_205 : decode cX11_plain 205 = .ok (.iinc 2 1, 3) := by decide +kernel
theorem dX11_plain_208 : decode cX11_plain 208 = .ok (.goto (-158), 3) := by decide +kernel
theorem dX11_plain_211 : decode cX11_plain 211 = .ok (.iconst 0, 1) := by decide +kernel
theorem dX11_plain_212 : decode cX11_plain 212 = .ok (.istore_n 2, 1) := by decide +kernel
theorem dX11_plain_213 : decode cX11_plain 213 = .ok (.iload_n 2, 1) := by decide +kernel
theorem dX11_plain_214 : decode cX11_plain 214 = .ok (.bipush 7, 2) := by decide +kernel
theorem dX11_plain_216 : decode cX11_plain 216 = .ok (.if_icmp .ge 65, 3) := by decide +kernel
theorem dX11_plain_219 : decode cX11_plain 219 = .ok (.aload_n 0, 1) := by decide +kernel
theorem dX11_plain_220 : decode cX11_plain 220 = .ok (.iload_n 2, 1) := by decide +kernel
theorem dX11_plain_221 : decode cX11_plain 221 = .ok (.invokevirtual 104, 3) := by decide +kernel
theorem dX11_plain_224 : decode cX11_plain 224 = .ok (.ifCond .eq 51, 3) := by decide +kernel
theorem dX11_plain_227 : decode cX11_plain 227 = .ok (.aload_n 0, 1) := by decide +kernel
theorem dX11_plain_228 : decode cX11_plain 228 = .ok (.iload_n 2, 1) := by decide +kernel
theorem dX11_plain_229 : decode cX11_plain 229 = .ok (.invokevirtual 184, 3) := by decide +kernel
theorem dX11_plain_232 : decode cX11_plain 232 = .ok (.aload_n 0, 1) := by decide +kernel
theorem dX11_plain_233 : decode cX11_plain 233 = .ok (.getfield 107, 3) := by decide +kernel
theorem dX11_plain_236 : decode cX11_plain 236 = .ok (.iconst 4, 1) := by decide +kernel
theorem dX11_plain_237 : decode cX11_plain 237 = .ok (.irem, 1) := by decide +kernel
theorem dX11_plain_238 : decode cX11_plain 238 = .ok (.ifCond .eq 11, 3) := by decide +kernel
theorem dX11_plain_241 : decode cX11_plain 241 = .ok (.aload_n 0, 1) := by decide +kernel
theorem dX11_plain_242 : decode cX11_plain 242 = .ok (.iconst 0, 1) := by decide +kernel
theorem dX11_plain_243 : decode cX11_plain 243 = .ok (.invokevirtual 121, 3) := by decide +kernel
theorem dX11_plain_246 : decode cX11_plain 246 = .ok (.goto (-14), 3) := by decide +kernel
theorem dX11_plain_249 : decode cX11_plain 249 = .ok (.iconst 0, 1) := by decide +kernel
theorem dX11_plain_250 : decode cX11_plain 250 = .ok (.istore_n 3, 1) := by decide +kernel
theorem dX11_plain_251 : decode cX11_plain 251 = .ok (.iload_n 3, 1) := by decide +kernel
theorem dX11_plain_252 : decode cX11_plain 252 = .ok (.aload_n 0, 1) := by decide +kernel
theorem dX11_plain_253 : decode cX11_plain 253 = .ok (.getfield 107, 3) := by decide +kernel
theorem dX11_plain_256 : decode cX11_plain 256 = .ok (.if_icmp .ge 19, 3) := by decide +kernel
theorem dX11_plain_259 : decode cX11_plain 259 = .ok (.aload_n 0, 1) := by decide +kernel
theorem dX11_plain_260 : decode cX11_plain 260 = .ok (.aload_n 0, 1) := by decide +kernel
theorem dX11_plain_261 : decode cX11_plain 261 = .ok (.getfield 74, 3) := by decide +kernel
theorem dX11_plain_264 : decode cX11_plain 264 = .ok (.iload_n 3, 1) := by decide +kernel
theorem dX11_plain_265 : decode cX11_plain 265 = .ok (.iaload, 1) := by decide +kernel
theorem dX11_plain_266 : decode cX11_plain 266 = .ok (.invokevirtual 140, 3) := by decide +kernel
theorem dX11_plain_269 : decode cX11_plain 269 = .ok (.iinc 3 1, 3) := by decide +kernel
theorem dX11_plain_272 : decode cX11_plain 272 = .ok (.goto (-21), 3) := by decide +kernel
theorem dX11_plain_275 : decode cX11_plain 275 = .ok (.iinc 2 1, 3) := by decide +kernel
theorem dX11_plain_278 : decode cX11_plain 278 = .ok (.goto (-65), 3) := by decide +kernel
theorem dX11_plain_281 : decode cX11_plain 281 = .ok (.aload_n 0, 1) := by decide +kernel
theorem dX11_plain_282 : decode cX11_plain 282 = .ok (.getfield 137, 3) := by decide +kernel
