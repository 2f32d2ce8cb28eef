theorem dX5_readSizes_30 : decode cX5_readSizes 30 = .ok (.aload_n 1, 1) := by decide +kernel
theorem dX5_readSizes_31 : decode cX5_readSizes 31 = .ok (.invokevirtual 151, 3) := by decide +kernel
theorem dX5_readSizes_34 : decode cX5_readSizes 34 = .ok (.isub, 1) := by decide +kernel
theorem dX5_readSizes_35 : decode cX5_readSizes 35 = .ok (.if_icmp .le 5, 3) := by decide +kernel
theorem dX5_readSizes_38 : decode cX5_readSizes 38 = .ok (.iconst 0, 1) := by decide +kernel
theorem dX5_readSizes_39 : decode cX5_readSizes 39 = .ok (.ireturn, 1) := by decide +kernel
theorem dX5_readSizes_40 : decode cX5_readSizes 40 = .ok (.aload_n 1, 1) := by decide +kernel
theorem dX5_readSizes_41 : decode cX5_readSizes 41 = .ok (.iload_n 2, 1) := by decide +kernel
theorem dX5_readSizes_42 : decode cX5_readSizes 42 = .ok (.iload_n 3, 1) := by decide +kernel
theorem dX5_readSizes_43 : decode cX5_readSizes 43 = .ok (.invokevirtual 175, 3) := by decide +kernel
theorem dX5_readSizes_46 : decode cX5_readSizes 46 = .ok (.iinc 2 1, 3) := by decide +kernel
theorem dX5_readSizes_49 : decode cX5_readSizes 49 = .ok (.goto (-47), 3) := by decide +kernel
theorem dX5_readSizes_52 : decode cX5_readSizes 52 = .ok (.iconst 1, 1) := by decide +kernel
theorem dX5_readSizes_53 : decode cX5_readSizes 53 = .ok (.ireturn, 1) := by decide +kernel
theorem dX5_readPoints_0 : decode cX5_readPoints 0 = .ok (.iconst 0, 1) := by decide +kernel
theorem dX5_readPoints_1 : decode cX5_readPoints 1 = .ok (.istore 4, 2) := by decide +kernel
theorem dX5_readPoints_3 : decode cX5_readPoints 3 = .ok (.iconst 0, 1) := by decide +kernel
theorem dX5_readPoints_4 : decode cX5_readPoints 4 = .ok (.istore 5, 2) := by decide +kernel
theorem dX5_readPoints_6 : decode cX5_readPoints 6 = .ok (.aload_n 1, 1) := by decide +kernel
theorem dX5_readPoints_7 : decode cX5_readPoints 7 = .ok (.invokevirtual 151, 3) := by decide +kernel
theorem dX5_readPoints_10 : decode cX5_readPoints 10 = .ok (.istore 6, 2) := by decide +kernel
theorem dX5_readPoints_12 : decode cX5_readPoints 12 = .ok (.iconst 0, 1) := by decide +kernel
theorem dX5_readPoints_13 : decode cX5_readPoints 13 = .ok (.istore 7, 2) := by decide +kernel
theorem dX5_readPoints_15 : decode cX5_readPoints 15 = .ok (.iload 7, 2) := by decide +kernel
theorem dX5_readPoints_17 : decode cX5_readPoints 17 = .ok (.iload 6, 2) := by decide +kernel
theorem dX5_readPoints_19 : decode cX5_readPoints 19 = .ok (.if_icmp .ge 91, 3) := by decide +kernel
theorem dX5_readPoints_22 : decode cX5_readPoints 22 = .ok (.aload_n 2, 1) := by decide +kernel
theorem dX5_readPoints_23 : decode cX5_readPoints 23 = .ok (.invokevirtual 94, 3) := by decide +kernel
theorem dX5_readPoints_26 : decode cX5_readPoints 26 = .ok (.istore 8, 2) := by decide +kernel
theorem dX5_readPoints_28 : decode cX5_readPoints 28 = .ok (.aload_n 0, 1) := by decide +kernel
theorem dX5_readPoints_29 : decode cX5_readPoints 29 = .ok (.iload 8, 2) := by decide +kernel
theorem dX5_readPoints_31 : decode cX5_readPoints 31 = .ok (.sipush 128, 3) := by decide +kernel
theorem dX5_readPoints_34 : decode cX5_readPoints 34 = .ok (.irem, 1) := by decide +kernel
theorem dX5_readPoints_35 : decode cX5_readPoints 35 = .ok (.aload_n 3, 1) := by decide +kernel
theorem dX5_readPoints_36 : decode cX5_readPoints 36 = .ok (.invokevirtual 178, 3) := by decide +kernel
theorem dX5_readPoints_39 : decode cX5_readPoints 39 = .ok (.iload 4, 2) := by decide +kernel
theorem dX5_readPoints_41 : decode cX5_readPoints 41 = .ok (.aload_n 0, 1) := by decide +kernel
theorem dX5_readPoints_42 : decode cX5_readPoints 42 = .ok (.getfield 34, 3) := by decide +kernel
theorem dX5_readPoints_45 : decode cX5_readPoints 45 = .ok (.iadd, 1) := by decide +kernel
theorem dX5_readPoints_46 : decode cX5_readPoints 46 = .ok (.istore 4, 2) := by decide +kernel
theorem dX5_readPoints_48 : decode cX5_readPoints 48 = .ok (.iload 5, 2) := by decide +kernel
theorem dX5_readPoints_50 : decode cX5_readPoints 50 = .ok (.aload_n 0, 1) := by decide +kernel
theorem dX5_readPoints_51 : decode cX5_readPoints 51 = .ok (.getfield 37, 3) := by decide +kernel
theorem dX5_readPoints_54 : decode cX5_readPoints 54 = .ok (.iadd, 1) := by decide +kernel
theorem dX5_readPoints_55 : decode cX5_readPoints 55 = .ok (.istore 5, 2) := by decide +kernel
theorem dX5_readPoints_57 : decode cX5_readPoints 57 = .ok (.aload_n 3, 1) := by decide +kernel
theorem dX5_readPoints_58 : decode cX5_readPoints 58 = .ok (.invokevirtual 104, 3) := by decide +kernel
theorem dX5_readPoints_61 : decode cX5_readPoints 61 = .ok (.ifCond .ne 19, 3) := by decide +kernel
theorem dX5_readPoints_64 : decode cX5_readPoints 64 = .ok (.iload 4, 2) := by decide +kernel
theorem dX5_readPoints_66 : decode cX5_readPoints 66 = .ok (.invokestatic 182, 3) := by decide +kernel
theorem dX5_readPoints_69 : decode cX5_readPoints 69 = .ok (.ifCond .ne 11, 3) := by decide +kernel
theorem dX5_readPoints_72 : decode cX5_readPoints 72 = .ok (.iload 5, 2) := by decide +kernel
theorem dX5_readPoints_74 : decode cX5_readPoints 74 = .ok (.invokestatic 182, 3) := by decide +kernel
theorem dX5_readPoints_77 : decode cX5_readPoints 77 = .ok (.ifCond .eq 5, 3) := by decide +kernel
theorem dX5_readPoints_80 : decode cX5_readPoints 80 = .ok (.iconst 0, 1) := by decide +kernel
theorem dX5_readPoints_81 : decode cX5_readPoints 81 = .ok (.ireturn, 1) := by decide +kernel
theorem dX5_readPoints_82 : decode cX5_readPoints 82 = .ok (.aload_n 1, 1) := by decide +kernel
theorem dX5_readPoints_83 : decode cX5_readPoints 83 = .ok (.iload 4, 2) := by decide +kernel
theorem dX5_readPoints_85 : decode cX5_readPoints 85 = .ok (.iload 5, 2) := by decide +kernel
theorem dX5_readPoints_87 : decode cX5_readPoints 87 = .ok (.iload 8, 2) := by decide +kernel
theorem dX5_readPoints_89 : decode cX5_readPoints 89 = .ok (.sipush 128, 3) := by decide +kernel
theorem dX5_readPoints_92 : decode cX5_readPoints 92 = .ok (.if_icmp .ge 7, 3) := by decide +kernel
theorem dX5_readPoints_95 : decode cX5_readPoints 95 = .ok (.iconst 1, 1) := by decide +kernel
theorem dX5_readPoints_96 : decode cX5_readPoints 96 = .ok (.goto 4, 3) := by decide +kernel
theorem dX5_readPoints_99 : decode cX5_readPoints 99 = .ok (.iconst 0, 1) := by decide +kernel
theorem dX5_readPoints_100 : decode cX5_readPoints 100 = .ok (.invokevirtual 186, 3) := by decide +kernel
theorem dX5_readPoints_103 : decode cX5_readPoints 103 = .ok (.pop, 1) := by decide +kernel
theorem dX5_readPoints_104 : decode cX5_readPoints 104 = .ok (.iinc 7 1, 3) := by decide +kernel
theorem dX5_readPoints_107 : decode cX5_readPoints 107 = .ok (.goto (-92), 3) := by decide +kernel
theorem dX5_readPoints_110 : decode cX5_readPoints 110 = .ok (.iconst 1, 1) := by decide +kernel
theorem dX5_readPoints_111 : decode cX5_readPoints 111 = .ok (.ireturn, 1) := by decide +kernel
theorem dX5_readStep_0 : decode cX5_readStep 0 = .ok (.iload_n 1, 1) := by decide +kernel
theorem dX5_readStep_1 : decode cX5_readStep 1 = .ok (.bipush 10, 2) := by decide +kernel
theorem dX5_readStep_3 : decode cX5_readStep 3 = .ok (.if_icmp .ge 33, 3) := by decide +kernel
theorem dX5_readStep_6 : decode cX5_readStep 6 = .ok (.aload_n 0, 1) := by decide +kernel
theorem dX5_readStep_7 : decode cX5_readStep 7 = .ok (.iconst 0, 1) := by decide +kernel
theorem dX5_readStep_8 : decode cX5_readStep 8 = .ok (.putfield 34, 3) := by decide +kernel
theorem dX5_readStep_11 : decode cX5_readStep 11 = .ok (.aload_n 0, 1) := by decide +kernel
theorem dX5_readStep_12 : decode cX5_readStep 12 = .ok (.iload_n 1, 1) := by decide +kernel
theorem dX5_readStep_13 : decode cX5_readStep 13 = .ok (.iconst 2, 1) := by decide +kernel
theorem dX5_readStep_14 : decode cX5_readStep 14 = .ok (.idiv, 1) := by decide +kernel
theorem dX5_readStep_15 : decode cX5_readStep 15 = .ok (.sipush 256, 3) := by decide +kernel
theorem dX5_readStep_18 : decode cX5_readStep 18 = .ok (.imul, 1) := by decide +kernel
theorem dX5_readStep_19 : decode cX5_readStep 19 = .ok (.aload_n 2, 1) := by decide +kernel
theorem dX5_readStep_20 : decode cX5_readStep 20 = .ok (.invokevirtual 94, 3) := by decide +kernel
theorem dX5_readStep_23 : decode cX5_readStep 23 = .ok (.iadd, 1) := by decide +kernel
theorem dX5_readStep_24 : decode cX5_readStep 24 = .ok (.iload_n 1, 1) := by decide +kernel
theorem dX5_readStep_25 : decode cX5_readStep 25 = .ok (.iconst 2, 1) := by decide +kernel
theorem dX5_readStep_26 : decode cX5_readStep 26 = .ok (.irem, 1) := by decide +kernel
theorem dX5_readStep_27 : decode cX5_readStep 27 = .ok (.invokestatic 190, 3) := by decide +kernel
theorem dX5_readStep_30 : decode cX5_readStep 30 = .ok (.putfield 37, 3) := by decide +kernel
theorem dX5_readStep_33 : decode cX5_readStep 33 = .ok (.goto 238, 3) := by decide +kernel
theorem dX5_readStep_36 : decode cX5_readStep 36 = .ok (.iload_n 1, 1) := by decide +kernel
theorem dX5_readStep_37 : decode cX5_readStep 37 = .ok (.bipush 20, 2) := by decide +kernel
theorem dX5_readStep_39 : decode cX5_readStep 39 = .ok (.if_icmp .ge 36, 3) := by decide +kernel
theorem dX5_readStep_42 : decode cX5_readStep 42 = .ok (.aload_n 0, 1) := by decide +kernel
theorem dX5_readStep_43 : decode cX5_readStep 43 = .ok (.iload_n 1, 1) := by decide +kernel
theorem dX5_readStep_44 : decode cX5_readStep 44 = .ok (.bipush 10, 2) := by decide +kernel
theorem dX5_readStep_46 : decode cX5_readStep 46 = .ok (.isub, 1) := by decide +kernel
theorem dX5_readStep_47 : decode cX5_readStep 47 = .ok (.iconst 2, 1) := by decide +kernel
theorem dX5_readStep_48 : decode cX5_readStep 48 = .ok (.idiv, 1) := by decide +kernel
theorem dX5_readStep_49 : decode cX5_readStep 49 = .ok (.sipush 256, 3) := by decide +kernel
theorem dX5_readStep_52 : decode cX5_readStep 52 = .ok (.imul, 1) := by decide +kernel
theorem dX5_readStep_53 : decode cX5_readStep 53 = .ok (.aload_n 2, 1) := by decide +kernel
theorem dX5_readStep_54 : decode cX5_readStep 54 = .ok (.invokevirtual 94, 3) := by decide +kernel
theorem dX5_readStep_57 : decode cX5_readStep 57 = .ok (.iadd, 1) := by decide +kernel
theorem dX5_readStep_58 : decode cX5_readStep 58 = .ok (.iload_n 1, 1) := by decide +kernel
theorem dX5_readStep_59 : decode cX5_readStep 59 = .ok (.iconst 2, 1) := by decide +kernel
theorem dX5_readStep_60 : decode cX5_readStep 60 = .ok (.irem, 1) := by decide +kernel
theorem dX5_readStep_61 : decode cX5_readStep 61 = .ok (.invokestatic 190, 3) := by decide +kernel
theorem dX5_readStep_64 : decode cX5_readStep 64 = .ok (.putfield 34, 3) := by decide +kernel
theorem dX5_readStep_67 : decode cX5_readStep 67 = .ok (.aload_n 0, 1) := by decide +kernel
theorem dX5_readStep_68 : decode cX5_readStep 68 = .ok (.iconst 0, 1) := by decide +kernel
theorem dX5_readStep_69 : decode cX5_readStep 69 = .ok (.putfield 37, 3) := by decide +kernel
theorem dX5_readStep_72 : decode cX5_readStep 72 = .ok (.goto 199, 3) := by decide +kernel
theorem dX5_readStep_75 : decode cX5_readStep 75 = .ok (.iload_n 1, 1) := by decide +kernel
theorem dX5_readStep_76 : decode cX5_readStep 76 = .ok (.bipush 84, 2) := by decide +kernel
theorem dX5_readStep_78 : decode cX5_readStep 78 = .ok (.if_icmp .ge 51, 3) := by decide +kernel
theorem dX5_readStep_81 : decode cX5_readStep 81 = .ok (.aload_n 2, 1) := by decide +kernel
theorem dX5_readStep_82 : decode cX5_readStep 82 = .ok (.invokevirtual 94, 3) := by decide +kernel
theorem dX5_readStep_85 : decode cX5_readStep 85 = .ok (.istore_n 3, 1) := by decide +kernel
theorem dX5_readStep_86 : decode cX5_readStep 86 = .ok (.aload_n 0, 1) := by decide +kernel
theorem dX5_readStep_87 : decode cX5_readStep 87 = .ok (.iconst 1, 1) := by decide +kernel
theorem dX5_readStep_88 : decode cX5_readStep 88 = .ok (.iload_n 1, 1) := by decide +kernel
theorem dX5_readStep_89 : decode cX5_readStep 89 = .ok (.bipush 20, 2) := by decide +kernel
theorem dX5_readStep_91 : decode cX5_readStep 91 = .ok (.isub, 1) := by decide +kernel
theorem dX5_readStep_92 : decode cX5_readStep 92 = .ok (.bipush 16, 2) := by decide +kernel
theorem dX5_readStep_94 : decode cX5_readStep 94 = .ok (.idiv, 1) := by decide +kernel
theorem dX5_readStep_95 : decode cX5_readStep 95 = .ok (.bipush 16, 2) := by decide +kernel
theorem dX5_readStep_97 : decode cX5_readStep 97 = .ok (.imul, 1) := by decide +kernel
theorem dX5_readStep_98 : decode cX5_readStep 98 = .ok (.iadd, 1) := by decide +kernel
theorem dX5_readStep_99 : decode cX5_readStep 99 = .ok (.iload_n 3, 1) := by decide +kernel
theorem dX5_readStep_100 : decode cX5_readStep 100 = .ok (.bipush 16, 2) := by decide +kernel
theorem dX5_readStep_102 : decode cX5_readStep 102 = .ok (.idiv, 1) := by decide +kernel
theorem dX5_readStep_103 : decode cX5_readStep 103 = .ok (.iadd, 1) := by decide +kernel
theorem dX5_readStep_104 : decode cX5_readStep 104 = .ok (.iconst 1, 1) := by decide +kernel
theorem dX5_readStep_105 : decode cX5_readStep 105 = .ok (.iload_n 1, 1) := by decide +kernel
theorem dX5_readStep_106 : decode cX5_readStep 106 = .ok (.bipush 20, 2) := by decide +kernel
theorem dX5_readStep_108 : decode cX5_readStep 108 = .ok (.isub, 1) := by decide +kernel
theorem dX5_readStep_109 : decode cX5_readStep 109 = .ok (.iconst 4, 1) := by decide +kernel
theorem dX5_readStep_110 : decode cX5_readStep 110 = .ok (.idiv, 1) := by decide +kernel
theorem dX5_readStep_111 : decode cX5_readStep 111 = .ok (.iconst 4, 1) := by decide +kernel
theorem dX5_readStep_112 : decode cX5_readStep 112 = .ok (.irem, 1) := by decide +kernel
theorem dX5_readStep_113 : decode cX5_readStep 113 = .ok (.bipush 16, 2) := by decide +kernel
theorem dX5_readStep_115 : decode cX5_readStep 115 = .ok (.imul, 1) := by decide +kernel
theorem dX5_readStep_116 : decode cX5_readStep 116 = .ok (.iadd, 1) := by decide +kernel
theorem dX5_readStep_117 : decode cX5_readStep 117 = .ok (.iload_n 3, 1) := by decide +kernel
theorem dX5_readStep_118 : decode cX5_readStep 118 = .ok (.bipush 16, 2) := by decide +kernel
theorem dX5_readStep_120 : decode cX5_readStep 120 = .ok (.irem, 1) := by decide +kernel
theorem dX5_readStep_121 : decode cX5_readStep 121 = .ok (.iadd, 1) := by decide +kernel
theorem dX5_readStep_122 : decode cX5_readStep 122 = .ok (.iload_n 1, 1) := by decide +kernel
theorem dX5_readStep_123 : decode cX5_readStep 123 = .ok (.invokevirtual 194, 3) := by decide +kernel
theorem dX5_readStep_126 : decode cX5_readStep 126 = .ok (.goto 145, 3) := by decide +kernel
theorem dX5_readStep_129 : decode cX5_readStep 129 = .ok (.iload_n 1, 1) := by decide +kernel
theorem dX5_readStep_130 : decode cX5_readStep 130 = .ok (.bipush 120, 2) := by decide +kernel
theorem dX5_readStep_132 : decode cX5_readStep 132 = .ok (.if_icmp .ge 51, 3) := by decide +kernel
theorem dX5_readStep_135 : decode cX5_readStep 135 = .ok (.iconst 1, 1) := by decide +kernel
theorem dX5_readStep_136 : decode cX5_readStep 136 = .ok (.iload_n 1, 1) := by decide +kernel
theorem dX5_readStep_137 : decode cX5_readStep 137 = .ok (.bipush 84, 2) := by decide +kernel
theorem dX5_readStep_139 : decode cX5_readStep 139 = .ok (.isub, 1) := by decide +kernel
theorem dX5_readStep_140 : decode cX5_readStep 140 = .ok (.bipush 12, 2) := by decide +kernel
theorem dX5_readStep_142 : decode cX5_readStep 142 = .ok (.idiv, 1) := by decide +kernel
theorem dX5_readStep_143 : decode cX5_readStep 143 = .ok (.sipush 256, 3) := by decide +kernel
theorem dX5_readStep_146 : decode cX5_readStep 146 = .ok (.imul, 1) := by decide +kernel
theorem dX5_readStep_147 : decode cX5_readStep 147 = .ok (.iadd, 1) := by decide +kernel
theorem dX5_readStep_148 : decode cX5_readStep 148 = .ok (.aload_n 2, 1) := by decide +kernel
theorem dX5_readStep_149 : decode cX5_readStep 149 = .ok (.invokevirtual 94, 3) := by decide +kernel
theorem dX5_readStep_152 : decode cX5_readStep 152 = .ok (.iadd, 1) := by decide +kernel
theorem dX5_readStep_153 : decode cX5_readStep 153 = .ok (.istore_n 3, 1) := by decide +kernel
theorem dX5_readStep_154 : decode cX5_readStep 154 = .ok (.aload_n 0, 1) := by decide +kernel
theorem dX5_readStep_155 : decode cX5_readStep 155 = .ok (.iload_n 3, 1) := by decide +kernel
theorem dX5_readStep_156 : decode cX5_readStep 156 = .ok (.iconst 1, 1) := by decide +kernel
theorem dX5_readStep_157 : decode cX5_readStep 157 = .ok (.iload_n 1, 1) := by decide +kernel
theorem dX5_readStep_158 : decode cX5_readStep 158 = .ok (.bipush 84, 2) := by decide +kernel
theorem dX5_readStep_160 : decode cX5_readStep 160 = .ok (.isub, 1) := by decide +kernel
theorem dX5_readStep_161 : decode cX5_readStep 161 = .ok (.bipush 12, 2) := by decide +kernel
theorem dX5_readStep_163 : decode cX5_readStep 163 = .ok (.irem, 1) := by decide +kernel
theorem dX5_readStep_164 : decode cX5_readStep 164 = .ok (.iconst 4, 1) := by decide +kernel
theorem dX5_readStep_165 : decode cX5_readStep 165 = .ok (.idiv, 1) := by decide +kernel
theorem dX5_readStep_166 : decode cX5_readStep 166 = .ok (.sipush 256, 3) := by decide +kernel
theorem dX5_readStep_169 : decode cX5_readStep 169 = .ok (.imul, 1) := by decide +kernel
theorem dX5_readStep_170 : decode cX5_readStep 170 = .ok (.iadd, 1) := by decide +kernel
theorem dX5_readStep_171 : decode cX5_readStep 171 = .ok (.aload_n 2, 1) := by decide +kernel
theorem dX5_readStep_172 : decode cX5_readStep 172 = .ok (.invokevirtual 94, 3) := by decide +kernel
theorem dX5_readStep_175 : decode cX5_readStep 175 = .ok (.iadd, 1) := by decide +kernel
theorem dX5_readStep_176 : decode cX5_readStep 176 = .ok (.iload_n 1, 1) := by decide +kernel
theorem dX5_readStep_177 : decode cX5_readStep 177 = .ok (.invokevirtual 194, 3) := by decide +kernel
theorem dX5_readStep_180 : decode cX5_readStep 180 = .ok (.goto 91, 3) := by decide +kernel
theorem dX5_readStep_183 : decode cX5_readStep 183 = .ok (.iload_n 1, 1) := by decide +kernel
theorem dX5_readStep_184 : decode cX5_readStep 184 = .ok (.bipush 124, 2) := by decide +kernel
theorem dX5_readStep_186 : decode cX5_readStep 186 = .ok (.if_icmp .ge 46, 3) := by decide +kernel
theorem dX5_readStep_189 : decode cX5_readStep 189 = .ok (.aload_n 2, 1) := by decide +kernel
theorem dX5_readStep_190 : decode cX5_readStep 190 = .ok (.invokevirtual 94, 3) := by decide +kernel
theorem dX5_readStep_193 : decode cX5_readStep 193 = .ok (.istore_n 3, 1) := by decide +kernel
theorem dX5_readStep_194 : decode cX5_readStep 194 = .ok (.aload_n 2, 1) := by decide +kernel
theorem dX5_readStep_195 : decode cX5_readStep 195 = .ok (.invokevirtual 94, 3) := by decide +kernel
theorem dX5_readStep_198 : decode cX5_readStep 198 = .ok (.istore 4, 2) := by decide +kernel
theorem dX5_readStep_200 : decode cX5_readStep 200 = .ok (.aload_n 0, 1) := by decide +kernel
theorem dX5_readStep_201 : decode cX5_readStep 201 = .ok (.iload_n 3, 1) := by decide +kernel
theorem dX5_readStep_202 : decode cX5_readStep 202 = .ok (.bipush 16, 2) := by decide +kernel
theorem dX5_readStep_204 : decode cX5_readStep 204 = .ok (.imul, 1) := by decide +kernel
theorem dX5_readStep_205 : decode cX5_readStep 205 = .ok (.iload 4, 2) := by decide +kernel
theorem dX5_readStep_207 : decode cX5_readStep 207 = .ok (.bipush 16, 2) := by decide +kernel
theorem dX5_readStep_209 : decode cX5_readStep 209 = .ok (.idiv, 1) := by decide +kernel
theorem dX5_readStep_210 : decode cX5_readStep 210 = .ok (.iadd, 1) := by decide +kernel
theorem dX5_readStep_211 : decode cX5_readStep 211 = .ok (.iload 4, 2) := by decide +kernel
theorem dX5_readStep_213 : decode cX5_readStep 213 = .ok (.bipush 16, 2) := by decide +kernel
theorem dX5_readStep_215 : decode cX5_readStep 215 = .ok (.irem, 1) := by decide +kernel
theorem dX5_readStep_216 : decode cX5_readStep 216 = .ok (.sipush 256, 3) := by decide +kernel
theorem dX5_readStep_219 : decode cX5_readStep 219 = .ok (.imul, 1) := by decide +kernel
theorem dX5_readStep_220 : decode cX5_readStep 220 = .ok (.aload_n 2, 1) := by decide +kernel
theorem dX5_readStep_221 : decode cX5_readStep 221 = .ok (.invokevirtual 94, 3) := by decide +kernel
theorem dX5_readStep_224 : decode cX5_readStep 224 = .ok (.iadd, 1) := by decide +kernel
theorem dX5_readStep_225 : decode cX5_readStep 225 = .ok (.iload_n 1, 1) := by decide +kernel
theorem dX5_readStep_226 : decode cX5_readStep 226 = .ok (.invokevirtual 194, 3) := by decide +kernel
theorem dX5_readStep_229 : decode cX5_readStep 229 = .ok (.goto 42, 3) := by decide +kernel
theorem dX5_readStep_232 : decode cX5_readStep 232 = .ok (.aload_n 2, 1) := by decide +kernel
theorem dX5_readStep_233 : decode cX5_readStep 233 = .ok (.invokevirtual 94, 3) := by decide +kernel
theorem dX5_readStep_236 : decode cX5_readStep 236 = .ok (.sipush 256, 3) := by decide +kernel
theorem dX5_readStep_239 : decode cX5_readStep 239 = .ok (.imul, 1) := by decide +kernel
theorem dX5_readStep_240 : decode cX5_readStep 240 = .ok (.istore_n 3, 1) := by decide +kernel
theorem dX5_readStep_241 : decode cX5_readStep 241 = .ok (.iload_n 3, 1) := by decide +kernel
theorem dX5_readStep_242 : decode cX5_readStep 242 = .ok (.aload_n 2, 1) := by decide +kernel
theorem dX5_readStep_243 : decode cX5_readStep 243 = .ok (.invokevirtual 94, 3) := by decide +kernel
theorem dX5_readStep_246 : decode cX5_readStep 246 = .ok (.iadd, 1) := by decide +kernel
theorem dX5_readStep_247 : decode cX5_readStep 247 = .ok (.istore_n 3, 1) := by decide +kernel
theorem dX5_readStep_248 : decode cX5_readStep 248 = .ok (.aload_n 2, 1) := by decide +kernel
theorem dX5_readStep_249 : decode cX5_readStep 249 = .ok (.invokevirtual 94, 3) := by decide +kernel
theorem dX5_readStep_252 : decode cX5_readStep 252 = .ok (.sipush 256, 3) := by decide +kernel
theorem dX5_readStep_255 : decode cX5_readStep 255 = .ok (.imul, 1) := by decide +kernel
theorem dX5_readStep_256 : decode cX5_readStep 256 = .ok (.istore 4, 2) := by decide +kernel
theorem dX5_readStep_258 : decode cX5_readStep 258 = .ok (.aload_n 0, 1) := by decide +kernel
theorem dX5_readStep_259 : decode cX5_readStep 259 = .ok (.iload_n 3, 1) := by decide +kernel
theorem dX5_readStep_260 : decode cX5_readStep 260 = .ok (.iload 4, 2) := by decide +kernel
theorem dX5_readStep_262 : decode cX5_readStep 262 = .ok (.aload_n 2, 1) := by decide +kernel
theorem dX5_readStep_263 : decode cX5_readStep 263 = .ok (.invokevirtual 94, 3) := by decide +kernel
theorem dX5_readStep_266 : decode cX5_readStep 266 = .ok (.iadd, 1) := by decide +kernel
theorem dX5_readStep_267 : decode cX5_readStep 267 = .ok (.iload_n 1, 1) := by decide +kernel
theorem dX5_readStep_268 : decode cX5_readStep 268 = .ok (.invokevirtual 194, 3) := by decide +kernel
theorem dX5_readStep_271 : decode cX5_readStep 271 = .ok (.return_, 1) := by decide +kernel
theorem dX5_takeStep_0 : decode cX5_takeStep 0 = .ok (.aload_n 0, 1) := by decide +kernel
theorem dX5_takeStep_1 : decode cX5_takeStep 1 = .ok (.iload_n 1, 1) := by decide +kernel
theorem dX5_takeStep_2 : decode cX5_takeStep 2 = .ok (.iload_n 3, 1) := by decide +kernel
theorem dX5_takeStep_3 : decode cX5_takeStep 3 = .ok (.iconst 2, 1) := by decide +kernel
theorem dX5_takeStep_4 : decode cX5_takeStep 4 = .ok (.irem, 1) := by decide +kernel
theorem dX5_takeStep_5 : decode cX5_takeStep 5 = .ok (.invokestatic 190, 3) := by decide +kernel
theorem dX5_takeStep_8 : decode cX5_takeStep 8 = .ok (.putfield 34, 3) := by decide +kernel
theorem dX5_takeStep_11 : decode cX5_takeStep 11 = .ok (.aload_n 0, 1) := by decide +kernel
theorem dX5_takeStep_12 : decode cX5_takeStep 12 = .ok (.iload_n 2, 1) := by decide +kernel
theorem dX5_takeStep_13 : decode cX5_takeStep 13 = .ok (.iload_n 3, 1) := by decide +kernel
theorem dX5_takeStep_14 : decode cX5_takeStep 14 = .ok (.iconst 2, 1) := by decide +kernel
theorem dX5_takeStep_15 : decode cX5_takeStep 15 = .ok (.idiv, 1) := by decide +kernel
theorem dX5_takeStep_16 : decode cX5_takeStep 16 = .ok (.iconst 2, 1) := by decide +kernel
theorem dX5_takeStep_17 : decode cX5_takeStep 17 = .ok (.irem, 1) := by decide +kernel
theorem dX5_takeStep_18 : decode cX5_takeStep 18 = .ok (.invokestatic 190, 3) := by decide +kernel
theorem dX5_takeStep_21 : decode cX5_takeStep 21 = .ok (.putfield 37, 3) := by decide +kernel
theorem dX5_takeStep_24 : decode cX5_takeStep 24 = .ok (.return_, 1) := by decide +kernel
theorem dX5_signed_0 : decode cX5_signed 0 = .ok (.iload_n 1, 1) := by decide +kernel
theorem dX5_signed_1 : decode cX5_signed 1 = .ok (.iconst 1, 1) := by decide +kernel
theorem dX5_signed_2 : decode cX5_signed 2 = .ok (.if_icmp .ne 7, 3) := by decide +kernel
theorem dX5_signed_5 : decode cX5_signed 5 = .ok (.iload_n 0, 1) := by decide +kernel
theorem dX5_signed_6 : decode cX5_signed 6 = .ok (.goto 5, 3) := by decide +kernel
theorem dX5_signed_9 : decode cX5_signed 9 = .ok (.iload_n 0, 1) := by decide +kernel
theorem dX5_signed_10 : decode cX5_signed 10 = .ok (.ineg, 1) := by decide +kernel
theorem dX5_signed_11 : decode cX5_signed 11 = .ok (.ireturn, 1) := by decide +kernel
theorem dX5_readAdvances_0 : decode cX5_readAdvances 0 = .ok (.aload_n 0, 1) := by decide +kernel
theorem dX5_readAdvances_1 : decode cX5_readAdvances 1 = .ok (.getfield 23, 3) := by decide +kernel
theorem dX5_readAdvances_4 : decode cX5_readAdvances 4 = .ok (.iconst 0, 1) := by decide +kernel
theorem dX5_readAdvances_5 : decode cX5_readAdvances 5 = .ok (.invokevirtual 90, 3) := by decide +kernel
theorem dX5_readAdvances_8 : decode cX5_readAdvances 8 = .ok (.istore_n 2, 1) := by decide +kernel
theorem dX5_readAdvances_9 : decode cX5_readAdvances 9 = .ok (.new 45, 3) := by decide +kernel
theorem dX5_readAdvances_12 : decode cX5_readAdvances 12 = .ok (.dup, 1) := by decide +kernel
theorem dX5_readAdvances_13 : decode cX5_readAdvances 13 = .ok (.aload_n 0, 1) := by decide +kernel
theorem dX5_readAdvances_14 : decode cX5_readAdvances 14 = .ok (.getfield 14, 3) := by decide +kernel
theorem dX5_readAdvances_17 : decode cX5_readAdvances 17 = .ok (.iload_n 2, 1) := by decide +kernel
theorem dX5_readAdvances_18 : decode cX5_readAdvances 18 = .ok (.iload_n 2, 1) := by decide +kernel
theorem dX5_readAdvances_19 : decode cX5_readAdvances 19 = .ok (.aload_n 0, 1) := by decide +kernel
theorem dX5_readAdvances_20 : decode cX5_readAdvances 20 = .ok (.getfield 23, 3) := by decide +kernel
theorem dX5_readAdvances_23 : decode cX5_readAdvances 23 = .ok (.iconst 1, 1) := by decide +kernel
theorem dX5_readAdvances_24 : decode cX5_readAdvances 24 = .ok (.invokevirtual 90, 3) := by decide +kernel
theorem dX5_readAdvances_27 : decode cX5_readAdvances 27 = .ok (.iadd, 1) := by decide +kernel
theorem dX5_readAdvances_28 : decode cX5_readAdvances 28 = .ok (.invokespecial 51, 3) := by decide +kernel
theorem dX5_readAdvances_31 : decode cX5_readAdvances 31 = .ok (.astore_n 3, 1) := by decide +kernel
theorem dX5_readAdvances_32 : decode cX5_readAdvances 32 = .ok (.iconst 0, 1) := by decide +kernel
theorem dX5_readAdvances_33 : decode cX5_readAdvances 33 = .ok (.istore 4, 2) := by decide +kernel
theorem dX5_readAdvances_35 : decode cX5_readAdvances 35 = .ok (.iload 4, 2) := by decide +kernel
theorem dX5_readAdvances_37 : decode cX5_readAdvances 37 = .ok (.aload_n 1, 1) := by decide +kernel
theorem dX5_readAdvances_38 : decode cX5_readAdvances 38 = .ok (.invokevirtual 140, 3) := by decide +kernel
theorem dX5_readAdvances_41 : decode cX5_readAdvances 41 = .ok (.if_icmp .ge 36, 3) := by decide +kernel
theorem dX5_readAdvances_44 : decode cX5_readAdvances 44 = .ok (.aload_n 3, 1) := by decide +kernel
theorem dX5_readAdvances_45 : decode cX5_readAdvances 45 = .ok (.invokevirtual 172, 3) := by decide +kernel
theorem dX5_readAdvances_48 : decode cX5_readAdvances 48 = .ok (.istore 5, 2) := by decide +kernel
theorem dX5_readAdvances_50 : decode cX5_readAdvances 50 = .ok (.iload 5, 2) := by decide +kernel
theorem dX5_readAdvances_52 : decode cX5_readAdvances 52 = .ok (.sipush 2000, 3) := by decide +kernel
theorem dX5_readAdvances_55 : decode cX5_readAdvances 55 = .ok (.if_icmp .le 5, 3) := by decide +kernel
theorem dX5_readAdvances_58 : decode cX5_readAdvances 58 = .ok (.iconst 0, 1) := by decide +kernel
theorem dX5_readAdvances_59 : decode cX5_readAdvances 59 = .ok (.ireturn, 1) := by decide +kernel
theorem dX5_readAdvances_60 : decode cX5_readAdvances 60 = .ok (.aload_n 1, 1) := by decide +kernel
theorem dX5_readAdvances_61 : decode cX5_readAdvances 61 = .ok (.iload 4, 2) := by decide +kernel
theorem dX5_readAdvances_63 : decode cX5_readAdvances 63 = .ok (.invokevirtual 143, 3) := by decide +kernel
theorem dX5_readAdvances_66 : decode cX5_readAdvances 66 = .ok (.iload 5, 2) := by decide +kernel
theorem dX5_readAdvances_68 : decode cX5_readAdvances 68 = .ok (.invokevirtual 198, 3) := by decide +kernel
theorem dX5_readAdvances_71 : decode cX5_readAdvances 71 = .ok (.iinc 4 1, 3) := by decide +kernel
theorem dX5_readAdvances_74 : decode cX5_readAdvances 74 = .ok (.goto (-39), 3) := by decide +kernel
theorem dX5_readAdvances_77 : decode cX5_readAdvances 77 = .ok (.aload_n 3, 1) := by decide +kernel
theorem dX5_readAdvances_78 : decode cX5_readAdvances 78 = .ok (.invokevirtual 160, 3) := by decide +kernel
theorem dX5_readAdvances_81 : decode cX5_readAdvances 81 = .ok (.ireturn, 1) := by decide +kernel
theorem dX5_readBareTables_0 : decode cX5_readBareTables 0 = .ok (.aload_n 0, 1) := by decide +kernel
theorem dX5_readBareTables_1 : decode cX5_readBareTables 1 = .ok (.getfield 23, 3) := by decide +kernel
theorem dX5_readBareTables_4 : decode cX5_readBareTables 4 = .ok (.iconst 0, 1) := by decide +kernel
theorem dX5_readBareTables_5 : decode cX5_readBareTables 5 = .ok (.invokevirtual 90, 3) := by decide +kernel
theorem dX5_readBareTables_8 : decode cX5_readBareTables 8 = .ok (.aload_n 0, 1) := by decide +kernel
theorem dX5_readBareTables_9 : decode cX5_readBareTables 9 = .ok (.getfield 23, 3) := by decide +kernel
theorem dX5_readBareTables_12 : decode cX5_readBareTables 12 = .ok (.iconst 1, 1) := by decide +kernel
theorem dX5_readBareTables_13 : decode cX5_readBareTables 13 = .ok (.invokevirtual 90, 3) := by decide +kernel
theorem dX5_readBareTables_16 : decode cX5_readBareTables 16 = .ok (.iadd, 1) := by decide +kernel
theorem dX5_readBareTables_17 : decode cX5_readBareTables 17 = .ok (.istore_n 2, 1) := by decide +kernel
theorem dX5_readBareTables_18 : decode cX5_readBareTables 18 = .ok (.iconst 2, 1) := by decide +kernel
theorem dX5_readBareTables_19 : decode cX5_readBareTables 19 = .ok (.istore_n 3, 1) := by decide +kernel
theorem dX5_readBareTables_20 : decode cX5_readBareTables 20 = .ok (.iload_n 3, 1) := by decide +kernel
theorem dX5_readBareTables_21 : decode cX5_readBareTables 21 = .ok (.bipush 7, 2) := by decide +kernel
theorem dX5_readBareTables_23 : decode cX5_readBareTables 23 = .ok (.if_icmp .ge 50, 3) := by decide +kernel
theorem dX5_readBareTables_26 : decode cX5_readBareTables 26 = .ok (.iconst 0, 1) := by decide +kernel
theorem dX5_readBareTables_27 : decode cX5_readBareTables 27 = .ok (.istore 4, 2) := by decide +kernel
theorem dX5_readBareTables_29 : decode cX5_readBareTables 29 = .ok (.iload 4, 2) := by decide +kernel
theorem dX5_readBareTables_31 : decode cX5_readBareTables 31 = .ok (.aload_n 0, 1) := by decide +kernel
theorem dX5_readBareTables_32 : decode cX5_readBareTables 32 = .ok (.getfield 23, 3) := by decide +kernel
theorem dX5_readBareTables_35 : decode cX5_readBareTables 35 = .ok (.iload_n 3, 1) := by decide +kernel
theorem dX5_readBareTables_36 : decode cX5_readBareTables 36 = .ok (.invokevirtual 90, 3) := by decide +kernel
theorem dX5_readBareTables_39 : decode cX5_readBareTables 39 = .ok (.if_icmp .ge 28, 3) := by decide +kernel
theorem dX5_readBareTables_42 : decode cX5_readBareTables 42 = .ok (.aload_n 1, 1) := by decide +kernel
theorem dX5_readBareTables_43 : decode cX5_readBareTables 43 = .ok (.iload_n 3, 1) := by decide +kernel
theorem dX5_readBareTables_44 : decode cX5_readBareTables 44 = .ok (.invokevirtual 86, 3) := by decide +kernel
theorem dX5_readBareTables_47 : decode cX5_readBareTables 47 = .ok (.aload_n 0, 1) := by decide +kernel
theorem dX5_readBareTables_48 : decode cX5_readBareTables 48 = .ok (.getfield 14, 3) := by decide +kernel
theorem dX5_readBareTables_51 : decode cX5_readBareTables 51 = .ok (.iload_n 2, 1) := by decide +kernel
theorem dX5_readBareTables_52 : decode cX5_readBareTables 52 = .ok (.invokevirtual 90, 3) := by decide +kernel
theorem dX5_readBareTables_55 : decode cX5_readBareTables 55 = .ok (.invokevirtual 122, 3) := by decide +kernel
theorem dX5_readBareTables_58 : decode cX5_readBareTables 58 = .ok (.iinc 2 1, 3) := by decide +kernel
theorem dX5_readBareTables_61 : decode cX5_readBareTables 61 = .ok (.iinc 4 1, 3) := by decide +kernel
theorem dX5_readBareTables_64 : decode cX5_readBareTables 64 = .ok (.goto (-35), 3) := by decide +kernel
theorem dX5_readBareTables_67 : decode cX5_readBareTables 67 = .ok (.iinc 3 1, 3) := by decide +kernel
theorem dX5_readBareTables_70 : decode cX5_readBareTables 70 = .ok (.goto (-50), 3) := by decide +kernel
theorem dX5_readBareTables_73 : decode cX5_readBareTables 73 = .ok (.return_, 1) := by decide +kernel
theorem dX6_init_0 : decode cX6_init 0 = .ok (.aload_n 0, 1) := by decide +kernel
theorem dX6_init_1 : decode cX6_init 1 = .ok (.invokespecial 3, 3) := by decide +kernel
theorem dX6_init_4 : decode cX6_init 4 = .ok (.aload_n 0, 1) := by decide +kernel
theorem dX6_init_5 : decode cX6_init 5 = .ok (.new 9, 3) := by decide +kernel
theorem dX6_init_8 : decode cX6_init 8 = .ok (.dup, 1) := by decide +kernel
theorem dX6_init_9 : decode cX6_init 9 = .ok (.invokespecial 11, 3) := by decide +kernel
theorem dX6_init_12 : decode cX6_init 12 = .ok (.putfield 12, 3) := by decide +kernel
theorem dX6_init_15 : decode cX6_init 15 = .ok (.aload_n 0, 1) := by decide +kernel
theorem dX6_init_16 : decode cX6_init 16 = .ok (.new 18, 3) := by decide +kernel
theorem dX6_init_19 : decode cX6_init 19 = .ok (.dup, 1) := by decide +kernel
theorem dX6_init_20 : decode cX6_init 20 = .ok (.sipush 1000, 3) := by decide +kernel
theorem dX6_init_23 : decode cX6_init 23 = .ok (.invokespecial 20, 3) := by decide +kernel
theorem dX6_init_26 : decode cX6_init 26 = .ok (.putfield 23, 3) := by decide +kernel
theorem dX6_init_29 : decode cX6_init 29 = .ok (.return_, 1) := by decide +kernel
theorem dX6_writePacked_0 : decode cX6_writePacked 0 = .ok (.aload_n 1, 1) := by decide +kernel
theorem dX6_writePacked_1 : decode cX6_writePacked 1 = .ok (.invokestatic 27, 3) := by decide +kernel
theorem dX6_writePacked_4 : decode cX6_writePacked 4 = .ok (.aload_n 1, 1) := by decide +kernel
theorem dX6_writePacked_5 : decode cX6_writePacked 5 = .ok (.iconst 0, 1) := by decide +kernel
theorem dX6_writePacked_6 : decode cX6_writePacked 6 = .ok (.invokevirtual 33, 3) := by decide +kernel
theorem dX6_writePacked_9 : decode cX6_writePacked 9 = .ok (.invokevirtual 39, 3) := by decide +kernel
theorem dX6_writePacked_12 : decode cX6_writePacked 12 = .ok (.istore_n 3, 1) := by decide +kernel
theorem dX6_writePacked_13 : decode cX6_writePacked 13 = .ok (.aload_n 1, 1) := by decide +kernel
theorem dX6_writePacked_14 : decode cX6_writePacked 14 = .ok (.iconst 1, 1) := by decide +kernel
theorem dX6_writePacked_15 : decode cX6_writePacked 15 = .ok (.invokevirtual 33, 3) := by decide +kernel
theorem dX6_writePacked_18 : decode cX6_writePacked 18 = .ok (.invokevirtual 39, 3) := by decide +kernel
theorem dX6_writePacked_21 : decode cX6_writePacked 21 = .ok (.istore 4, 2) := by decide +kernel
theorem dX6_writePacked_23 : decode cX6_writePacked 23 = .ok (.aload_n 0, 1) := by decide +kernel
theorem dX6_writePacked_24 : decode cX6_writePacked 24 = .ok (.getfield 12, 3) := by decide +kernel
theorem dX6_writePacked_27 : decode cX6_writePacked 27 = .ok (.aload_n 1, 1) := by decide +kernel
theorem dX6_writePacked_28 : decode cX6_writePacked 28 = .ok (.invokevirtual 43, 3) := by decide +kernel
theorem dX6_writePacked_31 : decode cX6_writePacked 31 = .ok (.aload_n 0, 1) := by decide +kernel
theorem dX6_writePacked_32 : decode cX6_writePacked 32 = .ok (.getfield 23, 3) := by decide +kernel
theorem dX6_writePacked_35 : decode cX6_writePacked 35 = .ok (.invokevirtual 44, 3) := by decide +kernel
theorem dX6_writePacked_38 : decode cX6_writePacked 38 = .ok (.aload_n 2, 1) := by decide +kernel
theorem dX6_writePacked_39 : decode cX6_writePacked 39 = .ok (.invokevirtual 44, 3) := by decide +kernel
theorem dX6_writePacked_42 : decode cX6_writePacked 42 = .ok (.aload_n 2, 1) := by decide +kernel
theorem dX6_writePacked_43 : decode cX6_writePacked 43 = .ok (.bipush 119, 2) := by decide +kernel
theorem dX6_writePacked_45 : decode cX6_writePacked 45 = .ok (.invokevirtual 47, 3) := by decide +kernel
theorem dX6_writePacked_48 : decode cX6_writePacked 48 = .ok (.aload_n 2, 1) := by decide +kernel
theorem dX6_writePacked_49 : decode cX6_writePacked 49 = .ok (.bipush 50, 2) := by decide +kernel
theorem dX6_writePacked_51 : decode cX6_writePacked 51 = .ok (.invokevirtual 47, 3) := by decide +kernel
theorem dX6_writePacked_54 : decode cX6_writePacked 54 = .ok (.aload_n 2, 1) := by decide +kernel
theorem dX6_writePacked_55 : decode cX6_writePacked 55 = .ok (.aload_n 1, 1) := by decide +kernel
theorem dX6_writePacked_56 : decode cX6_writePacked 56 = .ok (.invokevirtual 50, 3) := by decide +kernel
theorem dX6_writePacked_59 : decode cX6_writePacked 59 = .ok (.invokevirtual 47, 3) := by decide +kernel
theorem dX6_writePacked_62 : decode cX6_writePacked 62 = .ok (.iconst 0, 1) := by decide +kernel
theorem dX6_writePacked_63 : decode cX6_writePacked 63 = .ok (.istore 5, 2) := by decide +kernel
theorem dX6_writePacked_65 : decode cX6_writePacked 65 = .ok (.iload 5, 2) := by decide +kernel
theorem dX6_writePacked_67 : decode cX6_writePacked 67 = .ok (.bipush 7, 2) := by decide +kernel
theorem dX6_writePacked_69 : decode cX6_writePacked 69 = .ok (.if_icmp .ge 83, 3) := by decide +kernel
theorem dX6_writePacked_72 : decode cX6_writePacked 72 = .ok (.aload_n 1, 1) := by decide +kernel
theorem dX6_writePacked_73 : decode cX6_writePacked 73 = .ok (.iload 5, 2) := by decide +kernel
theorem dX6_writePacked_75 : decode cX6_writePacked 75 = .ok (.invokevirtual 53, 3) := by decide +kernel
theorem dX6_writePacked_78 : decode cX6_writePacked 78 = .ok (.ifCond .eq 68, 3) := by decide +kernel
theorem dX6_writePacked_81 : decode cX6_writePacked 81 = .ok (.aload_n 1, 1) := by decide +kernel
theorem dX6_writePacked_82 : decode cX6_writePacked 82 = .ok (.iload 5, 2) := by decide +kernel
theorem dX6_writePacked_84 : decode cX6_writePacked 84 = .ok (.invokevirtual 33, 3) := by decide +kernel
theorem dX6_writePacked_87 : decode cX6_writePacked 87 = .ok (.astore 6, 2) := by decide +kernel
theorem dX6_writePacked_89 : decode cX6_writePacked 89 = .ok (.iload 5, 2) := by decide +kernel
theorem dX6_writePacked_91 : decode cX6_writePacked 91 = .ok (.iconst 2, 1) := by decide +kernel
theorem dX6_writePacked_92 : decode cX6_writePacked 92 = .ok (.if_icmp .ge 30, 3) := by decide +kernel
theorem dX6_writePacked_95 : decode cX6_writePacked 95 = .ok (.aload_n 2, 1) := by decide +kernel
theorem dX6_writePacked_96 : decode cX6_writePacked 96 = .ok (.iload 5, 2) := by decide +kernel
theorem dX6_writePacked_98 : decode cX6_writePacked 98 = .ok (.bipush 64, 2) := by decide +kernel
theorem dX6_writePacked_100 : decode cX6_writePacked 100 = .ok (.iadd, 1) := by decide +kernel
theorem dX6_writePacked_101 : decode cX6_writePacked 101 = .ok (.invokevirtual 47, 3) := by decide +kernel
theorem dX6_writePacked_104 : decode cX6_writePacked 104 = .ok (.aload_n 2, 1) := by decide +kernel
theorem dX6_writePacked_105 : decode cX6_writePacked 105 = .ok (.iload 5, 2) := by decide +kernel
theorem dX6_writePacked_107 : decode cX6_writePacked 107 = .ok (.ifCond .ne 7, 3) := by decide +kernel
theorem dX6_writePacked_110 : decode cX6_writePacked 110 = .ok (.iload_n 3, 1) := by decide +kernel
theorem dX6_writePacked_111 : decode cX6_writePacked 111 = .ok (.goto 5, 3) := by decide +kernel
theorem dX6_writePacked_114 : decode cX6_writePacked 114 = .ok (.iload 4, 2) := by decide +kernel
theorem dX6_writePacked_116 : decode cX6_writePacked 116 = .ok (.invokevirtual 57, 3) := by decide +kernel
theorem dX6_writePacked_119 : decode cX6_writePacked 119 = .ok (.goto 9, 3) := by decide +kernel
theorem dX6_writePacked_122 : decode cX6_writePacked 122 = .ok (.aload_n 2, 1) := by decide +kernel
theorem dX6_writePacked_123 : decode cX6_writePacked 123 = .ok (.iload 5, 2) := by decide +kernel
theorem dX6_writePacked_125 : decode cX6_writePacked 125 = .ok (.invokevirtual 47, 3) := by decide +kernel
theorem dX6_writePacked_128 : decode cX6_writePacked 128 = .ok (.aload_n 2, 1) := by decide +kernel
theorem dX6_writePacked_129 : decode cX6_writePacked 129 = .ok (.aload 6, 2) := by decide +kernel
theorem dX6_writePacked_131 : decode cX6_writePacked 131 = .ok (.invokevirtual 39, 3) := by decide +kernel
theorem dX6_writePacked_134 : decode cX6_writePacked 134 = .ok (.invokevirtual 57, 3) := by decide +kernel
theorem dX6_writePacked_137 : decode cX6_writePacked 137 = .ok (.aload_n 0, 1) := by decide +kernel
theorem dX6_writePacked_138 : decode cX6_writePacked 138 = .ok (.getfield 23, 3) := by decide +kernel
theorem dX6_writePacked_141 : decode cX6_writePacked 141 = .ok (.aload 6, 2) := by decide +kernel
theorem dX6_writePacked_143 : decode cX6_writePacked 143 = .ok (.invokevirtual 60, 3) := by decide +kernel
theorem dX6_writePacked_146 : decode cX6_writePacked 146 = .ok (.iinc 5 1, 3) := by decide +kernel
theorem dX6_writePacked_149 : decode cX6_writePacked 149 = .ok (.goto (-84), 3) := by decide +kernel
theorem dX6_writePacked_152 : decode cX6_writePacked 152 = .ok (.aload_n 2, 1) := by decide +kernel
theorem dX6_writePacked_153 : decode cX6_writePacked 153 = .ok (.aload_n 0, 1) := by decide +kernel
theorem dX6_writePacked_154 : decode cX6_writePacked 154 = .ok (.getfield 23, 3) := by decide +kernel
theorem dX6_writePacked_157 : decode cX6_writePacked 157 = .ok (.invokevirtual 39, 3) := by decide +kernel
theorem dX6_writePacked_160 : decode cX6_writePacked 160 = .ok (.invokevirtual 57, 3) := by decide +kernel
theorem dX6_writePacked_163 : decode cX6_writePacked 163 = .ok (.aload_n 0, 1) := by decide +kernel
theorem dX6_writePacked_164 : decode cX6_writePacked 164 = .ok (.new 64, 3) := by decide +kernel
theorem dX6_writePacked_167 : decode cX6_writePacked 167 = .ok (.dup, 1) := by decide +kernel
theorem dX6_writePacked_168 : decode cX6_writePacked 168 = .ok (.aload_n 2, 1) := by decide +kernel
theorem dX6_writePacked_169 : decode cX6_writePacked 169 = .ok (.invokespecial 66, 3) := by decide +kernel
theorem dX6_writePacked_172 : decode cX6_writePacked 172 = .ok (.invokevirtual 68, 3) := by decide +kernel
theorem dX6_writePacked_175 : decode cX6_writePacked 175 = .ok (.return_, 1) := by decide +kernel
theorem dX6_compressStream_0 : decode cX6_compressStream 0 = .ok (.iconst 0, 1) := by decide +kernel
theorem dX6_compressStream_1 : decode cX6_compressStream 1 = .ok (.istore_n 2, 1) := by decide +kernel
theorem dX6_compressStream_2 : decode cX6_compressStream 2 = .ok (.iload_n 2, 1) := by decide +kernel
theorem dX6_compressStream_3 : decode cX6_compressStream 3 = .ok (.aload_n 0, 1) := by decide +kernel
theorem dX6_compressStream_4 : decode cX6_compressStream 4 = .ok (.getfield 23, 3) := by decide +kernel
theorem dX6_compressStream_7 : decode cX6_compressStream 7 = .ok (.invokevirtual 39, 3) := by decide +kernel
theorem dX6_compressStream_10 : decode cX6_compressStream 10 = .ok (.if_icmp .ge 79, 3) := by decide +kernel
theorem dX6_compressStream_13 : decode cX6_compressStream 13 = .ok (.aload_n 0, 1) := by decide +kernel
theorem dX6_compressStream_14 : decode cX6_compressStream 14 = .ok (.iload_n 2, 1) := by decide +kernel
theorem dX6_compressStream_15 : decode cX6_compressStream 15 = .ok (.invokevirtual 72, 3) := by decide +kernel
theorem dX6_compressStream_18 : decode cX6_compressStream 18 = .ok (.istore_n 3, 1) := by decide +kernel
theorem dX6_compressStream_19 : decode cX6_compressStream 19 = .ok (.aload_n 0, 1) := by decide +kernel
theorem dX6_compressStream_20 : decode cX6_compressStream 20 = .ok (.getfield 23, 3) := by decide +kernel
theorem dX6_compressStream_23 : decode cX6_compressStream 23 = .ok (.iload_n 2, 1) := by decide +kernel
theorem dX6_compressStream_24 : decode cX6_compressStream 24 = .ok (.iload_n 3, 1) := by decide +kernel
theorem dX6_compressStream_25 : decode cX6_compressStream 25 = .ok (.invokevirtual 76, 3) := by decide +kernel
theorem dX6_compressStream_28 : decode cX6_compressStream 28 = .ok (.istore 4, 2) := by decide +kernel
theorem dX6_compressStream_30 : decode cX6_compressStream 30 = .ok (.iload 4, 2) := by decide +kernel
theorem dX6_compressStream_32 : decode cX6_compressStream 32 = .ok (.iconst 3, 1) := by decide +kernel
theorem dX6_compressStream_33 : decode cX6_compressStream 33 = .ok (.if_icmp .lt 30, 3) := by decide +kernel
theorem dX6_compressStream_36 : decode cX6_compressStream 36 = .ok (.aload_n 1, 1) := by decide +kernel
theorem dX6_compressStream_37 : decode cX6_compressStream 37 = .ok (.iconst 1, 1) := by decide +kernel
theorem dX6_compressStream_38 : decode cX6_compressStream 38 = .ok (.iconst 1, 1) := by decide +kernel
theorem dX6_compressStream_39 : decode cX6_compressStream 39 = .ok (.invokevirtual 80, 3) := by decide +kernel
theorem dX6_compressStream_42 : decode cX6_compressStream 42 = .ok (.aload_n 1, 1) := by decide +kernel
theorem dX6_compressStream_43 : decode cX6_compressStream 43 = .ok (.iload 4, 2) := by decide +kernel
theorem dX6_compressStream_45 : decode cX6_compressStream 45 = .ok (.iconst 2, 1) := by decide +kernel
theorem dX6_compressStream_46 : decode cX6_compressStream 46 = .ok (.isub, 1) := by decide +kernel
theorem dX6_compressStream_47 : decode cX6_compressStream 47 = .ok (.invokevirtual 84, 3) := by decide +kernel
theorem dX6_compressStream_50 : decode cX6_compressStream 50 = .ok (.aload_n 1, 1) := by decide +kernel
theorem dX6_compressStream_51 : decode cX6_compressStream 51 = .ok (.iload_n 3, 1) := by decide +kernel
theorem dX6_compressStream_52 : decode cX6_compressStream 52 = .ok (.invokevirtual 84, 3) := by decide +kernel
theorem dX6_compressStream_55 : decode cX6_compressStream 55 = .ok (.iload_n 2, 1) := by decide +kernel
theorem dX6_compressStream_56 : decode cX6_compressStream 56 = .ok (.iload 4, 2) := by decide +kernel
theorem dX6_compressStream_58 : decode cX6_compressStream 58 = .ok (.iadd, 1) := by decide +kernel
theorem dX6_compressStream_59 : decode cX6_compressStream 59 = .ok (.istore_n 2, 1) := by decide +kernel
theorem dX6_compressStream_60 : decode cX6_compressStream 60 = .ok (.goto 26, 3) := by decide +kernel
theorem dX6_compressStream_63 : decode cX6_compressStream 63 = .ok (.aload_n 1, 1) := by decide +kernel
theorem dX6_compressStream_64 : decode cX6_compressStream 64 = .ok (.iconst 0, 1) := by decide +kernel
theorem dX6_compressStream_65 : decode cX6_compressStream 65 = .ok (.iconst 1, 1) := by decide +kernel
theorem dX6_compressStream_66 : decode cX6_compressStream 66 = .ok (.invokevirtual 80, 3) := by decide +kernel
theorem dX6_compressStream_69 : decode cX6_compressStream 69 = .ok (.aload_n 1, 1) := by decide +kernel
theorem dX6_compressStream_70 : decode cX6_compressStream 70 = .ok (.aload_n 0, 1) := by decide +kernel
theorem dX6_compressStream_71 : decode cX6_compressStream 71 = .ok (.getfield 23, 3) := by decide +kernel
theorem dX6_compressStream_74 : decode cX6_compressStream 74 = .ok (.iload_n 2, 1) := by decide +kernel
theorem dX6_compressStream_75 : decode cX6_compressStream 75 = .ok (.invokevirtual 87, 3) := by decide +kernel
theorem dX6_compressStream_78 : decode cX6_compressStream 78 = .ok (.bipush 8, 2) := by decide +kernel
theorem dX6_compressStream_80 : decode cX6_compressStream 80 = .ok (.invokevirtual 80, 3) := by decide +kernel
theorem dX6_compressStream_83 : decode cX6_compressStream 83 = .ok (.iinc 2 1, 3) := by decide +kernel
theorem dX6_compressStream_86 : decode cX6_compressStream 86 = .ok (.goto (-84), 3) := by decide +kernel
theorem dX6_compressStream_89 : decode cX6_compressStream 89 = .ok (.aload_n 1, 1) := by decide +kernel
theorem dX6_compressStream_90 : decode cX6_compressStream 90 = .ok (.invokevirtual 90, 3) := by decide +kernel
theorem dX6_compressStream_93 : decode cX6_compressStream 93 = .ok (.return_, 1) := by decide +kernel
theorem dX6_bestDistance_0 : decode cX6_bestDistance 0 = .ok (.iconst 0, 1) := by decide +kernel
theorem dX6_bestDistance_1 : decode cX6_bestDistance 1 = .ok (.istore_n 2, 1) := by decide +kernel
theorem dX6_bestDistance_2 : decode cX6_bestDistance 2 = .ok (.iconst 0, 1) := by decide +kernel
theorem dX6_bestDistance_3 : decode cX6_bestDistance 3 = .ok (.istore_n 3, 1) := by decide +kernel
theorem dX6_bestDistance_4 : decode cX6_bestDistance 4 = .ok (.iconst 1, 1) := by decide +kernel
theorem dX6_bestDistance_5 : decode cX6_bestDistance 5 = .ok (.istore 4, 2) := by decide +kernel
theorem dX6_bestDistance_7 : decode cX6_bestDistance 7 = .ok (.iload 4, 2) := by decide +kernel
theorem dX6_bestDistance_9 : decode cX6_bestDistance 9 = .ok (.iload_n 1, 1) := by decide +kernel
theorem dX6_bestDistance_10 : decode cX6_bestDistance 10 = .ok (.if_icmp .gt 46, 3) := by decide +kernel
theorem dX6_bestDistance_13 : decode cX6_bestDistance 13 = .ok (.iload_n 2, 1) := by decide +kernel
theorem dX6_bestDistance_14 : decode cX6_bestDistance 14 = .ok (.aload_n 0, 1) := by decide +kernel
theorem dX6_bestDistance_15 : decode cX6_bestDistance 15 = .ok (.getfield 23, 3) := by decide +kernel
theorem dX6_bestDistance_18 : decode cX6_bestDistance 18 = .ok (.invokevirtual 39, 3) := by decide +kernel
theorem dX6_bestDistance_21 : decode cX6_bestDistance 21 = .ok (.iload_n 1, 1) := by decide +kernel
theorem dX6_bestDistance_22 : decode cX6_bestDistance 22 = .ok (.isub, 1) := by decide +kernel
theorem dX6_bestDistance_23 : decode cX6_bestDistance 23 = .ok (.if_icmp .ge 33, 3) := by decide +kernel
theorem dX6_bestDistance_26 : decode cX6_bestDistance 26 = .ok (.aload_n 0, 1) := by decide +kernel
theorem dX6_bestDistance_27 : decode cX6_bestDistance 27 = .ok (.getfield 23, 3) := by decide +kernel
theorem dX6_bestDistance_30 : decode cX6_bestDistance 30 = .ok (.iload_n 1, 1) := by decide +kernel
theorem dX6_bestDistance_31 : decode cX6_bestDistance 31 = .ok (.iload 4, 2) := by decide +kernel
theorem dX6_bestDistance_33 : decode cX6_bestDistance 33 = .ok (.invokevirtual 76, 3) := by decide +kernel
theorem dX6_bestDistance_36 : decode cX6_bestDistance 36 = .ok (.istore 5, 2) := by decide +kernel
theorem dX6_bestDistance_38 : decode cX6_bestDistance 38 = .ok (.iload 5, 2) := by decide +kernel
theorem dX6_bestDistance_40 : decode cX6_bestDistance 40 = .ok (.iload_n 2, 1) := by decide +kernel
theorem dX6_bestDistance_41 : decode cX6_bestDistance 41 = .ok (.if_icmp .le 9, 3) := by decide +kernel
theorem dX6_bestDistance_44 : decode cX6_bestDistance 44 = .ok (.iload 5, 2) := by decide +kernel
theorem dX6_bestDistance_46 : decode cX6_bestDistance 46 = .ok (.istore_n 2, 1) := by decide +kernel
theorem dX6_bestDistance_47 : decode cX6_bestDistance 47 = .ok (.iload 4, 2) := by decide +kernel
theorem dX6_bestDistance_49 : decode cX6_bestDistance 49 = .ok (.istore_n 3, 1) := by decide +kernel
theorem dX6_bestDistance_50 : decode cX6_bestDistance 50 = .ok (.iinc 4 1, 3) := by decide +kernel
theorem dX6_bestDistance_53 : decode cX6_bestDistance 53 = .ok (.goto (-46), 3) := by decide +kernel
theorem dX6_bestDistance_56 : decode cX6_bestDistance 56 = .ok (.iload_n 3, 1) := by decide +kernel
theorem dX6_bestDistance_57 : decode cX6_bestDistance 57 = .ok (.ireturn, 1) := by decide +kernel
theorem dX7_writePlain_0 : decode cX7_writePlain 0 = .ok (.aload_n 0, 1) := by decide +kernel
theorem dX7_writePlain_1 : decode cX7_writePlain 1 = .ok (.invokestatic 9, 3) := by decide +kernel
theorem dX7_writePlain_4 : decode cX7_writePlain 4 = .ok (.aload_n 1, 1) := by decide +kernel
theorem dX7_writePlain_5 : decode cX7_writePlain 5 = .ok (.invokevirtual 15, 3) := by decide +kernel
theorem dX7_writePlain_8 : decode cX7_writePlain 8 = .ok (.aload_n 1, 1) := by decide +kernel
theorem dX7_writePlain_9 : decode cX7_writePlain 9 = .ok (.aload_n 0, 1) := by decide +kernel
theorem dX7_writePlain_10 : decode cX7_writePlain 10 = .ok (.invokevirtual 20, 3) := by decide +kernel
theorem dX7_writePlain_13 : decode cX7_writePlain 13 = .ok (.invokevirtual 26, 3) := by decide +kernel
theorem dX7_writePlain_16 : decode cX7_writePlain 16 = .ok (.iconst 1, 1) := by decide +kernel
theorem dX7_writePlain_17 : decode cX7_writePlain 17 = .ok (.bipush 9, 2) := by decide +kernel
theorem dX7_writePlain_19 : decode cX7_writePlain 19 = .ok (.aload_n 0, 1) := by decide +kernel
theorem dX7_writePlain_20 : decode cX7_writePlain 20 = .ok (.invokevirtual 20, 3) := by decide +kernel
theorem dX7_writePlain_23 : decode cX7_writePlain 23 = .ok (.imul, 1) := by decide +kernel
theorem dX7_writePlain_24 : decode cX7_writePlain 24 = .ok (.iadd, 1) := by decide +kernel
theorem dX7_writePlain_25 : decode cX7_writePlain 25 = .ok (.istore_n 2, 1) := by decide +kernel
theorem dX7_writePlain_26 : decode cX7_writePlain 26 = .ok (.iconst 0, 1) := by decide +kernel
theorem dX7_writePlain_27 : decode cX7_writePlain 27 = .ok (.istore_n 3, 1) := by decide +kernel
theorem dX7_writePlain_28 : decode cX7_writePlain 28 = .ok (.iload_n 3, 1) := by decide +kernel
theorem dX7_writePlain_29 : decode cX7_writePlain 29 = .ok (.bipush 7, 2) := by decide +kernel
theorem dX7_writePlain_31 : decode cX7_writePlain 31 = .ok (.if_icmp .ge 72, 3) := by decide +kernel
theorem dX7_writePlain_34 : decode cX7_writePlain 34 = .ok (.aload_n 0, 1) := by decide +kernel
theorem dX7_writePlain_35 : decode cX7_writePlain 35 = .ok (.iload_n 3, 1) := by decide +kernel
theorem dX7_writePlain_36 : decode cX7_writePlain 36 = .ok (.invokevirtual 30, 3) := by decide +kernel
theorem dX7_writePlain_39 : decode cX7_writePlain 39 = .ok (.ifCond .eq 58, 3) := by decide +kernel
theorem dX7_writePlain_42 : decode cX7_writePlain 42 = .ok (.aload_n 0, 1) := by decide +kernel
theorem dX7_writePlain_43 : decode cX7_writePlain 43 = .ok (.iload_n 3, 1) := by decide +kernel
theorem dX7_writePlain_44 : decode cX7_writePlain 44 = .ok (.invokevirtual 34, 3) := by decide +kernel
theorem dX7_writePlain_47 : decode cX7_writePlain 47 = .ok (.astore 4, 2) := by decide +kernel
theorem dX7_writePlain_49 : decode cX7_writePlain 49 = .ok (.aload_n 1, 1) := by decide +kernel
theorem dX7_writePlain_50 : decode cX7_writePlain 50 = .ok (.iload_n 3, 1) := by decide +kernel
theorem dX7_writePlain_51 : decode cX7_writePlain 51 = .ok (.invokevirtual 26, 3) := by decide +kernel
theorem dX7_writePlain_54 : decode cX7_writePlain 54 = .ok (.aload_n 1, 1) := by decide +kernel
theorem dX7_writePlain_55 : decode cX7_writePlain 55 = .ok (.aload 4, 2) := by decide +kernel
theorem dX7_writePlain_57 : decode cX7_writePlain 57 = .ok (.invokestatic 38, 3) := by decide +kernel
theorem dX7_writePlain_60 : decode cX7_writePlain 60 = .ok (.i2l, 1) := by decide +kernel
theorem dX7_writePlain_61 : decode cX7_writePlain 61 = .ok (.iconst 4, 1) := by decide +kernel
theorem dX7_writePlain_62 : decode cX7_writePlain 62 = .ok (.invokevirtual 42, 3) := by decide +kernel
theorem dX7_writePlain_65 : decode cX7_writePlain 65 = .ok (.aload_n 1, 1) := by decide +kernel
theorem dX7_writePlain_66 : decode cX7_writePlain 66 = .ok (.iload_n 2, 1) := by decide +kernel
theorem dX7_writePlain_67 : decode cX7_writePlain 67 = .ok (.i2l, 1) := by decide +kernel
theorem dX7_writePlain_68 : decode cX7_writePlain 68 = .ok (.iconst 2, 1) := by decide +kernel
theorem dX7_writePlain_69 : decode cX7_writePlain 69 = .ok (.invokevirtual 42, 3) := by decide +kernel
theorem dX7_writePlain_72 : decode cX7_writePlain 72 = .ok (.aload_n 1, 1) := by decide +kernel
theorem dX7_writePlain_73 : decode cX7_writePlain 73 = .ok (.aload 4, 2) := by decide +kernel
theorem dX7_writePlain_75 : decode cX7_writePlain 75 = .ok (.invokevirtual 46, 3) := by decide +kernel
theorem dX7_writePlain_78 : decode cX7_writePlain 78 = .ok (.i2l, 1) := by decide +kernel
theorem dX7_writePlain_79 : decode cX7_writePlain 79 = .ok (.iconst 2, 1) := by decide +kernel
theorem dX7_writePlain_80 : decode cX7_writePlain 80 = .ok (.invokevirtual 42, 3) := by decide +kernel
theorem dX7_writePlain_83 : decode cX7_writePlain 83 = .ok (.iload_n 2, 1) := by decide +kernel
theorem dX7_writePlain_84 : decode cX7_writePlain 84 = .ok (.aload 4, 2) := by decide +kernel
theorem dX7_writePlain_86 : decode cX7_writePlain 86 = .ok (.invokevirtual 46, 3) := by decide +kernel
theorem dX7_writePlain_89 : decode cX7_writePlain 89 = .ok (.aload 4, 2) := by decide +kernel
theorem dX7_writePlain_91 : decode cX7_writePlain 91 = .ok (.invokestatic 49, 3) := by decide +kernel
theorem dX7_writePlain_94 : decode cX7_writePlain 94 = .ok (.iadd, 1) := by decide +kernel
theorem dX7_writePlain_95 : decode cX7_writePlain 95 = .ok (.iadd, 1) := by decide +kernel
theorem dX7_writePlain_96 : decode cX7_writePlain 96 = .ok (.istore_n 2, 1) := by decide +kernel
theorem dX7_writePlain_97 : decode cX7_writePlain 97 = .ok (.iinc 3 1, 3) := by decide +kernel
theorem dX7_writePlain_100 : decode cX7_writePlain 100 = .ok (.goto (-72), 3) := by decide +kernel
theorem dX7_writePlain_103 : decode cX7_writePlain 103 = .ok (.iconst 0, 1) := by decide +kernel
theorem dX7_writePlain_104 : decode cX7_writePlain 104 = .ok (.istore_n 3, 1) := by decide +kernel
theorem dX7_writePlain_105 : decode cX7_writePlain 105 = .ok (.iload_n 3, 1) := by decide +kernel
theorem dX7_writePlain_106 : decode cX7_writePlain 106 = .ok (.bipush 7, 2) := by decide +kernel
theorem dX7_writePlain_108 : decode cX7_writePlain 108 = .ok (.if_icmp .ge 38, 3) := by decide +kernel
theorem dX7_writePlain_111 : decode cX7_writePlain 111 = .ok (.aload_n 0, 1) := by decide +kernel
theorem dX7_writePlain_112 : decode cX7_writePlain 112 = .ok (.iload_n 3, 1) := by decide +kernel
theorem dX7_writePlain_113 : decode cX7_writePlain 113 = .ok (.invokevirtual 30, 3) := by decide +kernel
theorem dX7_writePlain_116 : decode cX7_writePlain 116 = .ok (.ifCond .eq 24, 3) := by decide +kernel
theorem dX7_writePlain_119 : decode cX7_writePlain 119 = .ok (.aload_n 1, 1) := by decide +kernel
theorem dX7_writePlain_120 : decode cX7_writePlain 120 = .ok (.aload_n 0, 1) := by decide +kernel
theorem dX7_writePlain_121 : decode cX7_writePlain 121 = .ok (.iload_n 3, 1) := by decide +kernel
theorem dX7_writePlain_122 : decode cX7_writePlain 122 = .ok (.invokevirtual 34, 3) := by decide +kernel
theorem dX7_writePlain_125 : decode cX7_writePlain 125 = .ok (.invokevirtual 52, 3) := by decide +kernel
theorem dX7_writePlain_128 : decode cX7_writePlain 128 = .ok (.aload_n 1, 1) := by decide +kernel
theorem dX7_writePlain_129 : decode cX7_writePlain 129 = .ok (.aload_n 0, 1) := by decide +kernel
theorem dX7_writePlain_130 : decode cX7_writePlain 130 = .ok (.iload_n 3, 1) := by decide +kernel
theorem dX7_writePlain_131 : decode cX7_writePlain 131 = .ok (.invokevirtual 34, 3) := by decide +kernel
theorem dX7_writePlain_134 : decode cX7_writePlain 134 = .ok (.invokestatic 49, 3) := by decide +kernel
theorem dX7_writePlain_137 : decode cX7_writePlain 137 = .ok (.invokevirtual 56, 3) := by decide +kernel
theorem dX7_writePlain_140 : decode cX7_writePlain 140 = .ok (.iinc 3 1, 3) := by decide +kernel
theorem dX7_writePlain_143 : decode cX7_writePlain 143 = .ok (.goto (-38), 3) := by decide +kernel
theorem dX7_writePlain_146 : decode cX7_writePlain 146 = .ok (.return_, 1) := by decide +kernel
theorem dX7_makeTables_0 : decode cX7_makeTables 0 = .ok (.aload_n 0, 1) := by decide +kernel
theorem dX7_makeTables_1 : decode cX7_makeTables 1 = .ok (.iconst 0, 1) := by decide +kernel
theorem dX7_makeTables_2 : decode cX7_makeTables 2 = .ok (.invokevirtual 34, 3) := by decide +kernel
theorem dX7_makeTables_5 : decode cX7_makeTables 5 = .ok (.astore_n 1, 1) := by decide +kernel
theorem dX7_makeTables_6 : decode cX7_makeTables 6 = .ok (.aload_n 0, 1) := by decide +kernel
theorem dX7_makeTables_7 : decode cX7_makeTables 7 = .ok (.iconst 1, 1) := by decide +kernel
theorem dX7_makeTables_8 : decode cX7_makeTables 8 = .ok (.invokevirtual 34, 3) := by decide +kernel
theorem dX7_makeTables_11 : decode cX7_makeTables 11 = .ok (.astore_n 2, 1) := by decide +kernel
theorem dX7_makeTables_12 : decode cX7_makeTables 12 = .ok (.aload_n 1, 1) := by decide +kernel
theorem dX7_makeTables_13 : decode cX7_makeTables 13 = .ok (.invokevirtual 15, 3) := by decide +kernel
theorem dX7_makeTables_16 : decode cX7_makeTables 16 = .ok (.aload_n 2, 1) := by decide +kernel
theorem dX7_makeTables_17 : decode cX7_makeTables 17 = .ok (.invokevirtual 15, 3) := by decide +kernel
theorem dX7_makeTables_20 : decode cX7_makeTables 20 = .ok (.iconst 0, 1) := by decide +kernel
theorem dX7_makeTables_21 : decode cX7_makeTables 21 = .ok (.istore_n 3, 1) := by decide +kernel
theorem dX7_makeTables_22 : decode cX7_makeTables 22 = .ok (.iload_n 3, 1) := by decide +kernel
theorem dX7_makeTables_23 : decode cX7_makeTables 23 = .ok (.aload_n 0, 1) := by decide +kernel
theorem dX7_makeTables_24 : decode cX7_makeTables 24 = .ok (.invokevirtual 59, 3) := by decide +kernel
theorem dX7_makeTables_27 : decode cX7_makeTables 27 = .ok (.if_icmp .ge 80, 3) := by decide +kernel
theorem dX7_makeTables_30 : decode cX7_makeTables 30 = .ok (.aload_n 0, 1) := by decide +kernel
theorem dX7_makeTables_31 : decode cX7_makeTables 31 = .ok (.iload_n 3, 1) := by decide +kernel
theorem dX7_makeTables_32 : decode cX7_makeTables 32 = .ok (.invokevirtual 62, 3) := by decide +kernel
theorem dX7_makeTables_35 : decode cX7_makeTables 35 = .ok (.astore 4, 2) := by decide +kernel
theorem dX7_makeTables_37 : decode cX7_makeTables 37 = .ok (.aload_n 1, 1) := by decide +kernel
theorem dX7_makeTables_38 : decode cX7_makeTables 38 = .ok (.invokevirtual 46, 3) := by decide +kernel
theorem dX7_makeTables_41 : decode cX7_makeTables 41 = .ok (.istore 5, 2) := by decide +kernel
theorem dX7_makeTables_43 : decode cX7_makeTables 43 = .ok (.aload_n 2, 1) := by decide +kernel
theorem dX7_makeTables_44 : decode cX7_makeTables 44 = .ok (.aload 4, 2) := by decide +kernel
theorem dX7_makeTables_46 : decode cX7_makeTables 46 = .ok (.invokevirtual 66, 3) := by decide +kernel
theorem dX7_makeTables_49 : decode cX7_makeTables 49 = .ok (.i2l, 1) := by decide +kernel
theorem dX7_makeTables_50 : decode cX7_makeTables 50 = .ok (.iconst 2, 1) := by decide +kernel
theorem dX7_makeTables_51 : decode cX7_makeTables 51 = .ok (.invokevirtual 42, 3) := by decide +kernel
theorem dX7_makeTables_54 : decode cX7_makeTables 54 = .ok (.aload_n 2, 1) := by decide +kernel
theorem dX7_makeTables_55 : decode cX7_makeTables 55 = .ok (.iload 5, 2) := by decide +kernel
theorem dX7_makeTables_57 : decode cX7_makeTables 57 = .ok (.i2l, 1) := by decide +kernel
theorem dX7_makeTables_58 : decode cX7_makeTables 58 = .ok (.iconst 2, 1) := by decide +kernel
theorem dX7_makeTables_59 : decode cX7_makeTables 59 = .ok (.invokevirtual 42, 3) := by decide +kernel
theorem dX7_makeTables_62 : decode cX7_makeTables 62 = .ok (.aload 4, 2) := by decide +kernel
theorem dX7_makeTables_64 : decode cX7_makeTables 64 = .ok (.invokevirtual 71, 3) := by decide +kernel
theorem dX7_makeTables_67 : decode cX7_makeTables 67 = .ok (.ifCond .le 34, 3) := by decide +kernel
theorem dX7_makeTables_70 : decode cX7_makeTables 70 = .ok (.aload 4, 2) := by decide +kernel
theorem dX7_makeTables_72 : decode cX7_makeTables 72 = .ok (.aload_n 1, 1) := by decide +kernel
theorem dX7_makeTables_73 : decode cX7_makeTables 73 = .ok (.invokestatic 74, 3) := by decide +kernel
theorem dX7_makeTables_76 : decode cX7_makeTables 76 = .ok (.aload 4, 2) := by decide +kernel
theorem dX7_makeTables_78 : decode cX7_makeTables 78 = .ok (.aload_n 1, 1) := by decide +kernel
theorem dX7_makeTables_79 : decode cX7_makeTables 79 = .ok (.invokestatic 78, 3) := by decide +kernel
theorem dX7_makeTables_82 : decode cX7_makeTables 82 = .ok (.aload 4, 2) := by decide +kernel
theorem dX7_makeTables_84 : decode cX7_makeTables 84 = .ok (.aload_n 1, 1) := by decide +kernel
theorem dX7_makeTables_85 : decode cX7_makeTables 85 = .ok (.invokestatic 81, 3) := by decide +kernel
theorem dX7_makeTables_88 : decode cX7_makeTables 88 = .ok (.aload_n 1, 1) := by decide +kernel
theorem dX7_makeTables_89 : decode cX7_makeTables 89 = .ok (.aload_n 1, 1) := by decide +kernel
theorem dX7_makeTables_90 : decode cX7_makeTables 90 = .ok (.invokevirtual 46, 3) := by decide +kernel
theorem dX7_makeTables_93 : decode cX7_makeTables 93 = .ok (.iload 5, 2) := by decide +kernel
theorem dX7_makeTables_95 : decode cX7_makeTables 95 = .ok (.isub, 1) := by decide +kernel
theorem dX7_makeTables_96 : decode cX7_makeTables 96 = .ok (.iconst 2, 1) := by decide +kernel
theorem dX7_makeTables_97 : decode cX7_makeTables 97 = .ok (.irem, 1) := by decide +kernel
theorem dX7_makeTables_98 : decode cX7_makeTables 98 = .ok (.invokevirtual 56, 3) := by decide +kernel
theorem dX7_makeTables_101 : decode cX7_makeTables 101 = .ok (.iinc 3 1, 3) := by decide +kernel
theorem dX7_makeTables_104 : decode cX7_makeTables 104 = .ok (.goto (-82), 3) := by decide +kernel
theorem dX7_makeTables_107 : decode cX7_makeTables 107 = .ok (.return_, 1) := by decide +kernel
theorem dX7_fillOf_0 : decode cX7_fillOf 0 = .ok (.aload_n 0, 1) := by decide +kernel
theorem dX7_fillOf_1 : decode cX7_fillOf 1 = .ok (.invokevirtual 46, 3) := by decide +kernel
theorem dX7_fillOf_4 : decode cX7_fillOf 4 = .ok (.ineg, 1) := by decide +kernel
theorem dX7_fillOf_5 : decode cX7_fillOf 5 = .ok (.iconst 4, 1) := by decide +kernel
theorem dX7_fillOf_6 : decode cX7_fillOf 6 = .ok (.invokestatic 84, 3) := by decide +kernel
theorem dX7_fillOf_9 : decode cX7_fillOf 9 = .ok (.ireturn, 1) := by decide +kernel
theorem dX7_checkOf_0 : decode cX7_checkOf 0 = .ok (.iconst 0, 1) := by decide +kernel
theorem dX7_checkOf_1 : decode cX7_checkOf 1 = .ok (.istore_n 1, 1) := by decide +kernel
theorem dX7_checkOf_2 : decode cX7_checkOf 2 = .ok (.iconst 0, 1) := by decide +kernel
theorem dX7_checkOf_3 : decode cX7_checkOf 3 = .ok (.istore_n 2, 1) := by decide +kernel
theorem dX7_checkOf_4 : decode cX7_checkOf 4 = .ok (.iload_n 2, 1) := by decide +kernel
theorem dX7_checkOf_5 : decode cX7_checkOf 5 = .ok (.aload_n 0, 1) := by decide +kernel
theorem dX7_checkOf_6 : decode cX7_checkOf 6 = .ok (.invokevirtual 46, 3) := by decide +kernel
theorem dX7_checkOf_9 : decode cX7_checkOf 9 = .ok (.if_icmp .ge 27, 3) := by decide +kernel
theorem dX7_checkOf_12 : decode cX7_checkOf 12 = .ok (.iload_n 1, 1) := by decide +kernel
theorem dX7_checkOf_13 : decode cX7_checkOf 13 = .ok (.aload_n 0, 1) := by decide +kernel
theorem dX7_checkOf_14 : decode cX7_checkOf 14 = .ok (.iload_n 2, 1) := by decide +kernel
theorem dX7_checkOf_15 : decode cX7_checkOf 15 = .ok (.invokevirtual 90, 3) := by decide +kernel
theorem dX7_checkOf_18 : decode cX7_checkOf 18 = .ok (.bipush 24, 2) := by decide +kernel
theorem dX7_checkOf_20 : decode cX7_checkOf 20 = .ok (.iload_n 2, 1) := by decide +kernel
theorem dX7_checkOf_21 : decode cX7_checkOf 21 = .ok (.iconst 4, 1) := by decide +kernel
theorem dX7_checkOf_22 : decode cX7_checkOf 22 = .ok (.irem, 1) := by decide +kernel
theorem dX7_checkOf_23 : decode cX7_checkOf 23 = .ok (.bipush 8, 2) := by decide +kernel
theorem dX7_checkOf_25 : decode cX7_checkOf 25 = .ok (.imul, 1) := by decide +kernel
theorem dX7_checkOf_26 : decode cX7_checkOf 26 = .ok (.isub, 1) := by decide +kernel
theorem dX7_checkOf_27 : decode cX7_checkOf 27 = .ok (.ishl, 1) := by decide +kernel
theorem dX7_checkOf_28 : decode cX7_checkOf 28 = .ok (.iadd, 1) := by decide +kernel
theorem dX7_checkOf_29 : decode cX7_checkOf 29 = .ok (.istore_n 1, 1) := by decide +kernel
theorem dX7_checkOf_30 : decode cX7_checkOf 30 = .ok (.iinc 2 1, 3) := by decide +kernel
theorem dX7_checkOf_33 : decode cX7_checkOf 33 = .ok (.goto (-29), 3) := by decide +kernel
theorem dX7_checkOf_36 : decode cX7_checkOf 36 = .ok (.iload_n 1, 1) := by decide +kernel
theorem dX7_checkOf_37 : decode cX7_checkOf 37 = .ok (.ireturn, 1) := by decide +kernel
theorem dX7_addContours_0 : decode cX7_addContours 0 = .ok (.aload_n 1, 1) := by decide +kernel
theorem dX7_addContours_1 : decode cX7_addContours 1 = .ok (.aload_n 0, 1) := by decide +kernel
theorem dX7_addContours_2 : decode cX7_addContours 2 = .ok (.invokevirtual 71, 3) := by decide +kernel
theorem dX7_addContours_5 : decode cX7_addContours 5 = .ok (.invokevirtual 26, 3) := by decide +kernel
theorem dX7_addContours_8 : decode cX7_addContours 8 = .ok (.iconst (-1), 1) := by decide +kernel
theorem dX7_addContours_9 : decode cX7_addContours 9 = .ok (.istore_n 2, 1) := by decide +kernel
theorem dX7_addContours_10 : decode cX7_addContours 10 = .ok (.iconst 0, 1) := by decide +kernel
theorem dX7_addContours_11 : decode cX7_addContours 11 = .ok (.istore_n 3, 1) := by decide +kernel
theorem dX7_addContours_12 : decode cX7_addContours 12 = .ok (.iload_n 3, 1) := by decide +kernel
theorem dX7_addContours_13 : decode cX7_addContours 13 = .ok (.aload_n 0, 1) := by decide +kernel
theorem dX7_addContours_14 : decode cX7_addContours 14 = .ok (.invokevirtual 71, 3) := by decide +kernel
theorem dX7_addContours_17 : decode cX7_addContours 17 = .ok (.if_icmp .ge 22, 3) := by decide +kernel
theorem dX7_addContours_20 : decode cX7_addContours 20 = .ok (.iload_n 2, 1) := by decide +kernel
theorem dX7_addContours_21 : decode cX7_addContours 21 = .ok (.aload_n 0, 1) := by decide +kernel
theorem dX7_addContours_22 : decode cX7_addContours 22 = .ok (.iload_n 3, 1) := by decide +kernel
theorem dX7_addContours_23 : decode cX7_addContours 23 = .ok (.invokevirtual 94, 3) := by decide +kernel
theorem dX7_addContours_26 : decode cX7_addContours 26 = .ok (.iadd, 1) := by decide +kernel
theorem dX7_addContours_27 : decode cX7_addContours 27 = .ok (.istore_n 2, 1) := by decide +kernel
theorem dX7_addContours_28 : decode cX7_addContours 28 = .ok (.aload_n 1, 1) := by decide +kernel
theorem dX7_addContours_29 : decode cX7_addContours 29 = .ok (.iload_n 2, 1) := by decide +kernel
theorem dX7_addContours_30 : decode cX7_addContours 30 = .ok (.invokevirtual 26, 3) := by decide +kernel
theorem dX7_addContours_33 : decode cX7_addContours 33 = .ok (.iinc 3 1, 3) := by decide +kernel
theorem dX7_addContours_36 : decode cX7_addContours 36 = .ok (.goto (-24), 3) := by decide +kernel
theorem dX7_addContours_39 : decode cX7_addContours 39 = .ok (.return_, 1) := by decide +kernel
theorem dX7_addFlags_0 : decode cX7_addFlags 0 = .ok (.iconst 0, 1) := by decide +kernel
theorem dX7_addFlags_1 : decode cX7_addFlags 1 = .ok (.istore_n 2, 1) := by decide +kernel
theorem dX7_addFlags_2 : decode cX7_addFlags 2 = .ok (.iload_n 2, 1) := by decide +kernel
theorem dX7_addFlags_3 : decode cX7_addFlags 3 = .ok (.aload_n 0, 1) := by decide +kernel
theorem dX7_addFlags_4 : decode cX7_addFlags 4 = .ok (.invokevirtual 97, 3) := by decide +kernel
theorem dX7_addFlags_7 : decode cX7_addFlags 7 = .ok (.if_icmp .ge 84, 3) := by decide +kernel
theorem dX7_addFlags_10 : decode cX7_addFlags 10 = .ok (.aload_n 0, 1) := by decide +kernel
theorem dX7_addFlags_11 : decode cX7_addFlags 11 = .ok (.iload_n 2, 1) := by decide +kernel
theorem dX7_addFlags_12 : decode cX7_addFlags 12 = .ok (.invokestatic 100, 3) := by decide +kernel
theorem dX7_addFlags_15 : decode cX7_addFlags 15 = .ok (.istore_n 3, 1) := by decide +kernel
theorem dX7_addFlags_16 : decode cX7_addFlags 16 = .ok (.iconst 0, 1) := by decide +kernel
theorem dX7_addFlags_17 : decode cX7_addFlags 17 = .ok (.istore 4, 2) := by decide +kernel
theorem dX7_addFlags_19 : decode cX7_addFlags 19 = .ok (.iload_n 2, 1) := by decide +kernel
theorem dX7_addFlags_20 : decode cX7_addFlags 20 = .ok (.iload 4, 2) := by decide +kernel
theorem dX7_addFlags_22 : decode cX7_addFlags 22 = .ok (.iadd, 1) := by decide +kernel
theorem dX7_addFlags_23 : decode cX7_addFlags 23 = .ok (.iconst 1, 1) := by decide +kernel
theorem dX7_addFlags_24 : decode cX7_addFlags 24 = .ok (.iadd, 1) := by decide +kernel
theorem dX7_addFlags_25 : decode cX7_addFlags 25 = .ok (.aload_n 0, 1) := by decide +kernel
theorem dX7_addFlags_26 : decode cX7_addFlags 26 = .ok (.invokevirtual 97, 3) := by decide +kernel
theorem dX7_addFlags_29 : decode cX7_addFlags 29 = .ok (.if_icmp .ge 23, 3) := by decide +kernel
theorem dX7_addFlags_32 : decode cX7_addFlags 32 = .ok (.aload_n 0, 1) := by decide +kernel
theorem dX7_addFlags_33 : decode cX7_addFlags 33 = .ok (.iload_n 2, 1) := by decide +kernel
theorem dX7_addFlags_34 : decode cX7_addFlags 34 = .ok (.iload 4, 2) := by decide +kernel
theorem dX7_addFlags_36 : decode cX7_addFlags 36 = .ok (.iadd, 1) := by decide +kernel
theorem dX7_addFlags_37 : decode cX7_addFlags 37 = .ok (.iconst 1, 1) := by decide +kernel
theorem dX7_addFlags_38 : decode cX7_addFlags 38 = .ok (.iadd, 1) := by decide +kernel
theorem dX7_addFlags_39 : decode cX7_addFlags 39 = .ok (.invokestatic 100, 3) := by decide +kernel
theorem dX7_addFlags_42 : decode cX7_addFlags 42 = .ok (.iload_n 3, 1) := by decide +kernel
theorem dX7_addFlags_43 : decode cX7_addFlags 43 = .ok (.if_icmp .ne 9, 3) := by decide +kernel
theorem dX7_addFlags_46 : decode cX7_addFlags 46 = .ok (.iinc 4 1, 3) := by decide +kernel
theorem dX7_addFlags_49 : decode cX7_addFlags 49 = .ok (.goto (-30), 3) := by decide +kernel
theorem dX7_addFlags_52 : decode cX7_addFlags 52 = .ok (.iload 4, 2) := by decide +kernel
theorem dX7_addFlags_54 : decode cX7_addFlags 54 = .ok (.iconst 2, 1) := by decide +kernel
theorem dX7_addFlags_55 : decode cX7_addFlags 55 = .ok (.if_icmp .lt 25, 3) := by decide +kernel
theorem dX7_addFlags_58 : decode cX7_addFlags 58 = .ok (.aload_n 1, 1) := by decide +kernel
theorem dX7_addFlags_59 : decode cX7_addFlags 59 = .ok (.iload_n 3, 1) := by decide +kernel
theorem dX7_addFlags_60 : decode cX7_addFlags 60 = .ok (.bipush 8, 2) := by decide +kernel
theorem dX7_addFlags_62 : decode cX7_addFlags 62 = .ok (.iadd, 1) := by decide +kernel
theorem dX7_addFlags_63 : decode cX7_addFlags 63 = .ok (.invokevirtual 26, 3) := by decide +kernel
theorem dX7_addFlags_66 : decode cX7_addFlags 66 = .ok (.aload_n 1, 1) := by decide +kernel
theorem dX7_addFlags_67 : decode cX7_addFlags 67 = .ok (.iload 4, 2) := by decide +kernel
theorem dX7_addFlags_69 : decode cX7_addFlags 69 = .ok (.invokevirtual 26, 3) := by decide +kernel
theorem dX7_addFlags_72 : decode cX7_addFlags 72 = .ok (.iload_n 2, 1) := by decide +kernel
theorem dX7_addFlags_73 : decode cX7_addFlags 73 = .ok (.iload 4, 2) := by decide +kernel
theorem dX7_addFlags_75 : decode cX7_addFlags 75 = .ok (.iadd, 1) := by decide +kernel
theorem dX7_addFlags_76 : decode cX7_addFlags 76 = .ok (.istore_n 2, 1) := by decide +kernel
theorem dX7_addFlags_77 : decode cX7_addFlags 77 = .ok (.goto 8, 3) := by decide +kernel
theorem dX7_addFlags_80 : decode cX7_addFlags 80 = .ok (.aload_n 1, 1) := by decide +kernel
theorem dX7_addFlags_81 : decode cX7_addFlags 81 = .ok (.iload_n 3, 1) := by decide +kernel
theorem dX7_addFlags_82 : decode cX7_addFlags 82 = .ok (.invokevirtual 26, 3) := by decide +kernel
theorem dX7_addFlags_85 : decode cX7_addFlags 85 = .ok (.iinc 2 1, 3) := by decide +kernel
theorem dX7_addFlags_88 : decode cX7_addFlags 88 = .ok (.goto (-86), 3) := by decide +kernel
theorem dX7_addFlags_91 : decode cX7_addFlags 91 = .ok (.return_, 1) := by decide +kernel
theorem dX7_flagOf_0 : decode cX7_flagOf 0 = .ok (.aload_n 0, 1) := by decide +kernel
theorem dX7_flagOf_1 : decode cX7_flagOf 1 = .ok (.iload_n 1, 1) := by decide +kernel
theorem dX7_flagOf_2 : decode cX7_flagOf 2 = .ok (.invokevirtual 104, 3) := by decide +kernel
theorem dX7_flagOf_5 : decode cX7_flagOf 5 = .ok (.ifCond .eq 7, 3) := by decide +kernel
theorem dX7_flagOf_8 : decode cX7_flagOf 8 = .ok (.iconst 1, 1) := by decide +kernel
theorem dX7_flagOf_9 : decode cX7_flagOf 9 = .ok (.goto 4, 3) := by decide +kernel
theorem dX7_flagOf_12 : decode cX7_flagOf 12 = .ok (.iconst 0, 1) := by decide +kernel
theorem dX7_flagOf_13 : decode cX7_flagOf 13 = .ok (.aload_n 0, 1) := by decide +kernel
theorem dX7_flagOf_14 : decode cX7_flagOf 14 = .ok (.iload_n 1, 1) := by decide +kernel
theorem dX7_flagOf_15 : decode cX7_flagOf 15 = .ok (.invokevirtual 107, 3) := by decide +kernel
theorem dX7_flagOf_18 : decode cX7_flagOf 18 = .ok (.iconst 2, 1) := by decide +kernel
theorem dX7_flagOf_19 : decode cX7_flagOf 19 = .ok (.bipush 16, 2) := by decide +kernel
theorem dX7_flagOf_21 : decode cX7_flagOf 21 = .ok (.invokestatic 110, 3) := by decide +kernel
theorem dX7_flagOf_24 : decode cX7_flagOf 24 = .ok (.iadd, 1) := by decide +kernel
theorem dX7_flagOf_25 : decode cX7_flagOf 25 = .ok (.aload_n 0, 1) := by decide +kernel
theorem dX7_flagOf_26 : decode cX7_flagOf 26 = .ok (.iload_n 1, 1) := by decide +kernel
theorem dX7_flagOf_27 : decode cX7_flagOf 27 = .ok (.invokevirtual 114, 3) := by decide +kernel
theorem dX7_flagOf_30 : decode cX7_flagOf 30 = .ok (.iconst 4, 1) := by decide +kernel
theorem dX7_flagOf_31 : decode cX7_flagOf 31 = .ok (.bipush 32, 2) := by decide +kernel
theorem dX7_flagOf_33 : decode cX7_flagOf 33 = .ok (.invokestatic 110, 3) := by decide +kernel
theorem dX7_flagOf_36 : decode cX7_flagOf 36 = .ok (.iadd, 1) := by decide +kernel
theorem dX7_flagOf_37 : decode cX7_flagOf 37 = .ok (.ireturn, 1) := by decide +kernel
theorem dX7_stepFlag_0 : decode cX7_stepFlag 0 = .ok (.iload_n 0, 1) := by decide +kernel
theorem dX7_stepFlag_1 : decode cX7_stepFlag 1 = .ok (.ifCond .ne 5, 3) := by decide +kernel
theorem dX7_stepFlag_4 : decode cX7_stepFlag 4 = .ok (.iload_n 2, 1) := by decide +kernel
theorem dX7_stepFlag_5 : decode cX7_stepFlag 5 = .ok (.ireturn, 1) := by decide +kernel
theorem dX7_stepFlag_6 : decode cX7_stepFlag 6 = .ok (.iload_n 0, 1) := by decide +kernel
theorem dX7_stepFlag_7 : decode cX7_stepFlag 7 = .ok (.invokestatic 117, 3) := by decide +kernel
theorem dX7_stepFlag_10 : decode cX7_stepFlag 10 = .ok (.ifCond .ne 5, 3) := by decide +kernel
theorem dX7_stepFlag_13 : decode cX7_stepFlag 13 = .ok (.iconst 0, 1) := by decide +kernel
theorem dX7_stepFlag_14 : decode cX7_stepFlag 14 = .ok (.ireturn, 1) := by decide +kernel
theorem dX7_stepFlag_15 : decode cX7_stepFlag 15 = .ok (.iload_n 0, 1) := by decide +kernel
theorem dX7_stepFlag_16 : decode cX7_stepFlag 16 = .ok (.ifCond .le 9, 3) := by decide +kernel
theorem dX7_stepFlag_19 : decode cX7_stepFlag 19 = .ok (.iload_n 1, 1) := by decide +kernel
theorem dX7_stepFlag_20 : decode cX7_stepFlag 20 = .ok (.iload_n 2, 1) := by decide +kernel
theorem dX7_stepFlag_21 : decode cX7_stepFlag 21 = .ok (.iadd, 1) := by decide +kernel
theorem dX7_stepFlag_22 : decode cX7_stepFlag 22 = .ok (.goto 4, 3) := by decide +kernel
theorem dX7_stepFlag_25 : decode cX7_stepFlag 25 = .ok (.iload_n 1, 1) := by decide +kernel
theorem dX7_stepFlag_26 : decode cX7_stepFlag 26 = .ok (.ireturn, 1) := by decide +kernel
theorem dX7_addSteps_0 : decode cX7_addSteps 0 = .ok (.iconst 0, 1) := by decide +kernel
theorem dX7_addSteps_1 : decode cX7_addSteps 1 = .ok (.istore_n 2, 1) := by decide +kernel
theorem dX7_addSteps_2 : decode cX7_addSteps 2 = .ok (.iload_n 2, 1) := by decide +kernel
theorem dX7_addSteps_3 : decode cX7_addSteps 3 = .ok (.aload_n 0, 1) := by decide +kernel
theorem dX7_addSteps_4 : decode cX7_addSteps 4 = .ok (.invokevirtual 97, 3) := by decide +kernel
theorem dX7_addSteps_7 : decode cX7_addSteps 7 = .ok (.if_icmp .ge 18, 3) := by decide +kernel
theorem dX7_addSteps_10 : decode cX7_addSteps 10 = .ok (.aload_n 0, 1) := by decide +kernel
theorem dX7_addSteps_11 : decode cX7_addSteps 11 = .ok (.iload_n 2, 1) := by decide +kernel
theorem dX7_addSteps_12 : decode cX7_addSteps 12 = .ok (.invokevirtual 107, 3) := by decide +kernel
theorem dX7_addSteps_15 : decode cX7_addSteps 15 = .ok (.aload_n 1, 1) := by decide +kernel
theorem dX7_addSteps_16 : decode cX7_addSteps 16 = .ok (.invokestatic 120, 3) := by decide +kernel
theorem dX7_addSteps_19 : decode cX7_addSteps 19 = .ok (.iinc 2 1, 3) := by decide +kernel
theorem dX7_addSteps_22 : decode cX7_addSteps 22 = .ok (.goto (-20), 3) := by decide +kernel
theorem dX7_addSteps_25 : decode cX7_addSteps 25 = .ok (.iconst 0, 1) := by decide +kernel
theorem dX7_addSteps_26 : decode cX7_addSteps 26 = .ok (.istore_n 2, 1) := by decide +kernel
theorem dX7_addSteps_27 : decode cX7_addSteps 27 = .ok (.iload_n 2, 1) := by decide +kernel
theorem dX7_addSteps_28 : decode cX7_addSteps 28 = .ok (.aload_n 0, 1) := by decide +kernel
theorem dX7_addSteps_29 : decode cX7_addSteps 29 = .ok (.invokevirtual 97, 3) := by decide +kernel
theorem dX7_addSteps_32 : decode cX7_addSteps 32 = .ok (.if_icmp .ge 18, 3) := by decide +kernel
theorem dX7_addSteps_35 : decode cX7_addSteps 35 = .ok (.aload_n 0, 1) := by decide +kernel
theorem dX7_addSteps_36 : decode cX7_addSteps 36 = .ok (.iload_n 2, 1) := by decide +kernel
theorem dX7_addSteps_37 : decode cX7_addSteps 37 = .ok (.invokevirtual 114, 3) := by decide +kernel
theorem dX7_addSteps_40 : decode cX7_addSteps 40 = .ok (.aload_n 1, 1) := by decide +kernel
theorem dX7_addSteps_41 : decode cX7_addSteps 41 = .ok (.invokestatic 120, 3) := by decide +kernel
theorem dX7_addSteps_44 : decode cX7_addSteps 44 = .ok (.iinc 2 1, 3) := by decide +kernel
theorem dX7_addSteps_47 : decode cX7_addSteps 47 = .ok (.goto (-20), 3) := by decide +kernel
theorem dX7_addSteps_50 : decode cX7_addSteps 50 = .ok (.return_, 1) := by decide +kernel
theorem dX7_addStep_0 : decode cX7_addStep 0 = .ok (.iload_n 0, 1) := by decide +kernel
theorem dX7_addStep_1 : decode cX7_addStep 1 = .ok (.ifCond .ne 4, 3) := by decide +kernel
theorem dX7_addStep_4 : decode cX7_addStep 4 = .ok (.return_, 1) := by decide +kernel
theorem dX7_addStep_5 : decode cX7_addStep 5 = .ok (.iload_n 0, 1) := by decide +kernel
theorem dX7_addStep_6 : decode cX7_addStep 6 = .ok (.invokestatic 117, 3) := by decide +kernel
theorem dX7_addStep_9 : decode cX7_addStep 9 = .ok (.ifCond .eq 14, 3) := by decide +kernel
theorem dX7_addStep_12 : decode cX7_addStep 12 = .ok (.aload_n 1, 1) := by decide +kernel
theorem dX7_addStep_13 : decode cX7_addStep 13 = .ok (.iload_n 0, 1) := by decide +kernel
theorem dX7_addStep_14 : decode cX7_addStep 14 = .ok (.invokestatic 124, 3) := by decide +kernel
theorem dX7_addStep_17 : decode cX7_addStep 17 = .ok (.invokevirtual 26, 3) := by decide +kernel
theorem dX7_addStep_20 : decode cX7_addStep 20 = .ok (.goto 10, 3) := by decide +kernel
theorem dX7_addStep_23 : decode cX7_addStep 23 = .ok (.aload_n 1, 1) := by decide +kernel
theorem dX7_addStep_24 : decode cX7_addStep 24 = .ok (.iload_n 0, 1) := by decide +kernel
theorem dX7_addStep_25 : decode cX7_addStep 25 = .ok (.i2l, 1) := by decide +kernel
theorem dX7_addStep_26 : decode cX7_addStep 26 = .ok (.iconst 2, 1) := by decide +kernel
theorem dX7_addStep_27 : decode cX7_addStep 27 = .ok (.invokevirtual 42, 3) := by decide +kernel
theorem dX7_addStep_30 : decode cX7_addStep 30 = .ok (.return_, 1) := by decide +kernel
theorem dX7_isSmall_0 : decode cX7_isSmall 0 = .ok (.iload_n 0, 1) := by decide +kernel
theorem dX7_isSmall_1 : decode cX7_isSmall 1 = .ok (.sipush (-255), 3) := by decide +kernel
theorem dX7_isSmall_4 : decode cX7_isSmall 4 = .ok (.if_icmp .lt 14, 3) := by decide +kernel
theorem dX7_isSmall_7 : decode cX7_isSmall 7 = .ok (.iload_n 0, 1) := by decide +kernel
theorem dX7_isSmall_8 : decode cX7_isSmall 8 = .ok (.sipush 255, 3) := by decide +kernel
theorem dX7_isSmall_11 : decode cX7_isSmall 11 = .ok (.if_icmp .gt 7, 3) := by decide +kernel
theorem dX7_isSmall_14 : decode cX7_isSmall 14 = .ok (.iconst 1, 1) := by decide +kernel
theorem dX7_isSmall_15 : decode cX7_isSmall 15 = .ok (.goto 4, 3) := by decide +kernel
theorem dX7_isSmall_18 : decode cX7_isSmall 18 = .ok (.iconst 0, 1) := by decide +kernel
theorem dX7_isSmall_19 : decode cX7_isSmall 19 = .ok (.ireturn, 1) := by decide +kernel
theorem dX8_init_0 : decode cX8_init 0 = .ok (.aload_n 0, 1) := by decide +kernel
theorem dX8_init_1 : decode cX8_init 1 = .ok (.invokespecial 1, 3) := by decide +kernel
theorem dX8_init_4 : decode cX8_init 4 = .ok (.aload_n 0, 1) := by decide +kernel
theorem dX8_init_5 : decode cX8_init 5 = .ok (.iconst 0, 1) := by decide +kernel
theorem dX8_init_6 : decode cX8_init 6 = .ok (.putfield 7, 3) := by decide +kernel
theorem dX8_init_9 : decode cX8_init 9 = .ok (.aload_n 0, 1) := by decide +kernel
theorem dX8_init_10 : decode cX8_init 10 = .ok (.iload_n 1, 1) := by decide +kernel
theorem dX8_init_11 : decode cX8_init 11 = .ok (.iconst 0, 1) := by decide +kernel
theorem dX8_init_12 : decode cX8_init 12 = .ok (.invokestatic 13, 3) := by decide +kernel
theorem dX8_init_15 : decode cX8_init 15 = .ok (.newarray .int, 2) := by decide +kernel
theorem dX8_init_17 : decode cX8_init 17 = .ok (.putfield 19, 3) := by decide +kernel
theorem dX8_init_20 : decode cX8_init 20 = .ok (.return_, 1) := by decide +kernel
theorem dX8_length_0 : decode cX8_length 0 = .ok (.aload_n 0, 1) := by decide +kernel
theorem dX8_length_1 : decode cX8_length 1 = .ok (.getfield 7, 3) := by decide +kernel
theorem dX8_length_4 : decode cX8_length 4 = .ok (.ireturn, 1) := by decide +kernel
theorem dX8_get_0 : decode cX8_get 0 = .ok (.iload_n 1, 1) := by decide +kernel
theorem dX8_get_1 : decode cX8_get 1 = .ok (.ifCond .lt 29, 3) := by decide +kernel
theorem dX8_get_4 : decode cX8_get 4 = .ok (.iload_n 1, 1) := by decide +kernel
theorem dX8_get_5 : decode cX8_get 5 = .ok (.aload_n 0, 1) := by decide +kernel
theorem dX8_get_6 : decode cX8_get 6 = .ok (.getfield 7, 3) := by decide +kernel
theorem dX8_get_9 : decode cX8_get 9 = .ok (.if_icmp .ge 21, 3) := by decide +kernel
theorem dX8_get_12 : decode cX8_get 12 = .ok (.iload_n 1, 1) := by decide +kernel
theorem dX8_get_13 : decode cX8_get 13 = .ok (.aload_n 0, 1) := by decide +kernel
theorem dX8_get_14 : decode cX8_get 14 = .ok (.getfield 19, 3) := by decide +kernel
theorem dX8_get_17 : decode cX8_get 17 = .ok (.arraylength, 1) := by decide +kernel
theorem dX8_get_18 : decode cX8_get 18 = .ok (.if_icmp .ge 12, 3) := by decide +kernel
theorem dX8_get_21 : decode cX8_get 21 = .ok (.aload_n 0, 1) := by decide +kernel
theorem dX8_get_22 : decode cX8_get 22 = .ok (.getfield 19, 3) := by decide +kernel
theorem dX8_get_25 : decode cX8_get 25 = .ok (.iload_n 1, 1) := by decide +kernel
theorem dX8_get_26 : decode cX8_get 26 = .ok (.iaload, 1) := by decide +kernel
theorem dX8_get_27 : decode cX8_get 27 = .ok (.goto 4, 3) := by decide +kernel
theorem dX8_get_30 : decode cX8_get 30 = .ok (.iconst 0, 1) := by decide +kernel
theorem dX8_get_31 : decode cX8_get 31 = .ok (.ireturn, 1) := by decide +kernel
theorem dX8_latest_0 : decode cX8_latest 0 = .ok (.aload_n 0, 1) := by decide +kernel
theorem dX8_latest_1 : decode cX8_latest 1 = .ok (.aload_n 0, 1) := by decide +kernel
theorem dX8_latest_2 : decode cX8_latest 2 = .ok (.getfield 7, 3) := by decide +kernel
theorem dX8_latest_5 : decode cX8_latest 5 = .ok (.iconst 1, 1) := by decide +kernel
theorem dX8_latest_6 : decode cX8_latest 6 = .ok (.isub, 1) := by decide +kernel
theorem dX8_latest_7 : decode cX8_latest 7 = .ok (.invokevirtual 23, 3) := by decide +kernel
theorem dX8_latest_10 : decode cX8_latest 10 = .ok (.ireturn, 1) := by decide +kernel
theorem dX8_change_0 : decode cX8_change 0 = .ok (.iload_n 1, 1) := by decide +kernel
theorem dX8_change_1 : decode cX8_change 1 = .ok (.ifCond .lt 27, 3) := by decide +kernel
theorem dX8_change_4 : decode cX8_change 4 = .ok (.iload_n 1, 1) := by decide +kernel
theorem dX8_change_5 : decode cX8_change 5 = .ok (.aload_n 0, 1) := by decide +kernel
theorem dX8_change_6 : decode cX8_change 6 = .ok (.getfield 7, 3) := by decide +kernel
theorem dX8_change_9 : decode cX8_change 9 = .ok (.if_icmp .ge 19, 3) := by decide +kernel
theorem dX8_change_12 : decode cX8_change 12 = .ok (.iload_n 1, 1) := by decide +kernel
theorem dX8_change_13 : decode cX8_change 13 = .ok (.aload_n 0, 1) := by decide +kernel
theorem dX8_change_14 : decode cX8_change 14 = .ok (.getfield 19, 3) := by decide +kernel
theorem dX8_change_17 : decode cX8_change 17 = .ok (.arraylength, 1) := by decide +kernel
theorem dX8_change_18 : decode cX8_change 18 = .ok (.if_icmp .ge 10, 3) := by decide +kernel
theorem dX8_change_21 : decode cX8_change 21 = .ok (.aload_n 0, 1) := by decide +kernel
theorem dX8_change_22 : decode cX8_change 22 = .ok (.getfield 19, 3) := by decide +kernel
theorem dX8_change_25 : decode cX8_change 25 = .ok (.iload_n 1, 1) := by decide +kernel
theorem dX8_change_26 : decode cX8_change 26 = .ok (.iload_n 2, 1) := by decide +kernel
theorem dX8_change_27 : decode cX8_change 27 = .ok (.iastore, 1) := by decide +kernel
theorem dX8_change_28 : decode cX8_change 28 = .ok (.return_, 1) := by decide +kernel
theorem dX8_add_0 : decode cX8_add 0 = .ok (.aload_n 0, 1) := by decide +kernel
theorem dX8_add_1 : decode cX8_add 1 = .ok (.getfield 7, 3) := by decide +kernel
theorem dX8_add_4 : decode cX8_add 4 = .ok (.ifCond .lt 35, 3) := by decide +kernel
theorem dX8_add_7 : decode cX8_add 7 = .ok (.aload_n 0, 1) := by decide +kernel
theorem dX8_add_8 : decode cX8_add 8 = .ok (.getfield 7, 3) := by decide +kernel
theorem dX8_add_11 : decode cX8_add 11 = .ok (.aload_n 0, 1) := by decide +kernel
theorem dX8_add_12 : decode cX8_add 12 = .ok (.getfield 19, 3) := by decide +kernel
theorem dX8_add_15 : decode cX8_add 15 = .ok (.arraylength, 1) := by decide +kernel
theorem dX8_add_16 : decode cX8_add 16 = .ok (.if_icmp .ge 23, 3) := by decide +kernel
theorem dX8_add_19 : decode cX8_add 19 = .ok (.aload_n 0, 1) := by decide +kernel
theorem dX8_add_20 : decode cX8_add 20 = .ok (.getfield 19, 3) := by decide +kernel
theorem dX8_add_23 : decode cX8_add 23 = .ok (.aload_n 0, 1) := by decide +kernel
theorem dX8_add_24 : decode cX8_add 24 = .ok (.getfield 7, 3) := by decide +kernel
theorem dX8_add_27 : decode cX8_add 27 = .ok (.iload_n 1, 1) := by decide +kernel
theorem dX8_add_28 : decode cX8_add 28 = .ok (.iastore, 1) := by decide +kernel
theorem dX8_add_29 : decode cX8_add 29 = .ok (.aload_n 0, 1) := by decide +kernel
theorem dX8_add_30 : decode cX8_add 30 = .ok (.dup, 1) := by decide +kernel
theorem dX8_add_31 : decode cX8_add 31 = .ok (.getfield 7, 3) := by decide +kernel
theorem dX8_add_34 : decode cX8_add 34 = .ok (.iconst 1, 1) := by decide +kernel
theorem dX8_add_35 : decode cX8_add 35 = .ok (.iadd, 1) := by decide +kernel
theorem dX8_add_36 : decode cX8_add 36 = .ok (.putfield 7, 3) := by decide +kernel
theorem dX8_add_39 : decode cX8_add 39 = .ok (.return_, 1) := by decide +kernel
theorem dX8_makeEmpty_0 : decode cX8_makeEmpty 0 = .ok (.aload_n 0, 1) := by decide +kernel
theorem dX8_makeEmpty_1 : decode cX8_makeEmpty 1 = .ok (.iconst 0, 1) := by decide +kernel
theorem dX8_makeEmpty_2 : decode cX8_makeEmpty 2 = .ok (.putfield 7, 3) := by decide +kernel
theorem dX8_makeEmpty_5 : decode cX8_makeEmpty 5 = .ok (.return_, 1) := by decide +kernel
theorem dX8_keepFirst_0 : decode cX8_keepFirst 0 = .ok (.iload_n 1, 1) := by decide +kernel
theorem dX8_keepFirst_1 : decode cX8_keepFirst 1 = .ok (.ifCond .lt 16, 3) := by decide +kernel
theorem dX8_keepFirst_4 : decode cX8_keepFirst 4 = .ok (.iload_n 1, 1) := by decide +kernel
theorem dX8_keepFirst_5 : decode cX8_keepFirst 5 = .ok (.aload_n 0, 1) := by decide +kernel
theorem dX8_keepFirst_6 : decode cX8_keepFirst 6 = .ok (.getfield 7, 3) := by decide +kernel
theorem dX8_keepFirst_9 : decode cX8_keepFirst 9 = .ok (.if_icmp .ge 8, 3) := by decide +kernel
theorem dX8_keepFirst_12 : decode cX8_keepFirst 12 = .ok (.aload_n 0, 1) := by decide +kernel
theorem dX8_keepFirst_13 : decode cX8_keepFirst 13 = .ok (.iload_n 1, 1) := by decide +kernel
theorem dX8_keepFirst_14 : decode cX8_keepFirst 14 = .ok (.putfield 7, 3) := by decide +kernel
theorem dX8_keepFirst_17 : decode cX8_keepFirst 17 = .ok (.return_, 1) := by decide +kernel
theorem dX8_addZeros_0 : decode cX8_addZeros 0 = .ok (.iconst 0, 1) := by decide +kernel
theorem dX8_addZeros_1 : decode cX8_addZeros 1 = .ok (.istore_n 2, 1) := by decide +kernel
theorem dX8_addZeros_2 : decode cX8_addZeros 2 = .ok (.iload_n 2, 1) := by decide +kernel
theorem dX8_addZeros_3 : decode cX8_addZeros 3 = .ok (.iload_n 1, 1) := by decide +kernel
theorem dX8_addZeros_4 : decode cX8_addZeros 4 = .ok (.if_icmp .ge 14, 3) := by decide +kernel
theorem dX8_addZeros_7 : decode cX8_addZeros 7 = .ok (.aload_n 0, 1) := by decide +kernel
theorem dX8_addZeros_8 : decode cX8_addZeros 8 = .ok (.iconst 0, 1) := by decide +kernel
theorem dX8_addZeros_9 : decode cX8_addZeros 9 = .ok (.invokevirtual 27, 3) := by decide +kernel
theorem dX8_addZeros_12 : decode cX8_addZeros 12 = .ok (.iinc 2 1, 3) := by decide +kernel
theorem dX8_addZeros_15 : decode cX8_addZeros 15 = .ok (.goto (-13), 3) := by decide +kernel
theorem dX8_addZeros_18 : decode cX8_addZeros 18 = .ok (.return_, 1) := by decide +kernel
theorem dX8_addRow_0 : decode cX8_addRow 0 = .ok (.iconst 0, 1) := by decide +kernel
theorem dX8_addRow_1 : decode cX8_addRow 1 = .ok (.istore_n 2, 1) := by decide +kernel
theorem dX8_addRow_2 : decode cX8_addRow 2 = .ok (.iload_n 2, 1) := by decide +kernel
theorem dX8_addRow_3 : decode cX8_addRow 3 = .ok (.aload_n 1, 1) := by decide +kernel
theorem dX8_addRow_4 : decode cX8_addRow 4 = .ok (.getfield 7, 3) := by decide +kernel
theorem dX8_addRow_7 : decode cX8_addRow 7 = .ok (.if_icmp .ge 18, 3) := by decide +kernel
theorem dX8_addRow_10 : decode cX8_addRow 10 = .ok (.aload_n 0, 1) := by decide +kernel
theorem dX8_addRow_11 : decode cX8_addRow 11 = .ok (.aload_n 1, 1) := by decide +kernel
theorem dX8_addRow_12 : decode cX8_addRow 12 = .ok (.iload_n 2, 1) := by decide +kernel
theorem dX8_addRow_13 : decode cX8_addRow 13 = .ok (.invokevirtual 23, 3) := by decide +kernel
theorem dX8_addRow_16 : decode cX8_addRow 16 = .ok (.invokevirtual 27, 3) := by decide +kernel
theorem dX8_addRow_19 : decode cX8_addRow 19 = .ok (.iinc 2 1, 3) := by decide +kernel
theorem dX8_addRow_22 : decode cX8_addRow 22 = .ok (.goto (-20), 3) := by decide +kernel
theorem dX8_addRow_25 : decode cX8_addRow 25 = .ok (.return_, 1) := by decide +kernel
theorem dX8_addNumber_0 : decode cX8_addNumber 0 = .ok (.iload_n 3, 1) := by decide +kernel
theorem dX8_addNumber_1 : decode cX8_addNumber 1 = .ok (.iconst 1, 1) := by decide +kernel
theorem dX8_addNumber_2 : decode cX8_addNumber 2 = .ok (.isub, 1) := by decide +kernel
theorem dX8_addNumber_3 : decode cX8_addNumber 3 = .ok (.istore 4, 2) := by decide +kernel
theorem dX8_addNumber_5 : decode cX8_addNumber 5 = .ok (.iload 4, 2) := by decide +kernel
theorem dX8_addNumber_7 : decode cX8_addNumber 7 = .ok (.ifCond .lt 25, 3) := by decide +kernel
theorem dX8_addNumber_10 : decode cX8_addNumber 10 = .ok (.aload_n 0, 1) := by decide +kernel
theorem dX8_addNumber_11 : decode cX8_addNumber 11 = .ok (.lload_n 1, 1) := by decide +kernel
theorem dX8_addNumber_12 : decode cX8_addNumber 12 = .ok (.bipush 8, 2) := by decide +kernel
theorem dX8_addNumber_14 : decode cX8_addNumber 14 = .ok (.iload 4, 2) := by decide +kernel
theorem dX8_addNumber_16 : decode cX8_addNumber 16 = .ok (.imul, 1) := by decide +kernel
theorem dX8_addNumber_17 : decode cX8_addNumber 17 = .ok (.lshr, 1) := by decide +kernel
theorem dX8_addNumber_18 : decode cX8_addNumber 18 = .ok (.ldc2_w 31, 3) := by decide +kernel
theorem dX8_addNumber_21 : decode cX8_addNumber 21 = .ok (.land, 1) := by decide +kernel
theorem dX8_addNumber_22 : decode cX8_addNumber 22 = .ok (.l2i, 1) := by decide +kernel
theorem dX8_addNumber_23 : decode cX8_addNumber 23 = .ok (.invokevirtual 27, 3) := by decide +kernel
theorem dX8_addNumber_26 : decode cX8_addNumber 26 = .ok (.iinc 4 (-1), 3) := by decide +kernel
theorem dX8_addNumber_29 : decode cX8_addNumber 29 = .ok (.goto (-24), 3) := by decide +kernel
theorem dX8_addNumber_32 : decode cX8_addNumber 32 = .ok (.return_, 1) := by decide +kernel
theorem dX8_addShort_0 : decode cX8_addShort 0 = .ok (.iload_n 1, 1) := by decide +kernel
theorem dX8_addShort_1 : decode cX8_addShort 1 = .ok (.sipush 253, 3) := by decide +kernel
theorem dX8_addShort_4 : decode cX8_addShort 4 = .ok (.if_icmp .ge 11, 3) := by decide +kernel
theorem dX8_addShort_7 : decode cX8_addShort 7 = .ok (.aload_n 0, 1) := by decide +kernel
theorem dX8_addShort_8 : decode cX8_addShort 8 = .ok (.iload_n 1, 1) := by decide +kernel
theorem dX8_addShort_9 : decode cX8_addShort 9 = .ok (.invokevirtual 27, 3) := by decide +kernel
theorem dX8_addShort_12 : decode cX8_addShort 12 = .ok (.goto 69, 3) := by decide +kernel
theorem dX8_addShort_15 : decode cX8_addShort 15 = .ok (.iload_n 1, 1) := by decide +kernel
theorem dX8_addShort_16 : decode cX8_addShort 16 = .ok (.sipush 505, 3) := by decide +kernel
theorem dX8_addShort_19 : decode cX8_addShort 19 = .ok (.if_icmp .gt 22, 3) := by decide +kernel
theorem dX8_addShort_22 : decode cX8_addShort 22 = .ok (.aload_n 0, 1) := by decide +kernel
theorem dX8_addShort_23 : decode cX8_addShort 23 = .ok (.sipush 255, 3) := by decide +kernel
theorem dX8_addShort_26 : decode cX8_addShort 26 = .ok (.invokevirtual 27, 3) := by decide +kernel
theorem dX8_addShort_29 : decode cX8_addShort 29 = .ok (.aload_n 0, 1) := by decide +kernel
theorem dX8_addShort_30 : decode cX8_addShort 30 = .ok (.iload_n 1, 1) := by decide +kernel
theorem dX8_addShort_31 : decode cX8_addShort 31 = .ok (.sipush 253, 3) := by decide +kernel
theorem dX8_addShort_34 : decode cX8_addShort 34 = .ok (.isub, 1) := by decide +kernel
theorem dX8_addShort_35 : decode cX8_addShort 35 = .ok (.invokevirtual 27, 3) := by decide +kernel
theorem dX8_addShort_38 : decode cX8_addShort 38 = .ok (.goto 43, 3) := by decide +kernel
theorem dX8_addShort_41 : decode cX8_addShort 41 = .ok (.iload_n 1, 1) := by decide +kernel
theorem dX8_addShort_42 : decode cX8_addShort 42 = .ok (.sipush 761, 3) := by decide +kernel
theorem dX8_addShort_45 : decode cX8_addShort 45 = .ok (.if_icmp .gt 22, 3) := by decide +kernel
theorem dX8_addShort_48 : decode cX8_addShort 48 = .ok (.aload_n 0, 1) := by decide +kernel
theorem dX8_addShort_49 : decode cX8_addShort 49 = .ok (.sipush 254, 3) := by decide +kernel
theorem dX8_addShort_52 : decode cX8_addShort 52 = .ok (.invokevirtual 27, 3) := by decide +kernel
theorem dX8_addShort_55 : decode cX8_addShort 55 = .ok (.aload_n 0, 1) := by decide +kernel
theorem dX8_addShort_56 : decode cX8_addShort 56 = .ok (.iload_n 1, 1) := by decide +kernel
theorem dX8_addShort_57 : decode cX8_addShort 57 = .ok (.sipush 506, 3) := by decide +kernel
theorem dX8_addShort_60 : decode cX8_addShort 60 = .ok (.isub, 1) := by decide +kernel
theorem dX8_addShort_61 : decode cX8_addShort 61 = .ok (.invokevirtual 27, 3) := by decide +kernel
theorem dX8_addShort_64 : decode cX8_addShort 64 = .ok (.goto 17, 3) := by decide +kernel
theorem dX8_addShort_67 : decode cX8_addShort 67 = .ok (.aload_n 0, 1) := by decide +kernel
theorem dX8_addShort_68 : decode cX8_addShort 68 = .ok (.sipush 253, 3) := by decide +kernel
theorem dX8_addShort_71 : decode cX8_addShort 71 = .ok (.invokevirtual 27, 3) := by decide +kernel
theorem dX8_addShort_74 : decode cX8_addShort 74 = .ok (.aload_n 0, 1) := by decide +kernel
theorem dX8_addShort_75 : decode cX8_addShort 75 = .ok (.iload_n 1, 1) := by decide +kernel
theorem dX8_addShort_76 : decode cX8_addShort 76 = .ok (.i2l, 1) := by decide +kernel
theorem dX8_addShort_77 : decode cX8_addShort 77 = .ok (.iconst 2, 1) := by decide +kernel
theorem dX8_addShort_78 : decode cX8_addShort 78 = .ok (.invokevirtual 33, 3) := by decide +kernel
theorem dX8_addShort_81 : decode cX8_addShort 81 = .ok (.return_, 1) := by decide +kernel
theorem dX8_addLong_0 : decode cX8_addLong 0 = .ok (.iload_n 1, 1) := by decide +kernel
theorem dX8_addLong_1 : decode cX8_addLong 1 = .ok (.sipush 128, 3) := by decide +kernel
theorem dX8_addLong_4 : decode cX8_addLong 4 = .ok (.if_icmp .lt 16, 3) := by decide +kernel
theorem dX8_addLong_7 : decode cX8_addLong 7 = .ok (.aload_n 0, 1) := by decide +kernel
theorem dX8_addLong_8 : decode cX8_addLong 8 = .ok (.sipush 128, 3) := by decide +kernel
theorem dX8_addLong_11 : decode cX8_addLong 11 = .ok (.iload_n 1, 1) := by decide +kernel
theorem dX8_addLong_12 : decode cX8_addLong 12 = .ok (.sipush 128, 3) := by decide +kernel
theorem dX8_addLong_15 : decode cX8_addLong 15 = .ok (.idiv, 1) := by decide +kernel
theorem dX8_addLong_16 : decode cX8_addLong 16 = .ok (.iadd, 1) := by decide +kernel
theorem dX8_addLong_17 : decode cX8_addLong 17 = .ok (.invokevirtual 27, 3) := by decide +kernel
theorem dX8_addLong_20 : decode cX8_addLong 20 = .ok (.aload_n 0, 1) := by decide +kernel
theorem dX8_addLong_21 : decode cX8_addLong 21 = .ok (.iload_n 1, 1) := by decide +kernel
theorem dX8_addLong_22 : decode cX8_addLong 22 = .ok (.sipush 128, 3) := by decide +kernel
theorem dX8_addLong_25 : decode cX8_addLong 25 = .ok (.irem, 1) := by decide +kernel
theorem dX8_addLong_26 : decode cX8_addLong 26 = .ok (.invokevirtual 27, 3) := by decide +kernel
theorem dX8_addLong_29 : decode cX8_addLong 29 = .ok (.return_, 1) := by decide +kernel
theorem dX8_sameFrom_0 : decode cX8_sameFrom 0 = .ok (.iload_n 2, 1) := by decide +kernel
theorem dX8_sameFrom_1 : decode cX8_sameFrom 1 = .ok (.iconst 1, 1) := by decide +kernel
theorem dX8_sameFrom_2 : decode cX8_sameFrom 2 = .ok (.if_icmp .lt 20, 3) := by decide +kernel
theorem dX8_sameFrom_5 : decode cX8_sameFrom 5 = .ok (.iload_n 2, 1) := by decide +kernel
theorem dX8_sameFrom_6 : decode cX8_sameFrom 6 = .ok (.iload_n 1, 1) := by decide +kernel
theorem dX8_sameFrom_7 : decode cX8_sameFrom 7 = .ok (.if_icmp .gt 15, 3) := by decide +kernel
theorem dX8_sameFrom_10 : decode cX8_sameFrom 10 = .ok (.aload_n 0, 1) := by decide +kernel
theorem dX8_sameFrom_11 : decode cX8_sameFrom 11 = .ok (.getfield 7, 3) := by decide +kernel
theorem dX8_sameFrom_14 : decode cX8_sameFrom 14 = .ok (.aload_n 0, 1) := by decide +kernel
theorem dX8_sameFrom_15 : decode cX8_sameFrom 15 = .ok (.getfield 19, 3) := by decide +kernel
theorem dX8_sameFrom_18 : decode cX8_sameFrom 18 = .ok (.arraylength, 1) := by decide +kernel
theorem dX8_sameFrom_19 : decode cX8_sameFrom 19 = .ok (.if_icmp .le 5, 3) := by decide +kernel
theorem dX8_sameFrom_22 : decode cX8_sameFrom 22 = .ok (.iconst 0, 1) := by decide +kernel
theorem dX8_sameFrom_23 : decode cX8_sameFrom 23 = .ok (.ireturn, 1) := by decide +kernel
theorem dX8_sameFrom_24 : decode cX8_sameFrom 24 = .ok (.iconst 0, 1) := by decide +kernel
theorem dX8_sameFrom_25 : decode cX8_sameFrom 25 = .ok (.istore_n 3, 1) := by decide +kernel
theorem dX8_sameFrom_26 : decode cX8_sameFrom 26 = .ok (.iload_n 1, 1) := by decide +kernel
theorem dX8_sameFrom_27 : decode cX8_sameFrom 27 = .ok (.iload_n 3, 1) := by decide +kernel
theorem dX8_sameFrom_28 : decode cX8_sameFrom 28 = .ok (.iadd, 1) := by decide +kernel
theorem dX8_sameFrom_29 : decode cX8_sameFrom 29 = .ok (.aload_n 0, 1) := by decide +kernel
theorem dX8_sameFrom_30 : decode cX8_sameFrom 30 = .ok (.getfield 7, 3) := by decide +kernel
theorem dX8_sameFrom_33 : decode cX8_sameFrom 33 = .ok (.if_icmp .ge 30, 3) := by decide +kernel
theorem dX8_sameFrom_36 : decode cX8_sameFrom 36 = .ok (.aload_n 0, 1) := by decide +kernel
theorem dX8_sameFrom_37 : decode cX8_sameFrom 37 = .ok (.getfield 19, 3) := by decide +kernel
theorem dX8_sameFrom_40 : decode cX8_sameFrom 40 = .ok (.iload_n 1, 1) := by decide +kernel
theorem dX8_sameFrom_41 : decode cX8_sameFrom 41 = .ok (.iload_n 3, 1) := by decide +kernel
theorem dX8_sameFrom_42 : decode cX8_sameFrom 42 = .ok (.iadd, 1) := by decide +kernel
theorem dX8_sameFrom_43 : decode cX8_sameFrom 43 = .ok (.iaload, 1) := by decide +kernel
theorem dX8_sameFrom_44 : decode cX8_sameFrom 44 = .ok (.aload_n 0, 1) := by decide +kernel
theorem dX8_sameFrom_45 : decode cX8_sameFrom 45 = .ok (.getfield 19, 3) := by decide +kernel
theorem dX8_sameFrom_48 : decode cX8_sameFrom 48 = .ok (.iload_n 1, 1) := by decide +kernel
theorem dX8_sameFrom_49 : decode cX8_sameFrom 49 = .ok (.iload_n 3, 1) := by decide +kernel
theorem dX8_sameFrom_50 : decode cX8_sameFrom 50 = .ok (.iadd, 1) := by decide +kernel
theorem dX8_sameFrom_51 : decode cX8_sameFrom 51 = .ok (.iload_n 2, 1) := by decide +kernel
theorem dX8_sameFrom_52 : decode cX8_sameFrom 52 = .ok (.isub, 1) := by decide +kernel
theorem dX8_sameFrom_53 : decode cX8_sameFrom 53 = .ok (.iaload, 1) := by decide +kernel
theorem dX8_sameFrom_54 : decode cX8_sameFrom 54 = .ok (.if_icmp .ne 9, 3) := by decide +kernel
theorem dX8_sameFrom_57 : decode cX8_sameFrom 57 = .ok (.iinc 3 1, 3) := by decide +kernel
theorem dX8_sameFrom_60 : decode cX8_sameFrom 60 = .ok (.goto (-34), 3) := by decide +kernel
theorem dX8_sameFrom_63 : decode cX8_sameFrom 63 = .ok (.iload_n 3, 1) := by decide +kernel
theorem dX8_sameFrom_64 : decode cX8_sameFrom 64 = .ok (.ireturn, 1) := by decide +kernel
theorem dX9_init_0 : decode cX9_init 0 = .ok (.aload_n 0, 1) := by decide +kernel
theorem dX9_init_1 : decode cX9_init 1 = .ok (.invokespecial 3, 3) := by decide +kernel
theorem dX9_init_4 : decode cX9_init 4 = .ok (.aload_n 0, 1) := by decide +kernel
theorem dX9_init_5 : decode cX9_init 5 = .ok (.new 9, 3) := by decide +kernel
theorem dX9_init_8 : decode cX9_init 8 = .ok (.dup, 1) := by decide +kernel
theorem dX9_init_9 : decode cX9_init 9 = .ok (.sipush 384, 3) := by decide +kernel
theorem dX9_init_12 : decode cX9_init 12 = .ok (.invokespecial 13, 3) := by decide +kernel
theorem dX9_init_15 : decode cX9_init 15 = .ok (.putfield 16, 3) := by decide +kernel
theorem dX9_init_18 : decode cX9_init 18 = .ok (.return_, 1) := by decide +kernel
theorem dX9_makeTables_0 : decode cX9_makeTables 0 = .ok (.aload_n 1, 1) := by decide +kernel
theorem dX9_makeTables_1 : decode cX9_makeTables 1 = .ok (.iconst 0, 1) := by decide +kernel
theorem dX9_makeTables_2 : decode cX9_makeTables 2 = .ok (.invokevirtual 20, 3) := by decide +kernel
theorem dX9_makeTables_5 : decode cX9_makeTables 5 = .ok (.astore_n 2, 1) := by decide +kernel
theorem dX9_makeTables_6 : decode cX9_makeTables 6 = .ok (.aload_n 1, 1) := by decide +kernel
theorem dX9_makeTables_7 : decode cX9_makeTables 7 = .ok (.iconst 1, 1) := by decide +kernel
theorem dX9_makeTables_8 : decode cX9_makeTables 8 = .ok (.invokevirtual 20, 3) := by decide +kernel
theorem dX9_makeTables_11 : decode cX9_makeTables 11 = .ok (.astore_n 3, 1) := by decide +kernel
theorem dX9_makeTables_12 : decode cX9_makeTables 12 = .ok (.aload_n 2, 1) := by decide +kernel
theorem dX9_makeTables_13 : decode cX9_makeTables 13 = .ok (.invokevirtual 26, 3) := by decide +kernel
theorem dX9_makeTables_16 : decode cX9_makeTables 16 = .ok (.aload_n 3, 1) := by decide +kernel
theorem dX9_makeTables_17 : decode cX9_makeTables 17 = .ok (.invokevirtual 26, 3) := by decide +kernel
theorem dX9_makeTables_20 : decode cX9_makeTables 20 = .ok (.aload_n 0, 1) := by decide +kernel
theorem dX9_makeTables_21 : decode cX9_makeTables 21 = .ok (.getfield 16, 3) := by decide +kernel
theorem dX9_makeTables_24 : decode cX9_makeTables 24 = .ok (.invokevirtual 26, 3) := by decide +kernel
theorem dX9_makeTables_27 : decode cX9_makeTables 27 = .ok (.aload_n 1, 1) := by decide +kernel
theorem dX9_makeTables_28 : decode cX9_makeTables 28 = .ok (.aload_n 2, 1) := by decide +kernel
theorem dX9_makeTables_29 : decode cX9_makeTables 29 = .ok (.invokestatic 29, 3) := by decide +kernel
theorem dX9_makeTables_32 : decode cX9_makeTables 32 = .ok (.iconst 0, 1) := by decide +kernel
theorem dX9_makeTables_33 : decode cX9_makeTables 33 = .ok (.istore 4, 2) := by decide +kernel
theorem dX9_makeTables_35 : decode cX9_makeTables 35 = .ok (.iload 4, 2) := by decide +kernel
theorem dX9_makeTables_37 : decode cX9_makeTables 37 = .ok (.aload_n 1, 1) := by decide +kernel
theorem dX9_makeTables_38 : decode cX9_makeTables 38 = .ok (.invokevirtual 33, 3) := by decide +kernel
theorem dX9_makeTables_41 : decode cX9_makeTables 41 = .ok (.if_icmp .ge 81, 3) := by decide +kernel
theorem dX9_makeTables_44 : decode cX9_makeTables 44 = .ok (.aload_n 1, 1) := by decide +kernel
theorem dX9_makeTables_45 : decode cX9_makeTables 45 = .ok (.iload 4, 2) := by decide +kernel
theorem dX9_makeTables_47 : decode cX9_makeTables 47 = .ok (.invokevirtual 37, 3) := by decide +kernel
theorem dX9_makeTables_50 : decode cX9_makeTables 50 = .ok (.astore 5, 2) := by decide +kernel
theorem dX9_makeTables_52 : decode cX9_makeTables 52 = .ok (.iconst 0, 1) := by decide +kernel
theorem dX9_makeTables_53 : decode cX9_makeTables 53 = .ok (.istore 6, 2) := by decide +kernel
theorem dX9_makeTables_55 : decode cX9_makeTables 55 = .ok (.iload 6, 2) := by decide +kernel
theorem dX9_makeTables_57 : decode cX9_makeTables 57 = .ok (.aload 5, 2) := by decide +kernel
theorem dX9_makeTables_59 : decode cX9_makeTables 59 = .ok (.invokevirtual 41, 3) := by decide +kernel
theorem dX9_makeTables_62 : decode cX9_makeTables 62 = .ok (.if_icmp .ge 45, 3) := by decide +kernel
theorem dX9_makeTables_65 : decode cX9_makeTables 65 = .ok (.aload_n 0, 1) := by decide +kernel
theorem dX9_makeTables_66 : decode cX9_makeTables 66 = .ok (.aload 5, 2) := by decide +kernel
theorem dX9_makeTables_68 : decode cX9_makeTables 68 = .ok (.iload 6, 2) := by decide +kernel
theorem dX9_makeTables_70 : decode cX9_makeTables 70 = .ok (.invokevirtual 46, 3) := by decide +kernel
theorem dX9_makeTables_73 : decode cX9_makeTables 73 = .ok (.aload 5, 2) := by decide +kernel
theorem dX9_makeTables_75 : decode cX9_makeTables 75 = .ok (.iload 6, 2) := by decide +kernel
theorem dX9_makeTables_77 : decode cX9_makeTables 77 = .ok (.invokevirtual 50, 3) := by decide +kernel
theorem dX9_makeTables_80 : decode cX9_makeTables 80 = .ok (.aload 5, 2) := by decide +kernel
theorem dX9_makeTables_82 : decode cX9_makeTables 82 = .ok (.iload 6, 2) := by decide +kernel
theorem dX9_makeTables_84 : decode cX9_makeTables 84 = .ok (.invokevirtual 53, 3) := by decide +kernel
theorem dX9_makeTables_87 : decode cX9_makeTables 87 = .ok (.ifCond .eq 7, 3) := by decide +kernel
theorem dX9_makeTables_90 : decode cX9_makeTables 90 = .ok (.iconst 0, 1) := by decide +kernel
theorem dX9_makeTables_91 : decode cX9_makeTables 91 = .ok (.goto 6, 3) := by decide +kernel
theorem dX9_makeTables_94 : decode cX9_makeTables 94 = .ok (.sipush 128, 3) := by decide +kernel
theorem dX9_makeTables_97 : decode cX9_makeTables 97 = .ok (.aload_n 2, 1) := by decide +kernel
theorem dX9_makeTables_98 : decode cX9_makeTables 98 = .ok (.invokevirtual 57, 3) := by decide +kernel
theorem dX9_makeTables_101 : decode cX9_makeTables 101 = .ok (.iinc 6 1, 3) := by decide +kernel
theorem dX9_makeTables_104 : decode cX9_makeTables 104 = .ok (.goto (-49), 3) := by decide +kernel
theorem dX9_makeTables_107 : decode cX9_makeTables 107 = .ok (.aload_n 3, 1) := by decide +kernel
theorem dX9_makeTables_108 : decode cX9_makeTables 108 = .ok (.aload 5, 2) := by decide +kernel
theorem dX9_makeTables_110 : decode cX9_makeTables 110 = .ok (.invokevirtual 61, 3) := by decide +kernel
theorem dX9_makeTables_113 : decode cX9_makeTables 113 = .ok (.invokevirtual 64, 3) := by decide +kernel
theorem dX9_makeTables_116 : decode cX9_makeTables 116 = .ok (.iinc 4 1, 3) := by decide +kernel
theorem dX9_makeTables_119 : decode cX9_makeTables 119 = .ok (.goto (-84), 3) := by decide +kernel
theorem dX9_makeTables_122 : decode cX9_makeTables 122 = .ok (.aload_n 2, 1) := by decide +kernel
theorem dX9_makeTables_123 : decode cX9_makeTables 123 = .ok (.aload_n 0, 1) := by decide +kernel
theorem dX9_makeTables_124 : decode cX9_makeTables 124 = .ok (.getfield 16, 3) := by decide +kernel
theorem dX9_makeTables_127 : decode cX9_makeTables 127 = .ok (.invokevirtual 67, 3) := by decide +kernel
theorem dX9_makeTables_130 : decode cX9_makeTables 130 = .ok (.return_, 1) := by decide +kernel
theorem dX9_addCounts_0 : decode cX9_addCounts 0 = .ok (.aload_n 1, 1) := by decide +kernel
theorem dX9_addCounts_1 : decode cX9_addCounts 1 = .ok (.aload_n 0, 1) := by decide +kernel
theorem dX9_addCounts_2 : decode cX9_addCounts 2 = .ok (.invokevirtual 33, 3) := by decide +kernel
theorem dX9_addCounts_5 : decode cX9_addCounts 5 = .ok (.invokevirtual 71, 3) := by decide +kernel
theorem dX9_addCounts_8 : decode cX9_addCounts 8 = .ok (.iconst 0, 1) := by decide +kernel
theorem dX9_addCounts_9 : decode cX9_addCounts 9 = .ok (.istore_n 2, 1) := by decide +kernel
theorem dX9_addCounts_10 : decode cX9_addCounts 10 = .ok (.iload_n 2, 1) := by decide +kernel
theorem dX9_addCounts_11 : decode cX9_addCounts 11 = .ok (.aload_n 0, 1) := by decide +kernel
theorem dX9_addCounts_12 : decode cX9_addCounts 12 = .ok (.invokevirtual 33, 3) := by decide +kernel
theorem dX9_addCounts_15 : decode cX9_addCounts 15 = .ok (.if_icmp .ge 21, 3) := by decide +kernel
theorem dX9_addCounts_18 : decode cX9_addCounts 18 = .ok (.aload_n 1, 1) := by decide +kernel
theorem dX9_addCounts_19 : decode cX9_addCounts 19 = .ok (.aload_n 0, 1) := by decide +kernel
theorem dX9_addCounts_20 : decode cX9_addCounts 20 = .ok (.iload_n 2, 1) := by decide +kernel
theorem dX9_addCounts_21 : decode cX9_addCounts 21 = .ok (.invokevirtual 37, 3) := by decide +kernel
theorem dX9_addCounts_24 : decode cX9_addCounts 24 = .ok (.invokevirtual 74, 3) := by decide +kernel
theorem dX9_addCounts_27 : decode cX9_addCounts 27 = .ok (.invokevirtual 71, 3) := by decide +kernel
theorem dX9_addCounts_30 : decode cX9_addCounts 30 = .ok (.iinc 2 1, 3) := by decide +kernel
theorem dX9_addCounts_33 : decode cX9_addCounts 33 = .ok (.goto (-23), 3) := by decide +kernel
theorem dX9_addCounts_36 : decode cX9_addCounts 36 = .ok (.iconst 0, 1) := by decide +kernel
theorem dX9_addCounts_37 : decode cX9_addCounts 37 = .ok (.istore_n 2, 1) := by decide +kernel
theorem dX9_addCounts_38 : decode cX9_addCounts 38 = .ok (.iload_n 2, 1) := by decide +kernel
theorem dX9_addCounts_39 : decode cX9_addCounts 39 = .ok (.aload_n 0, 1) := by decide +kernel
theorem dX9_addCounts_40 : decode cX9_addCounts 40 = .ok (.invokevirtual 33, 3) := by decide +kernel
theorem dX9_addCounts_43 : decode cX9_addCounts 43 = .ok (.if_icmp .ge 43, 3) := by decide +kernel
theorem dX9_addCounts_46 : decode cX9_addCounts 46 = .ok (.aload_n 0, 1) := by decide +kernel
theorem dX9_addCounts_47 : decode cX9_addCounts 47 = .ok (.iload_n 2, 1) := by decide +kernel
theorem dX9_addCounts_48 : decode cX9_addCounts 48 = .ok (.invokevirtual 37, 3) := by decide +kernel
theorem dX9_addCounts_51 : decode cX9_addCounts 51 = .ok (.astore_n 3, 1) := by decide +kernel
theorem dX9_addCounts_52 : decode cX9_addCounts 52 = .ok (.iconst 0, 1) := by decide +kernel
theorem dX9_addCounts_53 : decode cX9_addCounts 53 = .ok (.istore 4, 2) := by decide +kernel
theorem dX9_addCounts_55 : decode cX9_addCounts 55 = .ok (.iload 4, 2) := by decide +kernel
theorem dX9_addCounts_57 : decode cX9_addCounts 57 = .ok (.aload_n 3, 1) := by decide +kernel
theorem dX9_addCounts_58 : decode cX9_addCounts 58 = .ok (.invokevirtual 74, 3) := by decide +kernel
theorem dX9_addCounts_61 : decode cX9_addCounts 61 = .ok (.if_icmp .ge 19, 3) := by decide +kernel
theorem dX9_addCounts_64 : decode cX9_addCounts 64 = .ok (.aload_n 1, 1) := by decide +kernel
theorem dX9_addCounts_65 : decode cX9_addCounts 65 = .ok (.aload_n 3, 1) := by decide +kernel
theorem dX9_addCounts_66 : decode cX9_addCounts 66 = .ok (.iload 4, 2) := by decide +kernel
theorem dX9_addCounts_68 : decode cX9_addCounts 68 = .ok (.invokevirtual 77, 3) := by decide +kernel
theorem dX9_addCounts_71 : decode cX9_addCounts 71 = .ok (.invokevirtual 64, 3) := by decide +kernel
theorem dX9_addCounts_74 : decode cX9_addCounts 74 = .ok (.iinc 4 1, 3) := by decide +kernel
theorem dX9_addCounts_77 : decode cX9_addCounts 77 = .ok (.goto (-22), 3) := by decide +kernel
theorem dX9_addCounts_80 : decode cX9_addCounts 80 = .ok (.iinc 2 1, 3) := by decide +kernel
theorem dX9_addCounts_83 : decode cX9_addCounts 83 = .ok (.goto (-45), 3) := by decide +kernel
theorem dX9_addCounts_86 : decode cX9_addCounts 86 = .ok (.return_, 1) := by decide +kernel
theorem dX9_addStep_0 : decode cX9_addStep 0 = .ok (.iload_n 1, 1) := by decide +kernel
theorem dX9_addStep_1 : decode cX9_addStep 1 = .ok (.invokestatic 80, 3) := by decide +kernel
theorem dX9_addStep_4 : decode cX9_addStep 4 = .ok (.istore 5, 2) := by decide +kernel
theorem dX9_addStep_6 : decode cX9_addStep 6 = .ok (.iload_n 2, 1) := by decide +kernel
theorem dX9_addStep_7 : decode cX9_addStep 7 = .ok (.invokestatic 80, 3) := by decide +kernel
theorem dX9_addStep_10 : decode cX9_addStep 10 = .ok (.istore 6, 2) := by decide +kernel
theorem dX9_addStep_12 : decode cX9_addStep 12 = .ok (.iload_n 1, 1) := by decide +kernel
theorem dX9_addStep_13 : decode cX9_addStep 13 = .ok (.ifCond .ge 7, 3) := by decide +kernel
theorem dX9_addStep_16 : decode cX9_addStep 16 = .ok (.iconst 0, 1) := by decide +kernel
theorem dX9_addStep_17 : decode cX9_addStep 17 = .ok (.goto 4, 3) := by decide +kernel
theorem dX9_addStep_20 : decode cX9_addStep 20 = .ok (.iconst 1, 1) := by decide +kernel
theorem dX9_addStep_21 : decode cX9_addStep 21 = .ok (.istore 7, 2) := by decide +kernel
theorem dX9_addStep_23 : decode cX9_addStep 23 = .ok (.iload_n 2, 1) := by decide +kernel
theorem dX9_addStep_24 : decode cX9_addStep 24 = .ok (.ifCond .ge 7, 3) := by decide +kernel
theorem dX9_addStep_27 : decode cX9_addStep 27 = .ok (.iconst 0, 1) := by decide +kernel
theorem dX9_addStep_28 : decode cX9_addStep 28 = .ok (.goto 4, 3) := by decide +kernel
theorem dX9_addStep_31 : decode cX9_addStep 31 = .ok (.iconst 1, 1) := by decide +kernel
theorem dX9_addStep_32 : decode cX9_addStep 32 = .ok (.istore 8, 2) := by decide +kernel
theorem dX9_addStep_34 : decode cX9_addStep 34 = .ok (.iload 5, 2) := by decide +kernel
theorem dX9_addStep_36 : decode cX9_addStep 36 = .ok (.ifCond .ne 45, 3) := by decide +kernel
theorem dX9_addStep_39 : decode cX9_addStep 39 = .ok (.iload 6, 2) := by decide +kernel
theorem dX9_addStep_41 : decode cX9_addStep 41 = .ok (.sipush 1280, 3) := by decide +kernel
theorem dX9_addStep_44 : decode cX9_addStep 44 = .ok (.if_icmp .ge 37, 3) := by decide +kernel
theorem dX9_addStep_47 : decode cX9_addStep 47 = .ok (.aload 4, 2) := by decide +kernel
theorem dX9_addStep_49 : decode cX9_addStep 49 = .ok (.iload_n 3, 1) := by decide +kernel
theorem dX9_addStep_50 : decode cX9_addStep 50 = .ok (.iload 6, 2) := by decide +kernel
theorem dX9_addStep_52 : decode cX9_addStep 52 = .ok (.sipush 256, 3) := by decide +kernel
theorem dX9_addStep_55 : decode cX9_addStep 55 = .ok (.idiv, 1) := by decide +kernel
theorem dX9_addStep_56 : decode cX9_addStep 56 = .ok (.iconst 2, 1) := by decide +kernel
