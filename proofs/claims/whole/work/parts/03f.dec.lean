theorem dX11_simpleRead_204 : decode cX11_simpleRead 204 = .ok (.iconst 1, 1) := by decide +kernel
theorem dX11_simpleRead_205 : decode cX11_simpleRead 205 = .ok (.ireturn, 1) := by decide +kernel
theorem dX11_leaningRead_0 : decode cX11_leaningRead 0 = .ok (.aload_n 0, 1) := by decide +kernel
theorem dX11_leaningRead_1 : decode cX11_leaningRead 1 = .ok (.iconst 0, 1) := by decide +kernel
theorem dX11_leaningRead_2 : decode cX11_leaningRead 2 = .ok (.putfield 300, 3) := by decide +kernel
theorem dX11_leaningRead_5 : decode cX11_leaningRead 5 = .ok (.aload_n 0, 1) := by decide +kernel
theorem dX11_leaningRead_6 : decode cX11_leaningRead 6 = .ok (.iconst 0, 1) := by decide +kernel
theorem dX11_leaningRead_7 : decode cX11_leaningRead 7 = .ok (.putfield 297, 3) := by decide +kernel
theorem dX11_leaningRead_10 : decode cX11_leaningRead 10 = .ok (.aload_n 0, 1) := by decide +kernel
theorem dX11_leaningRead_11 : decode cX11_leaningRead 11 = .ok (.iconst 0, 1) := by decide +kernel
theorem dX11_leaningRead_12 : decode cX11_leaningRead 12 = .ok (.putfield 315, 3) := by decide +kernel
theorem dX11_leaningRead_15 : decode cX11_leaningRead 15 = .ok (.iconst 1, 1) := by decide +kernel
theorem dX11_leaningRead_16 : decode cX11_leaningRead 16 = .ok (.istore_n 2, 1) := by decide +kernel
theorem dX11_leaningRead_17 : decode cX11_leaningRead 17 = .ok (.iload_n 2, 1) := by decide +kernel
theorem dX11_leaningRead_18 : decode cX11_leaningRead 18 = .ok (.ifCond .eq 34, 3) := by decide +kernel
theorem dX11_leaningRead_21 : decode cX11_leaningRead 21 = .ok (.aload_n 0, 1) := by decide +kernel
theorem dX11_leaningRead_22 : decode cX11_leaningRead 22 = .ok (.bipush 16, 2) := by decide +kernel
theorem dX11_leaningRead_24 : decode cX11_leaningRead 24 = .ok (.invokevirtual 326, 3) := by decide +kernel
theorem dX11_leaningRead_27 : decode cX11_leaningRead 27 = .ok (.ifCond .eq 25, 3) := by decide +kernel
theorem dX11_leaningRead_30 : decode cX11_leaningRead 30 = .ok (.aload_n 0, 1) := by decide +kernel
theorem dX11_leaningRead_31 : decode cX11_leaningRead 31 = .ok (.invokevirtual 329, 3) := by decide +kernel
theorem dX11_leaningRead_34 : decode cX11_leaningRead 34 = .ok (.ifCond .ne 5, 3) := by decide +kernel
theorem dX11_leaningRead_37 : decode cX11_leaningRead 37 = .ok (.iconst 0, 1) := by decide +kernel
theorem dX11_leaningRead_38 : decode cX11_leaningRead 38 = .ok (.ireturn, 1) := by decide +kernel
theorem dX11_leaningRead_39 : decode cX11_leaningRead 39 = .ok (.aload_n 0, 1) := by decide +kernel
theorem dX11_leaningRead_40 : decode cX11_leaningRead 40 = .ok (.bipush 16, 2) := by decide +kernel
theorem dX11_leaningRead_42 : decode cX11_leaningRead 42 = .ok (.invokevirtual 318, 3) := by decide +kernel
theorem dX11_leaningRead_45 : decode cX11_leaningRead 45 = .ok (.aload_n 0, 1) := by decide +kernel
theorem dX11_leaningRead_46 : decode cX11_leaningRead 46 = .ok (.invokevirtual 212, 3) := by decide +kernel
theorem dX11_leaningRead_49 : decode cX11_leaningRead 49 = .ok (.goto (-32), 3) := by decide +kernel
theorem dX11_leaningRead_52 : decode cX11_leaningRead 52 = .ok (.iload_n 2, 1) := by decide +kernel
theorem dX11_leaningRead_53 : decode cX11_leaningRead 53 = .ok (.ifCond .eq 49, 3) := by decide +kernel
theorem dX11_leaningRead_56 : decode cX11_leaningRead 56 = .ok (.aload_n 0, 1) := by decide +kernel
theorem dX11_leaningRead_57 : decode cX11_leaningRead 57 = .ok (.bipush 40, 2) := by decide +kernel
theorem dX11_leaningRead_59 : decode cX11_leaningRead 59 = .ok (.invokevirtual 215, 3) := by decide +kernel
theorem dX11_leaningRead_62 : decode cX11_leaningRead 62 = .ok (.ifCond .eq 40, 3) := by decide +kernel
theorem dX11_leaningRead_65 : decode cX11_leaningRead 65 = .ok (.aload_n 0, 1) := by decide +kernel
theorem dX11_leaningRead_66 : decode cX11_leaningRead 66 = .ok (.getfield 315, 3) := by decide +kernel
theorem dX11_leaningRead_69 : decode cX11_leaningRead 69 = .ok (.bipush 8, 2) := by decide +kernel
theorem dX11_leaningRead_71 : decode cX11_leaningRead 71 = .ok (.if_icmp .ne 9, 3) := by decide +kernel
theorem dX11_leaningRead_74 : decode cX11_leaningRead 74 = .ok (.aload_n 0, 1) := by decide +kernel
theorem dX11_leaningRead_75 : decode cX11_leaningRead 75 = .ok (.iconst 2, 1) := by decide +kernel
theorem dX11_leaningRead_76 : decode cX11_leaningRead 76 = .ok (.invokevirtual 202, 3) := by decide +kernel
theorem dX11_leaningRead_79 : decode cX11_leaningRead 79 = .ok (.ireturn, 1) := by decide +kernel
theorem dX11_leaningRead_80 : decode cX11_leaningRead 80 = .ok (.aload_n 0, 1) := by decide +kernel
theorem dX11_leaningRead_81 : decode cX11_leaningRead 81 = .ok (.dup, 1) := by decide +kernel
theorem dX11_leaningRead_82 : decode cX11_leaningRead 82 = .ok (.getfield 315, 3) := by decide +kernel
theorem dX11_leaningRead_85 : decode cX11_leaningRead 85 = .ok (.iconst 1, 1) := by decide +kernel
theorem dX11_leaningRead_86 : decode cX11_leaningRead 86 = .ok (.iadd, 1) := by decide +kernel
theorem dX11_leaningRead_87 : decode cX11_leaningRead 87 = .ok (.putfield 315, 3) := by decide +kernel
theorem dX11_leaningRead_90 : decode cX11_leaningRead 90 = .ok (.aload_n 0, 1) := by decide +kernel
theorem dX11_leaningRead_91 : decode cX11_leaningRead 91 = .ok (.iconst (-1), 1) := by decide +kernel
theorem dX11_leaningRead_92 : decode cX11_leaningRead 92 = .ok (.invokevirtual 318, 3) := by decide +kernel
theorem dX11_leaningRead_95 : decode cX11_leaningRead 95 = .ok (.aload_n 0, 1) := by decide +kernel
theorem dX11_leaningRead_96 : decode cX11_leaningRead 96 = .ok (.invokevirtual 212, 3) := by decide +kernel
theorem dX11_leaningRead_99 : decode cX11_leaningRead 99 = .ok (.goto (-82), 3) := by decide +kernel
theorem dX11_leaningRead_102 : decode cX11_leaningRead 102 = .ok (.iload_n 2, 1) := by decide +kernel
theorem dX11_leaningRead_103 : decode cX11_leaningRead 103 = .ok (.ifCond .eq 50, 3) := by decide +kernel
theorem dX11_leaningRead_106 : decode cX11_leaningRead 106 = .ok (.aload_n 0, 1) := by decide +kernel
theorem dX11_leaningRead_107 : decode cX11_leaningRead 107 = .ok (.getfield 178, 3) := by decide +kernel
theorem dX11_leaningRead_110 : decode cX11_leaningRead 110 = .ok (.iconst 1, 1) := by decide +kernel
theorem dX11_leaningRead_111 : decode cX11_leaningRead 111 = .ok (.if_icmp .ne 21, 3) := by decide +kernel
theorem dX11_leaningRead_114 : decode cX11_leaningRead 114 = .ok (.aload_n 0, 1) := by decide +kernel
theorem dX11_leaningRead_115 : decode cX11_leaningRead 115 = .ok (.getfield 189, 3) := by decide +kernel
theorem dX11_leaningRead_118 : decode cX11_leaningRead 118 = .ok (.bipush 10, 2) := by decide +kernel
theorem dX11_leaningRead_120 : decode cX11_leaningRead 120 = .ok (.if_icmp .lt 12, 3) := by decide +kernel
theorem dX11_leaningRead_123 : decode cX11_leaningRead 123 = .ok (.aload_n 0, 1) := by decide +kernel
theorem dX11_leaningRead_124 : decode cX11_leaningRead 124 = .ok (.getfield 189, 3) := by decide +kernel
theorem dX11_leaningRead_127 : decode cX11_leaningRead 127 = .ok (.bipush 13, 2) := by decide +kernel
theorem dX11_leaningRead_129 : decode cX11_leaningRead 129 = .ok (.if_icmp .le 9, 3) := by decide +kernel
theorem dX11_leaningRead_132 : decode cX11_leaningRead 132 = .ok (.aload_n 0, 1) := by decide +kernel
theorem dX11_leaningRead_133 : decode cX11_leaningRead 133 = .ok (.iconst 1, 1) := by decide +kernel
theorem dX11_leaningRead_134 : decode cX11_leaningRead 134 = .ok (.invokevirtual 202, 3) := by decide +kernel
theorem dX11_leaningRead_137 : decode cX11_leaningRead 137 = .ok (.ireturn, 1) := by decide +kernel
theorem dX11_leaningRead_138 : decode cX11_leaningRead 138 = .ok (.aload_n 0, 1) := by decide +kernel
theorem dX11_leaningRead_139 : decode cX11_leaningRead 139 = .ok (.iload_n 1, 1) := by decide +kernel
theorem dX11_leaningRead_140 : decode cX11_leaningRead 140 = .ok (.invokevirtual 375, 3) := by decide +kernel
theorem dX11_leaningRead_143 : decode cX11_leaningRead 143 = .ok (.ifCond .ne 5, 3) := by decide +kernel
theorem dX11_leaningRead_146 : decode cX11_leaningRead 146 = .ok (.iconst 0, 1) := by decide +kernel
theorem dX11_leaningRead_147 : decode cX11_leaningRead 147 = .ok (.ireturn, 1) := by decide +kernel
theorem dX11_leaningRead_148 : decode cX11_leaningRead 148 = .ok (.iconst 0, 1) := by decide +kernel
theorem dX11_leaningRead_149 : decode cX11_leaningRead 149 = .ok (.istore_n 2, 1) := by decide +kernel
theorem dX11_leaningRead_150 : decode cX11_leaningRead 150 = .ok (.goto (-133), 3) := by decide +kernel
theorem dX11_leaningRead_153 : decode cX11_leaningRead 153 = .ok (.aload_n 0, 1) := by decide +kernel
theorem dX11_leaningRead_154 : decode cX11_leaningRead 154 = .ok (.bipush 14, 2) := by decide +kernel
theorem dX11_leaningRead_156 : decode cX11_leaningRead 156 = .ok (.invokevirtual 326, 3) := by decide +kernel
theorem dX11_leaningRead_159 : decode cX11_leaningRead 159 = .ok (.ifCond .ne 12, 3) := by decide +kernel
theorem dX11_leaningRead_162 : decode cX11_leaningRead 162 = .ok (.aload_n 0, 1) := by decide +kernel
theorem dX11_leaningRead_163 : decode cX11_leaningRead 163 = .ok (.bipush 15, 2) := by decide +kernel
theorem dX11_leaningRead_165 : decode cX11_leaningRead 165 = .ok (.invokevirtual 326, 3) := by decide +kernel
theorem dX11_leaningRead_168 : decode cX11_leaningRead 168 = .ok (.ifCond .eq 40, 3) := by decide +kernel
theorem dX11_leaningRead_171 : decode cX11_leaningRead 171 = .ok (.aload_n 0, 1) := by decide +kernel
theorem dX11_leaningRead_172 : decode cX11_leaningRead 172 = .ok (.invokevirtual 329, 3) := by decide +kernel
theorem dX11_leaningRead_175 : decode cX11_leaningRead 175 = .ok (.ifCond .ne 5, 3) := by decide +kernel
theorem dX11_leaningRead_178 : decode cX11_leaningRead 178 = .ok (.iconst 0, 1) := by decide +kernel
theorem dX11_leaningRead_179 : decode cX11_leaningRead 179 = .ok (.ireturn, 1) := by decide +kernel
theorem dX11_leaningRead_180 : decode cX11_leaningRead 180 = .ok (.aload_n 0, 1) := by decide +kernel
theorem dX11_leaningRead_181 : decode cX11_leaningRead 181 = .ok (.aload_n 0, 1) := by decide +kernel
theorem dX11_leaningRead_182 : decode cX11_leaningRead 182 = .ok (.getfield 189, 3) := by decide +kernel
theorem dX11_leaningRead_185 : decode cX11_leaningRead 185 = .ok (.invokestatic 366, 3) := by decide +kernel
theorem dX11_leaningRead_188 : decode cX11_leaningRead 188 = .ok (.invokevirtual 378, 3) := by decide +kernel
theorem dX11_leaningRead_191 : decode cX11_leaningRead 191 = .ok (.aload_n 0, 1) := by decide +kernel
theorem dX11_leaningRead_192 : decode cX11_leaningRead 192 = .ok (.aload_n 0, 1) := by decide +kernel
theorem dX11_leaningRead_193 : decode cX11_leaningRead 193 = .ok (.getfield 189, 3) := by decide +kernel
theorem dX11_leaningRead_196 : decode cX11_leaningRead 196 = .ok (.invokevirtual 318, 3) := by decide +kernel
theorem dX11_leaningRead_199 : decode cX11_leaningRead 199 = .ok (.aload_n 0, 1) := by decide +kernel
theorem dX11_leaningRead_200 : decode cX11_leaningRead 200 = .ok (.invokevirtual 212, 3) := by decide +kernel
theorem dX11_leaningRead_203 : decode cX11_leaningRead 203 = .ok (.iconst 1, 1) := by decide +kernel
theorem dX11_leaningRead_204 : decode cX11_leaningRead 204 = .ok (.istore_n 2, 1) := by decide +kernel
theorem dX11_leaningRead_205 : decode cX11_leaningRead 205 = .ok (.goto (-188), 3) := by decide +kernel
theorem dX11_leaningRead_208 : decode cX11_leaningRead 208 = .ok (.aload_n 0, 1) := by decide +kernel
theorem dX11_leaningRead_209 : decode cX11_leaningRead 209 = .ok (.getfield 315, 3) := by decide +kernel
theorem dX11_leaningRead_212 : decode cX11_leaningRead 212 = .ok (.ifCond .le 50, 3) := by decide +kernel
theorem dX11_leaningRead_215 : decode cX11_leaningRead 215 = .ok (.aload_n 0, 1) := by decide +kernel
theorem dX11_leaningRead_216 : decode cX11_leaningRead 216 = .ok (.bipush 41, 2) := by decide +kernel
theorem dX11_leaningRead_218 : decode cX11_leaningRead 218 = .ok (.invokevirtual 215, 3) := by decide +kernel
theorem dX11_leaningRead_221 : decode cX11_leaningRead 221 = .ok (.ifCond .ne 9, 3) := by decide +kernel
theorem dX11_leaningRead_224 : decode cX11_leaningRead 224 = .ok (.aload_n 0, 1) := by decide +kernel
theorem dX11_leaningRead_225 : decode cX11_leaningRead 225 = .ok (.iconst 1, 1) := by decide +kernel
theorem dX11_leaningRead_226 : decode cX11_leaningRead 226 = .ok (.invokevirtual 202, 3) := by decide +kernel
theorem dX11_leaningRead_229 : decode cX11_leaningRead 229 = .ok (.ireturn, 1) := by decide +kernel
theorem dX11_leaningRead_230 : decode cX11_leaningRead 230 = .ok (.aload_n 0, 1) := by decide +kernel
theorem dX11_leaningRead_231 : decode cX11_leaningRead 231 = .ok (.iconst 1, 1) := by decide +kernel
theorem dX11_leaningRead_232 : decode cX11_leaningRead 232 = .ok (.invokevirtual 378, 3) := by decide +kernel
theorem dX11_leaningRead_235 : decode cX11_leaningRead 235 = .ok (.aload_n 0, 1) := by decide +kernel
theorem dX11_leaningRead_236 : decode cX11_leaningRead 236 = .ok (.dup, 1) := by decide +kernel
theorem dX11_leaningRead_237 : decode cX11_leaningRead 237 = .ok (.getfield 300, 3) := by decide +kernel
theorem dX11_leaningRead_240 : decode cX11_leaningRead 240 = .ok (.iconst 1, 1) := by decide +kernel
theorem dX11_leaningRead_241 : decode cX11_leaningRead 241 = .ok (.isub, 1) := by decide +kernel
theorem dX11_leaningRead_242 : decode cX11_leaningRead 242 = .ok (.putfield 300, 3) := by decide +kernel
theorem dX11_leaningRead_245 : decode cX11_leaningRead 245 = .ok (.aload_n 0, 1) := by decide +kernel
theorem dX11_leaningRead_246 : decode cX11_leaningRead 246 = .ok (.dup, 1) := by decide +kernel
theorem dX11_leaningRead_247 : decode cX11_leaningRead 247 = .ok (.getfield 315, 3) := by decide +kernel
theorem dX11_leaningRead_250 : decode cX11_leaningRead 250 = .ok (.iconst 1, 1) := by decide +kernel
theorem dX11_leaningRead_251 : decode cX11_leaningRead 251 = .ok (.isub, 1) := by decide +kernel
theorem dX11_leaningRead_252 : decode cX11_leaningRead 252 = .ok (.putfield 315, 3) := by decide +kernel
theorem dX11_leaningRead_255 : decode cX11_leaningRead 255 = .ok (.aload_n 0, 1) := by decide +kernel
theorem dX11_leaningRead_256 : decode cX11_leaningRead 256 = .ok (.invokevirtual 212, 3) := by decide +kernel
theorem dX11_leaningRead_259 : decode cX11_leaningRead 259 = .ok (.goto (-242), 3) := by decide +kernel
theorem dX11_leaningRead_262 : decode cX11_leaningRead 262 = .ok (.aload_n 0, 1) := by decide +kernel
theorem dX11_leaningRead_263 : decode cX11_leaningRead 263 = .ok (.iconst 1, 1) := by decide +kernel
theorem dX11_leaningRead_264 : decode cX11_leaningRead 264 = .ok (.invokevirtual 378, 3) := by decide +kernel
theorem dX11_leaningRead_267 : decode cX11_leaningRead 267 = .ok (.iconst 1, 1) := by decide +kernel
theorem dX11_leaningRead_268 : decode cX11_leaningRead 268 = .ok (.ireturn, 1) := by decide +kernel
theorem dX11_manyOf_0 : decode cX11_manyOf 0 = .ok (.iconst 0, 1) := by decide +kernel
theorem dX11_manyOf_1 : decode cX11_manyOf 1 = .ok (.istore_n 1, 1) := by decide +kernel
theorem dX11_manyOf_2 : decode cX11_manyOf 2 = .ok (.iconst 0, 1) := by decide +kernel
theorem dX11_manyOf_3 : decode cX11_manyOf 3 = .ok (.istore_n 2, 1) := by decide +kernel
theorem dX11_manyOf_4 : decode cX11_manyOf 4 = .ok (.iload_n 2, 1) := by decide +kernel
theorem dX11_manyOf_5 : decode cX11_manyOf 5 = .ok (.bipush 17, 2) := by decide +kernel
theorem dX11_manyOf_7 : decode cX11_manyOf 7 = .ok (.if_icmp .ge 17, 3) := by decide +kernel
theorem dX11_manyOf_10 : decode cX11_manyOf 10 = .ok (.iload_n 1, 1) := by decide +kernel
theorem dX11_manyOf_11 : decode cX11_manyOf 11 = .ok (.iload_n 0, 1) := by decide +kernel
theorem dX11_manyOf_12 : decode cX11_manyOf 12 = .ok (.iload_n 2, 1) := by decide +kernel
theorem dX11_manyOf_13 : decode cX11_manyOf 13 = .ok (.ishr, 1) := by decide +kernel
theorem dX11_manyOf_14 : decode cX11_manyOf 14 = .ok (.iconst 1, 1) := by decide +kernel
theorem dX11_manyOf_15 : decode cX11_manyOf 15 = .ok (.iand, 1) := by decide +kernel
theorem dX11_manyOf_16 : decode cX11_manyOf 16 = .ok (.iadd, 1) := by decide +kernel
theorem dX11_manyOf_17 : decode cX11_manyOf 17 = .ok (.istore_n 1, 1) := by decide +kernel
theorem dX11_manyOf_18 : decode cX11_manyOf 18 = .ok (.iinc 2 1, 3) := by decide +kernel
theorem dX11_manyOf_21 : decode cX11_manyOf 21 = .ok (.goto (-17), 3) := by decide +kernel
theorem dX11_manyOf_24 : decode cX11_manyOf 24 = .ok (.iload_n 1, 1) := by decide +kernel
theorem dX11_manyOf_25 : decode cX11_manyOf 25 = .ok (.ireturn, 1) := by decide +kernel
theorem dX11_isSo_0 : decode cX11_isSo 0 = .ok (.aload_n 0, 1) := by decide +kernel
theorem dX11_isSo_1 : decode cX11_isSo 1 = .ok (.getfield 51, 3) := by decide +kernel
theorem dX11_isSo_4 : decode cX11_isSo 4 = .ok (.iload_n 1, 1) := by decide +kernel
theorem dX11_isSo_5 : decode cX11_isSo 5 = .ok (.iaload, 1) := by decide +kernel
theorem dX11_isSo_6 : decode cX11_isSo 6 = .ok (.istore 4, 2) := by decide +kernel
theorem dX11_isSo_8 : decode cX11_isSo 8 = .ok (.aload_n 0, 1) := by decide +kernel
theorem dX11_isSo_9 : decode cX11_isSo 9 = .ok (.getfield 48, 3) := by decide +kernel
theorem dX11_isSo_12 : decode cX11_isSo 12 = .ok (.iload_n 1, 1) := by decide +kernel
theorem dX11_isSo_13 : decode cX11_isSo 13 = .ok (.iaload, 1) := by decide +kernel
theorem dX11_isSo_14 : decode cX11_isSo 14 = .ok (.tableswitch 135 0 5 #[38, 45, 60, 81, 89, 105], 38) := by decide +kernel
theorem dX11_isSo_52 : decode cX11_isSo 52 = .ok (.iload_n 2, 1) := by decide +kernel
theorem dX11_isSo_53 : decode cX11_isSo 53 = .ok (.iload 4, 2) := by decide +kernel
theorem dX11_isSo_55 : decode cX11_isSo 55 = .ok (.invokestatic 372, 3) := by decide +kernel
theorem dX11_isSo_58 : decode cX11_isSo 58 = .ok (.ireturn, 1) := by decide +kernel
theorem dX11_isSo_59 : decode cX11_isSo 59 = .ok (.iload_n 2, 1) := by decide +kernel
theorem dX11_isSo_60 : decode cX11_isSo 60 = .ok (.iload 4, 2) := by decide +kernel
theorem dX11_isSo_62 : decode cX11_isSo 62 = .ok (.invokestatic 372, 3) := by decide +kernel
theorem dX11_isSo_65 : decode cX11_isSo 65 = .ok (.ifCond .ne 7, 3) := by decide +kernel
theorem dX11_isSo_68 : decode cX11_isSo 68 = .ok (.iconst 1, 1) := by decide +kernel
theorem dX11_isSo_69 : decode cX11_isSo 69 = .ok (.goto 4, 3) := by decide +kernel
theorem dX11_isSo_72 : decode cX11_isSo 72 = .ok (.iconst 0, 1) := by decide +kernel
theorem dX11_isSo_73 : decode cX11_isSo 73 = .ok (.ireturn, 1) := by decide +kernel
theorem dX11_isSo_74 : decode cX11_isSo 74 = .ok (.iload_n 2, 1) := by decide +kernel
theorem dX11_isSo_75 : decode cX11_isSo 75 = .ok (.iconst 1, 1) := by decide +kernel
theorem dX11_isSo_76 : decode cX11_isSo 76 = .ok (.iload_n 3, 1) := by decide +kernel
theorem dX11_isSo_77 : decode cX11_isSo 77 = .ok (.ishl, 1) := by decide +kernel
theorem dX11_isSo_78 : decode cX11_isSo 78 = .ok (.iconst (-1), 1) := by decide +kernel
theorem dX11_isSo_79 : decode cX11_isSo 79 = .ok (.ixor, 1) := by decide +kernel
theorem dX11_isSo_80 : decode cX11_isSo 80 = .ok (.iand, 1) := by decide +kernel
theorem dX11_isSo_81 : decode cX11_isSo 81 = .ok (.invokestatic 381, 3) := by decide +kernel
theorem dX11_isSo_84 : decode cX11_isSo 84 = .ok (.iload 4, 2) := by decide +kernel
theorem dX11_isSo_86 : decode cX11_isSo 86 = .ok (.if_icmp .lt 7, 3) := by decide +kernel
theorem dX11_isSo_89 : decode cX11_isSo 89 = .ok (.iconst 1, 1) := by decide +kernel
theorem dX11_isSo_90 : decode cX11_isSo 90 = .ok (.goto 4, 3) := by decide +kernel
theorem dX11_isSo_93 : decode cX11_isSo 93 = .ok (.iconst 0, 1) := by decide +kernel
theorem dX11_isSo_94 : decode cX11_isSo 94 = .ok (.ireturn, 1) := by decide +kernel
theorem dX11_isSo_95 : decode cX11_isSo 95 = .ok (.aload_n 0, 1) := by decide +kernel
theorem dX11_isSo_96 : decode cX11_isSo 96 = .ok (.getfield 91, 3) := by decide +kernel
theorem dX11_isSo_99 : decode cX11_isSo 99 = .ok (.iload 4, 2) := by decide +kernel
theorem dX11_isSo_101 : decode cX11_isSo 101 = .ok (.baload, 1) := by decide +kernel
theorem dX11_isSo_102 : decode cX11_isSo 102 = .ok (.ireturn, 1) := by decide +kernel
theorem dX11_isSo_103 : decode cX11_isSo 103 = .ok (.aload_n 0, 1) := by decide +kernel
theorem dX11_isSo_104 : decode cX11_isSo 104 = .ok (.getfield 91, 3) := by decide +kernel
theorem dX11_isSo_107 : decode cX11_isSo 107 = .ok (.iload 4, 2) := by decide +kernel
theorem dX11_isSo_109 : decode cX11_isSo 109 = .ok (.baload, 1) := by decide +kernel
theorem dX11_isSo_110 : decode cX11_isSo 110 = .ok (.ifCond .ne 7, 3) := by decide +kernel
theorem dX11_isSo_113 : decode cX11_isSo 113 = .ok (.iconst 1, 1) := by decide +kernel
theorem dX11_isSo_114 : decode cX11_isSo 114 = .ok (.goto 4, 3) := by decide +kernel
theorem dX11_isSo_117 : decode cX11_isSo 117 = .ok (.iconst 0, 1) := by decide +kernel
theorem dX11_isSo_118 : decode cX11_isSo 118 = .ok (.ireturn, 1) := by decide +kernel
theorem dX11_isSo_119 : decode cX11_isSo 119 = .ok (.aload_n 0, 1) := by decide +kernel
theorem dX11_isSo_120 : decode cX11_isSo 120 = .ok (.getfield 91, 3) := by decide +kernel
theorem dX11_isSo_123 : decode cX11_isSo 123 = .ok (.iload 4, 2) := by decide +kernel
theorem dX11_isSo_125 : decode cX11_isSo 125 = .ok (.baload, 1) := by decide +kernel
theorem dX11_isSo_126 : decode cX11_isSo 126 = .ok (.ifCond .eq 21, 3) := by decide +kernel
theorem dX11_isSo_129 : decode cX11_isSo 129 = .ok (.aload_n 0, 1) := by decide +kernel
theorem dX11_isSo_130 : decode cX11_isSo 130 = .ok (.getfield 91, 3) := by decide +kernel
theorem dX11_isSo_133 : decode cX11_isSo 133 = .ok (.aload_n 0, 1) := by decide +kernel
theorem dX11_isSo_134 : decode cX11_isSo 134 = .ok (.getfield 54, 3) := by decide +kernel
theorem dX11_isSo_137 : decode cX11_isSo 137 = .ok (.iload_n 1, 1) := by decide +kernel
theorem dX11_isSo_138 : decode cX11_isSo 138 = .ok (.iaload, 1) := by decide +kernel
theorem dX11_isSo_139 : decode cX11_isSo 139 = .ok (.baload, 1) := by decide +kernel
theorem dX11_isSo_140 : decode cX11_isSo 140 = .ok (.ifCond .eq 7, 3) := by decide +kernel
theorem dX11_isSo_143 : decode cX11_isSo 143 = .ok (.iconst 1, 1) := by decide +kernel
theorem dX11_isSo_144 : decode cX11_isSo 144 = .ok (.goto 4, 3) := by decide +kernel
theorem dX11_isSo_147 : decode cX11_isSo 147 = .ok (.iconst 0, 1) := by decide +kernel
theorem dX11_isSo_148 : decode cX11_isSo 148 = .ok (.ireturn, 1) := by decide +kernel
theorem dX11_isSo_149 : decode cX11_isSo 149 = .ok (.aload_n 0, 1) := by decide +kernel
theorem dX11_isSo_150 : decode cX11_isSo 150 = .ok (.getfield 91, 3) := by decide +kernel
theorem dX11_isSo_153 : decode cX11_isSo 153 = .ok (.iload 4, 2) := by decide +kernel
theorem dX11_isSo_155 : decode cX11_isSo 155 = .ok (.baload, 1) := by decide +kernel
theorem dX11_isSo_156 : decode cX11_isSo 156 = .ok (.ifCond .ne 17, 3) := by decide +kernel
theorem dX11_isSo_159 : decode cX11_isSo 159 = .ok (.aload_n 0, 1) := by decide +kernel
theorem dX11_isSo_160 : decode cX11_isSo 160 = .ok (.getfield 91, 3) := by decide +kernel
theorem dX11_isSo_163 : decode cX11_isSo 163 = .ok (.aload_n 0, 1) := by decide +kernel
theorem dX11_isSo_164 : decode cX11_isSo 164 = .ok (.getfield 54, 3) := by decide +kernel
theorem dX11_isSo_167 : decode cX11_isSo 167 = .ok (.iload_n 1, 1) := by decide +kernel
theorem dX11_isSo_168 : decode cX11_isSo 168 = .ok (.iaload, 1) := by decide +kernel
theorem dX11_isSo_169 : decode cX11_isSo 169 = .ok (.baload, 1) := by decide +kernel
theorem dX11_isSo_170 : decode cX11_isSo 170 = .ok (.ifCond .eq 7, 3) := by decide +kernel
theorem dX11_isSo_173 : decode cX11_isSo 173 = .ok (.iconst 1, 1) := by decide +kernel
theorem dX11_isSo_174 : decode cX11_isSo 174 = .ok (.goto 4, 3) := by decide +kernel
theorem dX11_isSo_177 : decode cX11_isSo 177 = .ok (.iconst 0, 1) := by decide +kernel
theorem dX11_isSo_178 : decode cX11_isSo 178 = .ok (.ireturn, 1) := by decide +kernel
theorem dX11_layMay_0 : decode cX11_layMay 0 = .ok (.iconst 0, 1) := by decide +kernel
theorem dX11_layMay_1 : decode cX11_layMay 1 = .ok (.istore_n 1, 1) := by decide +kernel
theorem dX11_layMay_2 : decode cX11_layMay 2 = .ok (.iload_n 1, 1) := by decide +kernel
theorem dX11_layMay_3 : decode cX11_layMay 3 = .ok (.iconst 1, 1) := by decide +kernel
theorem dX11_layMay_4 : decode cX11_layMay 4 = .ok (.aload_n 0, 1) := by decide +kernel
theorem dX11_layMay_5 : decode cX11_layMay 5 = .ok (.getfield 240, 3) := by decide +kernel
theorem dX11_layMay_8 : decode cX11_layMay 8 = .ok (.ishl, 1) := by decide +kernel
theorem dX11_layMay_9 : decode cX11_layMay 9 = .ok (.if_icmp .ge 98, 3) := by decide +kernel
theorem dX11_layMay_12 : decode cX11_layMay 12 = .ok (.aload_n 0, 1) := by decide +kernel
theorem dX11_layMay_13 : decode cX11_layMay 13 = .ok (.getfield 88, 3) := by decide +kernel
theorem dX11_layMay_16 : decode cX11_layMay 16 = .ok (.iload_n 1, 1) := by decide +kernel
theorem dX11_layMay_17 : decode cX11_layMay 17 = .ok (.iconst 0, 1) := by decide +kernel
theorem dX11_layMay_18 : decode cX11_layMay 18 = .ok (.iastore, 1) := by decide +kernel
theorem dX11_layMay_19 : decode cX11_layMay 19 = .ok (.iconst 0, 1) := by decide +kernel
theorem dX11_layMay_20 : decode cX11_layMay 20 = .ok (.istore_n 2, 1) := by decide +kernel
theorem dX11_layMay_21 : decode cX11_layMay 21 = .ok (.iload_n 2, 1) := by decide +kernel
theorem dX11_layMay_22 : decode cX11_layMay 22 = .ok (.aload_n 0, 1) := by decide +kernel
theorem dX11_layMay_23 : decode cX11_layMay 23 = .ok (.getfield 240, 3) := by decide +kernel
theorem dX11_layMay_26 : decode cX11_layMay 26 = .ok (.if_icmp .ge 75, 3) := by decide +kernel
theorem dX11_layMay_29 : decode cX11_layMay 29 = .ok (.iconst 0, 1) := by decide +kernel
theorem dX11_layMay_30 : decode cX11_layMay 30 = .ok (.istore_n 3, 1) := by decide +kernel
theorem dX11_layMay_31 : decode cX11_layMay 31 = .ok (.iload_n 3, 1) := by decide +kernel
theorem dX11_layMay_32 : decode cX11_layMay 32 = .ok (.aload_n 0, 1) := by decide +kernel
theorem dX11_layMay_33 : decode cX11_layMay 33 = .ok (.getfield 33, 3) := by decide +kernel
theorem dX11_layMay_36 : decode cX11_layMay 36 = .ok (.iload_n 2, 1) := by decide +kernel
theorem dX11_layMay_37 : decode cX11_layMay 37 = .ok (.iaload, 1) := by decide +kernel
theorem dX11_layMay_38 : decode cX11_layMay 38 = .ok (.if_icmp .gt 22, 3) := by decide +kernel
theorem dX11_layMay_41 : decode cX11_layMay 41 = .ok (.aload_n 0, 1) := by decide +kernel
theorem dX11_layMay_42 : decode cX11_layMay 42 = .ok (.getfield 91, 3) := by decide +kernel
theorem dX11_layMay_45 : decode cX11_layMay 45 = .ok (.iload_n 3, 1) := by decide +kernel
theorem dX11_layMay_46 : decode cX11_layMay 46 = .ok (.aload_n 0, 1) := by decide +kernel
theorem dX11_layMay_47 : decode cX11_layMay 47 = .ok (.iload_n 3, 1) := by decide +kernel
theorem dX11_layMay_48 : decode cX11_layMay 48 = .ok (.iload_n 1, 1) := by decide +kernel
theorem dX11_layMay_49 : decode cX11_layMay 49 = .ok (.iload_n 2, 1) := by decide +kernel
theorem dX11_layMay_50 : decode cX11_layMay 50 = .ok (.invokevirtual 384, 3) := by decide +kernel
theorem dX11_layMay_53 : decode cX11_layMay 53 = .ok (.bastore, 1) := by decide +kernel
theorem dX11_layMay_54 : decode cX11_layMay 54 = .ok (.iinc 3 1, 3) := by decide +kernel
theorem dX11_layMay_57 : decode cX11_layMay 57 = .ok (.goto (-26), 3) := by decide +kernel
theorem dX11_layMay_60 : decode cX11_layMay 60 = .ok (.aload_n 0, 1) := by decide +kernel
theorem dX11_layMay_61 : decode cX11_layMay 61 = .ok (.getfield 33, 3) := by decide +kernel
theorem dX11_layMay_64 : decode cX11_layMay 64 = .ok (.iload_n 2, 1) := by decide +kernel
theorem dX11_layMay_65 : decode cX11_layMay 65 = .ok (.iaload, 1) := by decide +kernel
theorem dX11_layMay_66 : decode cX11_layMay 66 = .ok (.ifCond .lt 17, 3) := by decide +kernel
theorem dX11_layMay_69 : decode cX11_layMay 69 = .ok (.aload_n 0, 1) := by decide +kernel
theorem dX11_layMay_70 : decode cX11_layMay 70 = .ok (.getfield 91, 3) := by decide +kernel
theorem dX11_layMay_73 : decode cX11_layMay 73 = .ok (.aload_n 0, 1) := by decide +kernel
theorem dX11_layMay_74 : decode cX11_layMay 74 = .ok (.getfield 33, 3) := by decide +kernel
theorem dX11_layMay_77 : decode cX11_layMay 77 = .ok (.iload_n 2, 1) := by decide +kernel
theorem dX11_layMay_78 : decode cX11_layMay 78 = .ok (.iaload, 1) := by decide +kernel
theorem dX11_layMay_79 : decode cX11_layMay 79 = .ok (.baload, 1) := by decide +kernel
theorem dX11_layMay_80 : decode cX11_layMay 80 = .ok (.ifCond .eq 15, 3) := by decide +kernel
theorem dX11_layMay_83 : decode cX11_layMay 83 = .ok (.aload_n 0, 1) := by decide +kernel
theorem dX11_layMay_84 : decode cX11_layMay 84 = .ok (.getfield 88, 3) := by decide +kernel
theorem dX11_layMay_87 : decode cX11_layMay 87 = .ok (.iload_n 1, 1) := by decide +kernel
theorem dX11_layMay_88 : decode cX11_layMay 88 = .ok (.dup2, 1) := by decide +kernel
theorem dX11_layMay_89 : decode cX11_layMay 89 = .ok (.iaload, 1) := by decide +kernel
theorem dX11_layMay_90 : decode cX11_layMay 90 = .ok (.iconst 1, 1) := by decide +kernel
theorem dX11_layMay_91 : decode cX11_layMay 91 = .ok (.iload_n 2, 1) := by decide +kernel
theorem dX11_layMay_92 : decode cX11_layMay 92 = .ok (.ishl, 1) := by decide +kernel
theorem dX11_layMay_93 : decode cX11_layMay 93 = .ok (.ior, 1) := by decide +kernel
theorem dX11_layMay_94 : decode cX11_layMay 94 = .ok (.iastore, 1) := by decide +kernel
theorem dX11_layMay_95 : decode cX11_layMay 95 = .ok (.iinc 2 1, 3) := by decide +kernel
theorem dX11_layMay_98 : decode cX11_layMay 98 = .ok (.goto (-77), 3) := by decide +kernel
theorem dX11_layMay_101 : decode cX11_layMay 101 = .ok (.iinc 1 1, 3) := by decide +kernel
theorem dX11_layMay_104 : decode cX11_layMay 104 = .ok (.goto (-102), 3) := by decide +kernel
theorem dX11_layMay_107 : decode cX11_layMay 107 = .ok (.return_, 1) := by decide +kernel
theorem dX11_begin_0 : decode cX11_begin 0 = .ok (.aload_n 0, 1) := by decide +kernel
theorem dX11_begin_1 : decode cX11_begin 1 = .ok (.getfield 94, 3) := by decide +kernel
theorem dX11_begin_4 : decode cX11_begin 4 = .ok (.iconst 0, 1) := by decide +kernel
theorem dX11_begin_5 : decode cX11_begin 5 = .ok (.iconst 0, 1) := by decide +kernel
theorem dX11_begin_6 : decode cX11_begin 6 = .ok (.iastore, 1) := by decide +kernel
theorem dX11_begin_7 : decode cX11_begin 7 = .ok (.iconst 0, 1) := by decide +kernel
theorem dX11_begin_8 : decode cX11_begin 8 = .ok (.istore_n 1, 1) := by decide +kernel
theorem dX11_begin_9 : decode cX11_begin 9 = .ok (.iload_n 1, 1) := by decide +kernel
theorem dX11_begin_10 : decode cX11_begin 10 = .ok (.aload_n 0, 1) := by decide +kernel
theorem dX11_begin_11 : decode cX11_begin 11 = .ok (.getfield 240, 3) := by decide +kernel
theorem dX11_begin_14 : decode cX11_begin 14 = .ok (.if_icmp .ge 26, 3) := by decide +kernel
theorem dX11_begin_17 : decode cX11_begin 17 = .ok (.aload_n 0, 1) := by decide +kernel
theorem dX11_begin_18 : decode cX11_begin 18 = .ok (.getfield 94, 3) := by decide +kernel
theorem dX11_begin_21 : decode cX11_begin 21 = .ok (.iconst 0, 1) := by decide +kernel
theorem dX11_begin_22 : decode cX11_begin 22 = .ok (.dup2, 1) := by decide +kernel
theorem dX11_begin_23 : decode cX11_begin 23 = .ok (.iaload, 1) := by decide +kernel
theorem dX11_begin_24 : decode cX11_begin 24 = .ok (.aload_n 0, 1) := by decide +kernel
theorem dX11_begin_25 : decode cX11_begin 25 = .ok (.getfield 30, 3) := by decide +kernel
theorem dX11_begin_28 : decode cX11_begin 28 = .ok (.iload_n 1, 1) := by decide +kernel
theorem dX11_begin_29 : decode cX11_begin 29 = .ok (.iaload, 1) := by decide +kernel
theorem dX11_begin_30 : decode cX11_begin 30 = .ok (.iload_n 1, 1) := by decide +kernel
theorem dX11_begin_31 : decode cX11_begin 31 = .ok (.ishl, 1) := by decide +kernel
theorem dX11_begin_32 : decode cX11_begin 32 = .ok (.ior, 1) := by decide +kernel
theorem dX11_begin_33 : decode cX11_begin 33 = .ok (.iastore, 1) := by decide +kernel
theorem dX11_begin_34 : decode cX11_begin 34 = .ok (.iinc 1 1, 3) := by decide +kernel
theorem dX11_begin_37 : decode cX11_begin 37 = .ok (.goto (-28), 3) := by decide +kernel
theorem dX11_begin_40 : decode cX11_begin 40 = .ok (.iconst 0, 1) := by decide +kernel
theorem dX11_begin_41 : decode cX11_begin 41 = .ok (.istore_n 1, 1) := by decide +kernel
theorem dX11_begin_42 : decode cX11_begin 42 = .ok (.iload_n 1, 1) := by decide +kernel
theorem dX11_begin_43 : decode cX11_begin 43 = .ok (.bipush 8, 2) := by decide +kernel
theorem dX11_begin_45 : decode cX11_begin 45 = .ok (.if_icmp .ge 16, 3) := by decide +kernel
theorem dX11_begin_48 : decode cX11_begin 48 = .ok (.aload_n 0, 1) := by decide +kernel
theorem dX11_begin_49 : decode cX11_begin 49 = .ok (.getfield 109, 3) := by decide +kernel
theorem dX11_begin_52 : decode cX11_begin 52 = .ok (.iload_n 1, 1) := by decide +kernel
theorem dX11_begin_53 : decode cX11_begin 53 = .ok (.iconst 0, 1) := by decide +kernel
theorem dX11_begin_54 : decode cX11_begin 54 = .ok (.iastore, 1) := by decide +kernel
theorem dX11_begin_55 : decode cX11_begin 55 = .ok (.iinc 1 1, 3) := by decide +kernel
theorem dX11_begin_58 : decode cX11_begin 58 = .ok (.goto (-16), 3) := by decide +kernel
theorem dX11_begin_61 : decode cX11_begin 61 = .ok (.aload_n 0, 1) := by decide +kernel
theorem dX11_begin_62 : decode cX11_begin 62 = .ok (.getfield 97, 3) := by decide +kernel
theorem dX11_begin_65 : decode cX11_begin 65 = .ok (.iconst 0, 1) := by decide +kernel
theorem dX11_begin_66 : decode cX11_begin 66 = .ok (.iconst 0, 1) := by decide +kernel
theorem dX11_begin_67 : decode cX11_begin 67 = .ok (.iastore, 1) := by decide +kernel
theorem dX11_begin_68 : decode cX11_begin 68 = .ok (.aload_n 0, 1) := by decide +kernel
theorem dX11_begin_69 : decode cX11_begin 69 = .ok (.getfield 100, 3) := by decide +kernel
theorem dX11_begin_72 : decode cX11_begin 72 = .ok (.iconst 0, 1) := by decide +kernel
theorem dX11_begin_73 : decode cX11_begin 73 = .ok (.iconst 0, 1) := by decide +kernel
theorem dX11_begin_74 : decode cX11_begin 74 = .ok (.iastore, 1) := by decide +kernel
theorem dX11_begin_75 : decode cX11_begin 75 = .ok (.aload_n 0, 1) := by decide +kernel
theorem dX11_begin_76 : decode cX11_begin 76 = .ok (.getfield 103, 3) := by decide +kernel
theorem dX11_begin_79 : decode cX11_begin 79 = .ok (.iconst 0, 1) := by decide +kernel
theorem dX11_begin_80 : decode cX11_begin 80 = .ok (.iconst 0, 1) := by decide +kernel
theorem dX11_begin_81 : decode cX11_begin 81 = .ok (.iastore, 1) := by decide +kernel
theorem dX11_begin_82 : decode cX11_begin 82 = .ok (.aload_n 0, 1) := by decide +kernel
theorem dX11_begin_83 : decode cX11_begin 83 = .ok (.getfield 106, 3) := by decide +kernel
theorem dX11_begin_86 : decode cX11_begin 86 = .ok (.iconst 0, 1) := by decide +kernel
theorem dX11_begin_87 : decode cX11_begin 87 = .ok (.iconst 0, 1) := by decide +kernel
theorem dX11_begin_88 : decode cX11_begin 88 = .ok (.iastore, 1) := by decide +kernel
theorem dX11_begin_89 : decode cX11_begin 89 = .ok (.aload_n 0, 1) := by decide +kernel
theorem dX11_begin_90 : decode cX11_begin 90 = .ok (.aload_n 0, 1) := by decide +kernel
theorem dX11_begin_91 : decode cX11_begin 91 = .ok (.getfield 24, 3) := by decide +kernel
theorem dX11_begin_94 : decode cX11_begin 94 = .ok (.iconst 1, 1) := by decide +kernel
theorem dX11_begin_95 : decode cX11_begin 95 = .ok (.iaload, 1) := by decide +kernel
theorem dX11_begin_96 : decode cX11_begin 96 = .ok (.i2l, 1) := by decide +kernel
theorem dX11_begin_97 : decode cX11_begin 97 = .ok (.putfield 387, 3) := by decide +kernel
theorem dX11_begin_100 : decode cX11_begin 100 = .ok (.aload_n 0, 1) := by decide +kernel
theorem dX11_begin_101 : decode cX11_begin 101 = .ok (.invokevirtual 391, 3) := by decide +kernel
theorem dX11_begin_104 : decode cX11_begin 104 = .ok (.aload_n 0, 1) := by decide +kernel
theorem dX11_begin_105 : decode cX11_begin 105 = .ok (.iconst 0, 1) := by decide +kernel
theorem dX11_begin_106 : decode cX11_begin 106 = .ok (.putfield 394, 3) := by decide +kernel
theorem dX11_begin_109 : decode cX11_begin 109 = .ok (.aload_n 0, 1) := by decide +kernel
theorem dX11_begin_110 : decode cX11_begin 110 = .ok (.iconst (-1), 1) := by decide +kernel
theorem dX11_begin_111 : decode cX11_begin 111 = .ok (.putfield 139, 3) := by decide +kernel
theorem dX11_begin_114 : decode cX11_begin 114 = .ok (.aload_n 0, 1) := by decide +kernel
theorem dX11_begin_115 : decode cX11_begin 115 = .ok (.iconst 0, 1) := by decide +kernel
theorem dX11_begin_116 : decode cX11_begin 116 = .ok (.putfield 397, 3) := by decide +kernel
theorem dX11_begin_119 : decode cX11_begin 119 = .ok (.aload_n 0, 1) := by decide +kernel
theorem dX11_begin_120 : decode cX11_begin 120 = .ok (.iconst 0, 1) := by decide +kernel
theorem dX11_begin_121 : decode cX11_begin 121 = .ok (.putfield 400, 3) := by decide +kernel
theorem dX11_begin_124 : decode cX11_begin 124 = .ok (.return_, 1) := by decide +kernel
theorem dX11_plainTried_0 : decode cX11_plainTried 0 = .ok (.aload_n 0, 1) := by decide +kernel
theorem dX11_plainTried_1 : decode cX11_plainTried 1 = .ok (.iconst 0, 1) := by decide +kernel
theorem dX11_plainTried_2 : decode cX11_plainTried 2 = .ok (.putfield 403, 3) := by decide +kernel
theorem dX11_plainTried_5 : decode cX11_plainTried 5 = .ok (.aload_n 0, 1) := by decide +kernel
theorem dX11_plainTried_6 : decode cX11_plainTried 6 = .ok (.iconst 0, 1) := by decide +kernel
theorem dX11_plainTried_7 : decode cX11_plainTried 7 = .ok (.putfield 406, 3) := by decide +kernel
theorem dX11_plainTried_10 : decode cX11_plainTried 10 = .ok (.aload_n 0, 1) := by decide +kernel
theorem dX11_plainTried_11 : decode cX11_plainTried 11 = .ok (.iconst 0, 1) := by decide +kernel
theorem dX11_plainTried_12 : decode cX11_plainTried 12 = .ok (.putfield 409, 3) := by decide +kernel
theorem dX11_plainTried_15 : decode cX11_plainTried 15 = .ok (.aload_n 0, 1) := by decide +kernel
theorem dX11_plainTried_16 : decode cX11_plainTried 16 = .ok (.iconst 0, 1) := by decide +kernel
theorem dX11_plainTried_17 : decode cX11_plainTried 17 = .ok (.putfield 412, 3) := by decide +kernel
theorem dX11_plainTried_20 : decode cX11_plainTried 20 = .ok (.aload_n 0, 1) := by decide +kernel
theorem dX11_plainTried_21 : decode cX11_plainTried 21 = .ok (.iconst 0, 1) := by decide +kernel
theorem dX11_plainTried_22 : decode cX11_plainTried 22 = .ok (.putfield 415, 3) := by decide +kernel
theorem dX11_plainTried_25 : decode cX11_plainTried 25 = .ok (.aload_n 0, 1) := by decide +kernel
theorem dX11_plainTried_26 : decode cX11_plainTried 26 = .ok (.iconst (-1), 1) := by decide +kernel
theorem dX11_plainTried_27 : decode cX11_plainTried 27 = .ok (.putfield 418, 3) := by decide +kernel
theorem dX11_plainTried_30 : decode cX11_plainTried 30 = .ok (.return_, 1) := by decide +kernel
theorem dX11_layTried_0 : decode cX11_layTried 0 = .ok (.aload_n 0, 1) := by decide +kernel
theorem dX11_layTried_1 : decode cX11_layTried 1 = .ok (.getfield 94, 3) := by decide +kernel
theorem dX11_layTried_4 : decode cX11_layTried 4 = .ok (.iconst 1, 1) := by decide +kernel
theorem dX11_layTried_5 : decode cX11_layTried 5 = .ok (.aload_n 0, 1) := by decide +kernel
theorem dX11_layTried_6 : decode cX11_layTried 6 = .ok (.getfield 94, 3) := by decide +kernel
theorem dX11_layTried_9 : decode cX11_layTried 9 = .ok (.iconst 0, 1) := by decide +kernel
theorem dX11_layTried_10 : decode cX11_layTried 10 = .ok (.iaload, 1) := by decide +kernel
theorem dX11_layTried_11 : decode cX11_layTried 11 = .ok (.iastore, 1) := by decide +kernel
theorem dX11_layTried_12 : decode cX11_layTried 12 = .ok (.aload_n 0, 1) := by decide +kernel
theorem dX11_layTried_13 : decode cX11_layTried 13 = .ok (.getfield 97, 3) := by decide +kernel
theorem dX11_layTried_16 : decode cX11_layTried 16 = .ok (.iconst 1, 1) := by decide +kernel
theorem dX11_layTried_17 : decode cX11_layTried 17 = .ok (.aload_n 0, 1) := by decide +kernel
theorem dX11_layTried_18 : decode cX11_layTried 18 = .ok (.getfield 97, 3) := by decide +kernel
theorem dX11_layTried_21 : decode cX11_layTried 21 = .ok (.iconst 0, 1) := by decide +kernel
theorem dX11_layTried_22 : decode cX11_layTried 22 = .ok (.iaload, 1) := by decide +kernel
theorem dX11_layTried_23 : decode cX11_layTried 23 = .ok (.iastore, 1) := by decide +kernel
theorem dX11_layTried_24 : decode cX11_layTried 24 = .ok (.aload_n 0, 1) := by decide +kernel
theorem dX11_layTried_25 : decode cX11_layTried 25 = .ok (.getfield 100, 3) := by decide +kernel
theorem dX11_layTried_28 : decode cX11_layTried 28 = .ok (.iconst 1, 1) := by decide +kernel
theorem dX11_layTried_29 : decode cX11_layTried 29 = .ok (.aload_n 0, 1) := by decide +kernel
theorem dX11_layTried_30 : decode cX11_layTried 30 = .ok (.getfield 100, 3) := by decide +kernel
theorem dX11_layTried_33 : decode cX11_layTried 33 = .ok (.iconst 0, 1) := by decide +kernel
theorem dX11_layTried_34 : decode cX11_layTried 34 = .ok (.iaload, 1) := by decide +kernel
theorem dX11_layTried_35 : decode cX11_layTried 35 = .ok (.iastore, 1) := by decide +kernel
theorem dX11_layTried_36 : decode cX11_layTried 36 = .ok (.aload_n 0, 1) := by decide +kernel
theorem dX11_layTried_37 : decode cX11_layTried 37 = .ok (.getfield 103, 3) := by decide +kernel
theorem dX11_layTried_40 : decode cX11_layTried 40 = .ok (.iconst 1, 1) := by decide +kernel
theorem dX11_layTried_41 : decode cX11_layTried 41 = .ok (.aload_n 0, 1) := by decide +kernel
theorem dX11_layTried_42 : decode cX11_layTried 42 = .ok (.getfield 103, 3) := by decide +kernel
theorem dX11_layTried_45 : decode cX11_layTried 45 = .ok (.iconst 0, 1) := by decide +kernel
theorem dX11_layTried_46 : decode cX11_layTried 46 = .ok (.iaload, 1) := by decide +kernel
theorem dX11_layTried_47 : decode cX11_layTried 47 = .ok (.iastore, 1) := by decide +kernel
theorem dX11_layTried_48 : decode cX11_layTried 48 = .ok (.aload_n 0, 1) := by decide +kernel
theorem dX11_layTried_49 : decode cX11_layTried 49 = .ok (.getfield 106, 3) := by decide +kernel
theorem dX11_layTried_52 : decode cX11_layTried 52 = .ok (.iconst 1, 1) := by decide +kernel
theorem dX11_layTried_53 : decode cX11_layTried 53 = .ok (.aload_n 0, 1) := by decide +kernel
theorem dX11_layTried_54 : decode cX11_layTried 54 = .ok (.getfield 106, 3) := by decide +kernel
theorem dX11_layTried_57 : decode cX11_layTried 57 = .ok (.iconst 0, 1) := by decide +kernel
theorem dX11_layTried_58 : decode cX11_layTried 58 = .ok (.iaload, 1) := by decide +kernel
theorem dX11_layTried_59 : decode cX11_layTried 59 = .ok (.iastore, 1) := by decide +kernel
theorem dX11_layTried_60 : decode cX11_layTried 60 = .ok (.iconst 0, 1) := by decide +kernel
theorem dX11_layTried_61 : decode cX11_layTried 61 = .ok (.istore_n 1, 1) := by decide +kernel
theorem dX11_layTried_62 : decode cX11_layTried 62 = .ok (.iload_n 1, 1) := by decide +kernel
theorem dX11_layTried_63 : decode cX11_layTried 63 = .ok (.bipush 8, 2) := by decide +kernel
theorem dX11_layTried_65 : decode cX11_layTried 65 = .ok (.if_icmp .ge 24, 3) := by decide +kernel
theorem dX11_layTried_68 : decode cX11_layTried 68 = .ok (.aload_n 0, 1) := by decide +kernel
theorem dX11_layTried_69 : decode cX11_layTried 69 = .ok (.getfield 109, 3) := by decide +kernel
theorem dX11_layTried_72 : decode cX11_layTried 72 = .ok (.bipush 8, 2) := by decide +kernel
theorem dX11_layTried_74 : decode cX11_layTried 74 = .ok (.iload_n 1, 1) := by decide +kernel
theorem dX11_layTried_75 : decode cX11_layTried 75 = .ok (.iadd, 1) := by decide +kernel
theorem dX11_layTried_76 : decode cX11_layTried 76 = .ok (.aload_n 0, 1) := by decide +kernel
theorem dX11_layTried_77 : decode cX11_layTried 77 = .ok (.getfield 109, 3) := by decide +kernel
theorem dX11_layTried_80 : decode cX11_layTried 80 = .ok (.iload_n 1, 1) := by decide +kernel
theorem dX11_layTried_81 : decode cX11_layTried 81 = .ok (.iaload, 1) := by decide +kernel
theorem dX11_layTried_82 : decode cX11_layTried 82 = .ok (.iastore, 1) := by decide +kernel
theorem dX11_layTried_83 : decode cX11_layTried 83 = .ok (.iinc 1 1, 3) := by decide +kernel
theorem dX11_layTried_86 : decode cX11_layTried 86 = .ok (.goto (-24), 3) := by decide +kernel
theorem dX11_layTried_89 : decode cX11_layTried 89 = .ok (.aload_n 0, 1) := by decide +kernel
theorem dX11_layTried_90 : decode cX11_layTried 90 = .ok (.invokevirtual 391, 3) := by decide +kernel
theorem dX11_layTried_93 : decode cX11_layTried 93 = .ok (.return_, 1) := by decide +kernel
theorem dX11_isLatch_0 : decode cX11_isLatch 0 = .ok (.iload_n 1, 1) := by decide +kernel
theorem dX11_isLatch_1 : decode cX11_isLatch 1 = .ok (.ifCond .lt 15, 3) := by decide +kernel
theorem dX11_isLatch_4 : decode cX11_isLatch 4 = .ok (.iload_n 1, 1) := by decide +kernel
theorem dX11_isLatch_5 : decode cX11_isLatch 5 = .ok (.aload_n 0, 1) := by decide +kernel
theorem dX11_isLatch_6 : decode cX11_isLatch 6 = .ok (.getfield 240, 3) := by decide +kernel
theorem dX11_isLatch_9 : decode cX11_isLatch 9 = .ok (.if_icmp .ge 7, 3) := by decide +kernel
theorem dX11_isLatch_12 : decode cX11_isLatch 12 = .ok (.iconst 1, 1) := by decide +kernel
theorem dX11_isLatch_13 : decode cX11_isLatch 13 = .ok (.goto 4, 3) := by decide +kernel
theorem dX11_isLatch_16 : decode cX11_isLatch 16 = .ok (.iconst 0, 1) := by decide +kernel
theorem dX11_isLatch_17 : decode cX11_isLatch 17 = .ok (.ireturn, 1) := by decide +kernel
theorem dX11_isRow_0 : decode cX11_isRow 0 = .ok (.iload_n 1, 1) := by decide +kernel
theorem dX11_isRow_1 : decode cX11_isRow 1 = .ok (.ifCond .lt 17, 3) := by decide +kernel
theorem dX11_isRow_4 : decode cX11_isRow 4 = .ok (.iload_n 1, 1) := by decide +kernel
theorem dX11_isRow_5 : decode cX11_isRow 5 = .ok (.iconst 1, 1) := by decide +kernel
theorem dX11_isRow_6 : decode cX11_isRow 6 = .ok (.aload_n 0, 1) := by decide +kernel
theorem dX11_isRow_7 : decode cX11_isRow 7 = .ok (.getfield 240, 3) := by decide +kernel
theorem dX11_isRow_10 : decode cX11_isRow 10 = .ok (.ishl, 1) := by decide +kernel
theorem dX11_isRow_11 : decode cX11_isRow 11 = .ok (.if_icmp .ge 7, 3) := by decide +kernel
theorem dX11_isRow_14 : decode cX11_isRow 14 = .ok (.iconst 1, 1) := by decide +kernel
theorem dX11_isRow_15 : decode cX11_isRow 15 = .ok (.goto 4, 3) := by decide +kernel
theorem dX11_isRow_18 : decode cX11_isRow 18 = .ok (.iconst 0, 1) := by decide +kernel
theorem dX11_isRow_19 : decode cX11_isRow 19 = .ok (.ireturn, 1) := by decide +kernel
theorem dX11_canNow_0 : decode cX11_canNow 0 = .ok (.aload_n 0, 1) := by decide +kernel
theorem dX11_canNow_1 : decode cX11_canNow 1 = .ok (.getfield 409, 3) := by decide +kernel
theorem dX11_canNow_4 : decode cX11_canNow 4 = .ok (.ifCond .eq 9, 3) := by decide +kernel
theorem dX11_canNow_7 : decode cX11_canNow 7 = .ok (.sipush 255, 3) := by decide +kernel
theorem dX11_canNow_10 : decode cX11_canNow 10 = .ok (.goto 14, 3) := by decide +kernel
theorem dX11_canNow_13 : decode cX11_canNow 13 = .ok (.aload_n 0, 1) := by decide +kernel
theorem dX11_canNow_14 : decode cX11_canNow 14 = .ok (.getfield 88, 3) := by decide +kernel
theorem dX11_canNow_17 : decode cX11_canNow 17 = .ok (.aload_n 0, 1) := by decide +kernel
theorem dX11_canNow_18 : decode cX11_canNow 18 = .ok (.getfield 94, 3) := by decide +kernel
theorem dX11_canNow_21 : decode cX11_canNow 21 = .ok (.iload_n 1, 1) := by decide +kernel
theorem dX11_canNow_22 : decode cX11_canNow 22 = .ok (.iaload, 1) := by decide +kernel
theorem dX11_canNow_23 : decode cX11_canNow 23 = .ok (.iaload, 1) := by decide +kernel
theorem dX11_canNow_24 : decode cX11_canNow 24 = .ok (.aload_n 0, 1) := by decide +kernel
theorem dX11_canNow_25 : decode cX11_canNow 25 = .ok (.getfield 97, 3) := by decide +kernel
theorem dX11_canNow_28 : decode cX11_canNow 28 = .ok (.iload_n 1, 1) := by decide +kernel
theorem dX11_canNow_29 : decode cX11_canNow 29 = .ok (.iaload, 1) := by decide +kernel
theorem dX11_canNow_30 : decode cX11_canNow 30 = .ok (.iconst (-1), 1) := by decide +kernel
theorem dX11_canNow_31 : decode cX11_canNow 31 = .ok (.ixor, 1) := by decide +kernel
theorem dX11_canNow_32 : decode cX11_canNow 32 = .ok (.iand, 1) := by decide +kernel
theorem dX11_canNow_33 : decode cX11_canNow 33 = .ok (.ireturn, 1) := by decide +kernel
theorem dX11_lay_0 : decode cX11_lay 0 = .ok (.aload_n 0, 1) := by decide +kernel
theorem dX11_lay_1 : decode cX11_lay 1 = .ok (.getfield 81, 3) := by decide +kernel
theorem dX11_lay_4 : decode cX11_lay 4 = .ok (.iconst 0, 1) := by decide +kernel
theorem dX11_lay_5 : decode cX11_lay 5 = .ok (.aload_n 0, 1) := by decide +kernel
theorem dX11_lay_6 : decode cX11_lay 6 = .ok (.getfield 109, 3) := by decide +kernel
theorem dX11_lay_9 : decode cX11_lay 9 = .ok (.bipush 8, 2) := by decide +kernel
theorem dX11_lay_11 : decode cX11_lay 11 = .ok (.iload_n 1, 1) := by decide +kernel
theorem dX11_lay_12 : decode cX11_lay 12 = .ok (.imul, 1) := by decide +kernel
theorem dX11_lay_13 : decode cX11_lay 13 = .ok (.iload_n 2, 1) := by decide +kernel
theorem dX11_lay_14 : decode cX11_lay 14 = .ok (.iadd, 1) := by decide +kernel
theorem dX11_lay_15 : decode cX11_lay 15 = .ok (.iaload, 1) := by decide +kernel
theorem dX11_lay_16 : decode cX11_lay 16 = .ok (.i2l, 1) := by decide +kernel
theorem dX11_lay_17 : decode cX11_lay 17 = .ok (.lastore, 1) := by decide +kernel
theorem dX11_lay_18 : decode cX11_lay 18 = .ok (.aload_n 0, 1) := by decide +kernel
theorem dX11_lay_19 : decode cX11_lay 19 = .ok (.getfield 81, 3) := by decide +kernel
theorem dX11_lay_22 : decode cX11_lay 22 = .ok (.iconst 1, 1) := by decide +kernel
theorem dX11_lay_23 : decode cX11_lay 23 = .ok (.iload_n 2, 1) := by decide +kernel
theorem dX11_lay_24 : decode cX11_lay 24 = .ok (.i2l, 1) := by decide +kernel
theorem dX11_lay_25 : decode cX11_lay 25 = .ok (.lastore, 1) := by decide +kernel
theorem dX11_lay_26 : decode cX11_lay 26 = .ok (.aload_n 0, 1) := by decide +kernel
theorem dX11_lay_27 : decode cX11_lay 27 = .ok (.getfield 81, 3) := by decide +kernel
theorem dX11_lay_30 : decode cX11_lay 30 = .ok (.iconst 2, 1) := by decide +kernel
theorem dX11_lay_31 : decode cX11_lay 31 = .ok (.aload_n 0, 1) := by decide +kernel
theorem dX11_lay_32 : decode cX11_lay 32 = .ok (.getfield 94, 3) := by decide +kernel
theorem dX11_lay_35 : decode cX11_lay 35 = .ok (.iload_n 1, 1) := by decide +kernel
theorem dX11_lay_36 : decode cX11_lay 36 = .ok (.iaload, 1) := by decide +kernel
theorem dX11_lay_37 : decode cX11_lay 37 = .ok (.invokestatic 381, 3) := by decide +kernel
theorem dX11_lay_40 : decode cX11_lay 40 = .ok (.i2l, 1) := by decide +kernel
theorem dX11_lay_41 : decode cX11_lay 41 = .ok (.lastore, 1) := by decide +kernel
theorem dX11_lay_42 : decode cX11_lay 42 = .ok (.aload_n 0, 1) := by decide +kernel
theorem dX11_lay_43 : decode cX11_lay 43 = .ok (.getfield 81, 3) := by decide +kernel
theorem dX11_lay_46 : decode cX11_lay 46 = .ok (.iconst 3, 1) := by decide +kernel
theorem dX11_lay_47 : decode cX11_lay 47 = .ok (.aload_n 0, 1) := by decide +kernel
theorem dX11_lay_48 : decode cX11_lay 48 = .ok (.getfield 97, 3) := by decide +kernel
theorem dX11_lay_51 : decode cX11_lay 51 = .ok (.iload_n 1, 1) := by decide +kernel
theorem dX11_lay_52 : decode cX11_lay 52 = .ok (.iaload, 1) := by decide +kernel
theorem dX11_lay_53 : decode cX11_lay 53 = .ok (.invokestatic 381, 3) := by decide +kernel
theorem dX11_lay_56 : decode cX11_lay 56 = .ok (.i2l, 1) := by decide +kernel
theorem dX11_lay_57 : decode cX11_lay 57 = .ok (.lastore, 1) := by decide +kernel
theorem dX11_lay_58 : decode cX11_lay 58 = .ok (.aload_n 0, 1) := by decide +kernel
theorem dX11_lay_59 : decode cX11_lay 59 = .ok (.getfield 81, 3) := by decide +kernel
theorem dX11_lay_62 : decode cX11_lay 62 = .ok (.iconst 4, 1) := by decide +kernel
theorem dX11_lay_63 : decode cX11_lay 63 = .ok (.aload_n 0, 1) := by decide +kernel
theorem dX11_lay_64 : decode cX11_lay 64 = .ok (.getfield 94, 3) := by decide +kernel
theorem dX11_lay_67 : decode cX11_lay 67 = .ok (.iload_n 1, 1) := by decide +kernel
theorem dX11_lay_68 : decode cX11_lay 68 = .ok (.iaload, 1) := by decide +kernel
theorem dX11_lay_69 : decode cX11_lay 69 = .ok (.iload_n 2, 1) := by decide +kernel
theorem dX11_lay_70 : decode cX11_lay 70 = .ok (.ishr, 1) := by decide +kernel
theorem dX11_lay_71 : decode cX11_lay 71 = .ok (.iconst 1, 1) := by decide +kernel
theorem dX11_lay_72 : decode cX11_lay 72 = .ok (.iand, 1) := by decide +kernel
theorem dX11_lay_73 : decode cX11_lay 73 = .ok (.i2l, 1) := by decide +kernel
theorem dX11_lay_74 : decode cX11_lay 74 = .ok (.lastore, 1) := by decide +kernel
theorem dX11_lay_75 : decode cX11_lay 75 = .ok (.aload_n 0, 1) := by decide +kernel
theorem dX11_lay_76 : decode cX11_lay 76 = .ok (.getfield 81, 3) := by decide +kernel
theorem dX11_lay_79 : decode cX11_lay 79 = .ok (.iconst 5, 1) := by decide +kernel
theorem dX11_lay_80 : decode cX11_lay 80 = .ok (.aload_n 0, 1) := by decide +kernel
theorem dX11_lay_81 : decode cX11_lay 81 = .ok (.getfield 100, 3) := by decide +kernel
theorem dX11_lay_84 : decode cX11_lay 84 = .ok (.iload_n 1, 1) := by decide +kernel
theorem dX11_lay_85 : decode cX11_lay 85 = .ok (.iaload, 1) := by decide +kernel
theorem dX11_lay_86 : decode cX11_lay 86 = .ok (.i2l, 1) := by decide +kernel
theorem dX11_lay_87 : decode cX11_lay 87 = .ok (.lastore, 1) := by decide +kernel
theorem dX11_lay_88 : decode cX11_lay 88 = .ok (.aload_n 0, 1) := by decide +kernel
theorem dX11_lay_89 : decode cX11_lay 89 = .ok (.getfield 81, 3) := by decide +kernel
theorem dX11_lay_92 : decode cX11_lay 92 = .ok (.bipush 6, 2) := by decide +kernel
theorem dX11_lay_94 : decode cX11_lay 94 = .ok (.aload_n 0, 1) := by decide +kernel
theorem dX11_lay_95 : decode cX11_lay 95 = .ok (.getfield 106, 3) := by decide +kernel
theorem dX11_lay_98 : decode cX11_lay 98 = .ok (.iload_n 1, 1) := by decide +kernel
theorem dX11_lay_99 : decode cX11_lay 99 = .ok (.iaload, 1) := by decide +kernel
theorem dX11_lay_100 : decode cX11_lay 100 = .ok (.i2l, 1) := by decide +kernel
theorem dX11_lay_101 : decode cX11_lay 101 = .ok (.lastore, 1) := by decide +kernel
theorem dX11_lay_102 : decode cX11_lay 102 = .ok (.return_, 1) := by decide +kernel
theorem dX11_lawOf_0 : decode cX11_lawOf 0 = .ok (.aload_n 0, 1) := by decide +kernel
theorem dX11_lawOf_1 : decode cX11_lawOf 1 = .ok (.iconst 0, 1) := by decide +kernel
theorem dX11_lawOf_2 : decode cX11_lawOf 2 = .ok (.putfield 347, 3) := by decide +kernel
theorem dX11_lawOf_5 : decode cX11_lawOf 5 = .ok (.aload_n 0, 1) := by decide +kernel
theorem dX11_lawOf_6 : decode cX11_lawOf 6 = .ok (.getfield 60, 3) := by decide +kernel
theorem dX11_lawOf_9 : decode cX11_lawOf 9 = .ok (.iload_n 1, 1) := by decide +kernel
theorem dX11_lawOf_10 : decode cX11_lawOf 10 = .ok (.iaload, 1) := by decide +kernel
theorem dX11_lawOf_11 : decode cX11_lawOf 11 = .ok (.istore_n 2, 1) := by decide +kernel
theorem dX11_lawOf_12 : decode cX11_lawOf 12 = .ok (.iload_n 2, 1) := by decide +kernel
theorem dX11_lawOf_13 : decode cX11_lawOf 13 = .ok (.aload_n 0, 1) := by decide +kernel
theorem dX11_lawOf_14 : decode cX11_lawOf 14 = .ok (.getfield 63, 3) := by decide +kernel
theorem dX11_lawOf_17 : decode cX11_lawOf 17 = .ok (.iload_n 1, 1) := by decide +kernel
theorem dX11_lawOf_18 : decode cX11_lawOf 18 = .ok (.iaload, 1) := by decide +kernel
theorem dX11_lawOf_19 : decode cX11_lawOf 19 = .ok (.if_icmp .ge 20, 3) := by decide +kernel
theorem dX11_lawOf_22 : decode cX11_lawOf 22 = .ok (.aload_n 0, 1) := by decide +kernel
theorem dX11_lawOf_23 : decode cX11_lawOf 23 = .ok (.getfield 85, 3) := by decide +kernel
theorem dX11_lawOf_26 : decode cX11_lawOf 26 = .ok (.iload_n 2, 1) := by decide +kernel
theorem dX11_lawOf_27 : decode cX11_lawOf 27 = .ok (.aload_n 0, 1) := by decide +kernel
theorem dX11_lawOf_28 : decode cX11_lawOf 28 = .ok (.iload_n 2, 1) := by decide +kernel
theorem dX11_lawOf_29 : decode cX11_lawOf 29 = .ok (.invokevirtual 421, 3) := by decide +kernel
theorem dX11_lawOf_32 : decode cX11_lawOf 32 = .ok (.lastore, 1) := by decide +kernel
theorem dX11_lawOf_33 : decode cX11_lawOf 33 = .ok (.iinc 2 1, 3) := by decide +kernel
theorem dX11_lawOf_36 : decode cX11_lawOf 36 = .ok (.goto (-24), 3) := by decide +kernel
theorem dX11_lawOf_39 : decode cX11_lawOf 39 = .ok (.aload_n 0, 1) := by decide +kernel
theorem dX11_lawOf_40 : decode cX11_lawOf 40 = .ok (.getfield 347, 3) := by decide +kernel
theorem dX11_lawOf_43 : decode cX11_lawOf 43 = .ok (.ifCond .eq 7, 3) := by decide +kernel
theorem dX11_lawOf_46 : decode cX11_lawOf 46 = .ok (.lconst 0, 1) := by decide +kernel
theorem dX11_lawOf_47 : decode cX11_lawOf 47 = .ok (.goto 16, 3) := by decide +kernel
theorem dX11_lawOf_50 : decode cX11_lawOf 50 = .ok (.aload_n 0, 1) := by decide +kernel
theorem dX11_lawOf_51 : decode cX11_lawOf 51 = .ok (.getfield 85, 3) := by decide +kernel
theorem dX11_lawOf_54 : decode cX11_lawOf 54 = .ok (.aload_n 0, 1) := by decide +kernel
theorem dX11_lawOf_55 : decode cX11_lawOf 55 = .ok (.getfield 63, 3) := by decide +kernel
theorem dX11_lawOf_58 : decode cX11_lawOf 58 = .ok (.iload_n 1, 1) := by decide +kernel
theorem dX11_lawOf_59 : decode cX11_lawOf 59 = .ok (.iaload, 1) := by decide +kernel
theorem dX11_lawOf_60 : decode cX11_lawOf 60 = .ok (.iconst 1, 1) := by decide +kernel
theorem dX11_lawOf_61 : decode cX11_lawOf 61 = .ok (.isub, 1) := by decide +kernel
theorem dX11_lawOf_62 : decode cX11_lawOf 62 = .ok (.laload, 1) := by decide +kernel
theorem dX11_lawOf_63 : decode cX11_lawOf 63 = .ok (.lreturn, 1) := by decide +kernel
theorem dX11_boundLaw_0 : decode cX11_boundLaw 0 = .ok (.aload_n 0, 1) := by decide +kernel
theorem dX11_boundLaw_1 : decode cX11_boundLaw 1 = .ok (.getfield 57, 3) := by decide +kernel
theorem dX11_boundLaw_4 : decode cX11_boundLaw 4 = .ok (.iload_n 1, 1) := by decide +kernel
theorem dX11_boundLaw_5 : decode cX11_boundLaw 5 = .ok (.baload, 1) := by decide +kernel
theorem dX11_boundLaw_6 : decode cX11_boundLaw 6 = .ok (.ifCond .ne 5, 3) := by decide +kernel
theorem dX11_boundLaw_9 : decode cX11_boundLaw 9 = .ok (.iload_n 2, 1) := by decide +kernel
theorem dX11_boundLaw_10 : decode cX11_boundLaw 10 = .ok (.ireturn, 1) := by decide +kernel
theorem dX11_boundLaw_11 : decode cX11_boundLaw 11 = .ok (.aload_n 0, 1) := by decide +kernel
theorem dX11_boundLaw_12 : decode cX11_boundLaw 12 = .ok (.iload_n 1, 1) := by decide +kernel
theorem dX11_boundLaw_13 : decode cX11_boundLaw 13 = .ok (.invokevirtual 425, 3) := by decide +kernel
theorem dX11_boundLaw_16 : decode cX11_boundLaw 16 = .ok (.lstore 4, 2) := by decide +kernel
theorem dX11_boundLaw_18 : decode cX11_boundLaw 18 = .ok (.aload_n 0, 1) := by decide +kernel
theorem dX11_boundLaw_19 : decode cX11_boundLaw 19 = .ok (.getfield 347, 3) := by decide +kernel
theorem dX11_boundLaw_22 : decode cX11_boundLaw 22 = .ok (.ifCond .eq 5, 3) := by decide +kernel
theorem dX11_boundLaw_25 : decode cX11_boundLaw 25 = .ok (.iload_n 2, 1) := by decide +kernel
theorem dX11_boundLaw_26 : decode cX11_boundLaw 26 = .ok (.ireturn, 1) := by decide +kernel
theorem dX11_boundLaw_27 : decode cX11_boundLaw 27 = .ok (.lload 4, 2) := by decide +kernel
theorem dX11_boundLaw_29 : decode cX11_boundLaw 29 = .ok (.lconst 0, 1) := by decide +kernel
theorem dX11_boundLaw_30 : decode cX11_boundLaw 30 = .ok (.lcmp, 1) := by decide +kernel
theorem dX11_boundLaw_31 : decode cX11_boundLaw 31 = .ok (.ifCond .ge 7, 3) := by decide +kernel
theorem dX11_boundLaw_34 : decode cX11_boundLaw 34 = .ok (.iconst 0, 1) := by decide +kernel
theorem dX11_boundLaw_35 : decode cX11_boundLaw 35 = .ok (.goto 18, 3) := by decide +kernel
theorem dX11_boundLaw_38 : decode cX11_boundLaw 38 = .ok (.lload 4, 2) := by decide +kernel
theorem dX11_boundLaw_40 : decode cX11_boundLaw 40 = .ok (.iload_n 3, 1) := by decide +kernel
theorem dX11_boundLaw_41 : decode cX11_boundLaw 41 = .ok (.i2l, 1) := by decide +kernel
theorem dX11_boundLaw_42 : decode cX11_boundLaw 42 = .ok (.lcmp, 1) := by decide +kernel
theorem dX11_boundLaw_43 : decode cX11_boundLaw 43 = .ok (.ifCond .le 7, 3) := by decide +kernel
theorem dX11_boundLaw_46 : decode cX11_boundLaw 46 = .ok (.iload_n 3, 1) := by decide +kernel
theorem dX11_boundLaw_47 : decode cX11_boundLaw 47 = .ok (.goto 6, 3) := by decide +kernel
theorem dX11_boundLaw_50 : decode cX11_boundLaw 50 = .ok (.lload 4, 2) := by decide +kernel
theorem dX11_boundLaw_52 : decode cX11_boundLaw 52 = .ok (.l2i, 1) := by decide +kernel
theorem dX11_boundLaw_53 : decode cX11_boundLaw 53 = .ok (.ireturn, 1) := by decide +kernel
theorem dX11_number1_0 : decode cX11_number1 0 = .ok (.aload_n 0, 1) := by decide +kernel
theorem dX11_number1_1 : decode cX11_number1 1 = .ok (.aload_n 0, 1) := by decide +kernel
theorem dX11_number1_2 : decode cX11_number1 2 = .ok (.getfield 387, 3) := by decide +kernel
theorem dX11_number1_5 : decode cX11_number1 5 = .ok (.ldc2_w 428, 3) := by decide +kernel
theorem dX11_number1_8 : decode cX11_number1 8 = .ok (.lmul, 1) := by decide +kernel
theorem dX11_number1_9 : decode cX11_number1 9 = .ok (.ldc2_w 430, 3) := by decide +kernel
theorem dX11_number1_12 : decode cX11_number1 12 = .ok (.ladd, 1) := by decide +kernel
theorem dX11_number1_13 : decode cX11_number1 13 = .ok (.ldc2_w 432, 3) := by decide +kernel
theorem dX11_number1_16 : decode cX11_number1 16 = .ok (.land, 1) := by decide +kernel
theorem dX11_number1_17 : decode cX11_number1 17 = .ok (.putfield 387, 3) := by decide +kernel
theorem dX11_number1_20 : decode cX11_number1 20 = .ok (.aload_n 0, 1) := by decide +kernel
theorem dX11_number1_21 : decode cX11_number1 21 = .ok (.getfield 387, 3) := by decide +kernel
theorem dX11_number1_24 : decode cX11_number1 24 = .ok (.ldc2_w 434, 3) := by decide +kernel
theorem dX11_number1_27 : decode cX11_number1 27 = .ok (.ldiv, 1) := by decide +kernel
theorem dX11_number1_28 : decode cX11_number1 28 = .ok (.iload_n 1, 1) := by decide +kernel
theorem dX11_number1_29 : decode cX11_number1 29 = .ok (.i2l, 1) := by decide +kernel
theorem dX11_number1_30 : decode cX11_number1 30 = .ok (.lrem, 1) := by decide +kernel
theorem dX11_number1_31 : decode cX11_number1 31 = .ok (.l2i, 1) := by decide +kernel
theorem dX11_number1_32 : decode cX11_number1 32 = .ok (.ireturn, 1) := by decide +kernel
theorem dX11_pushesOne_0 : decode cX11_pushesOne 0 = .ok (.aload_n 0, 1) := by decide +kernel
theorem dX11_pushesOne_1 : decode cX11_pushesOne 1 = .ok (.iload_n 1, 1) := by decide +kernel
theorem dX11_pushesOne_2 : decode cX11_pushesOne 2 = .ok (.invokevirtual 436, 3) := by decide +kernel
theorem dX11_pushesOne_5 : decode cX11_pushesOne 5 = .ok (.iload_n 2, 1) := by decide +kernel
theorem dX11_pushesOne_6 : decode cX11_pushesOne 6 = .ok (.invokestatic 372, 3) := by decide +kernel
theorem dX11_pushesOne_9 : decode cX11_pushesOne 9 = .ok (.ifCond .ne 5, 3) := by decide +kernel
theorem dX11_pushesOne_12 : decode cX11_pushesOne 12 = .ok (.iconst 0, 1) := by decide +kernel
theorem dX11_pushesOne_13 : decode cX11_pushesOne 13 = .ok (.ireturn, 1) := by decide +kernel
theorem dX11_pushesOne_14 : decode cX11_pushesOne 14 = .ok (.aload_n 0, 1) := by decide +kernel
theorem dX11_pushesOne_15 : decode cX11_pushesOne 15 = .ok (.iload_n 1, 1) := by decide +kernel
theorem dX11_pushesOne_16 : decode cX11_pushesOne 16 = .ok (.iload_n 2, 1) := by decide +kernel
theorem dX11_pushesOne_17 : decode cX11_pushesOne 17 = .ok (.invokevirtual 439, 3) := by decide +kernel
theorem dX11_pushesOne_20 : decode cX11_pushesOne 20 = .ok (.aload_n 0, 1) := by decide +kernel
theorem dX11_pushesOne_21 : decode cX11_pushesOne 21 = .ok (.iconst 0, 1) := by decide +kernel
theorem dX11_pushesOne_22 : decode cX11_pushesOne 22 = .ok (.iconst 1, 1) := by decide +kernel
theorem dX11_pushesOne_23 : decode cX11_pushesOne 23 = .ok (.sipush 999, 3) := by decide +kernel
theorem dX11_pushesOne_26 : decode cX11_pushesOne 26 = .ok (.invokevirtual 443, 3) := by decide +kernel
theorem dX11_pushesOne_29 : decode cX11_pushesOne 29 = .ok (.istore_n 3, 1) := by decide +kernel
theorem dX11_pushesOne_30 : decode cX11_pushesOne 30 = .ok (.aload_n 0, 1) := by decide +kernel
theorem dX11_pushesOne_31 : decode cX11_pushesOne 31 = .ok (.getfield 94, 3) := by decide +kernel
theorem dX11_pushesOne_34 : decode cX11_pushesOne 34 = .ok (.iload_n 1, 1) := by decide +kernel
theorem dX11_pushesOne_35 : decode cX11_pushesOne 35 = .ok (.dup2, 1) := by decide +kernel
theorem dX11_pushesOne_36 : decode cX11_pushesOne 36 = .ok (.iaload, 1) := by decide +kernel
theorem dX11_pushesOne_37 : decode cX11_pushesOne 37 = .ok (.iconst 1, 1) := by decide +kernel
theorem dX11_pushesOne_38 : decode cX11_pushesOne 38 = .ok (.iload_n 2, 1) := by decide +kernel
theorem dX11_pushesOne_39 : decode cX11_pushesOne 39 = .ok (.ishl, 1) := by decide +kernel
theorem dX11_pushesOne_40 : decode cX11_pushesOne 40 = .ok (.ixor, 1) := by decide +kernel
theorem dX11_pushesOne_41 : decode cX11_pushesOne 41 = .ok (.iastore, 1) := by decide +kernel
theorem dX11_pushesOne_42 : decode cX11_pushesOne 42 = .ok (.aload_n 0, 1) := by decide +kernel
theorem dX11_pushesOne_43 : decode cX11_pushesOne 43 = .ok (.getfield 100, 3) := by decide +kernel
theorem dX11_pushesOne_46 : decode cX11_pushesOne 46 = .ok (.iload_n 1, 1) := by decide +kernel
theorem dX11_pushesOne_47 : decode cX11_pushesOne 47 = .ok (.aload_n 0, 1) := by decide +kernel
theorem dX11_pushesOne_48 : decode cX11_pushesOne 48 = .ok (.getfield 100, 3) := by decide +kernel
theorem dX11_pushesOne_51 : decode cX11_pushesOne 51 = .ok (.iload_n 1, 1) := by decide +kernel
theorem dX11_pushesOne_52 : decode cX11_pushesOne 52 = .ok (.iaload, 1) := by decide +kernel
theorem dX11_pushesOne_53 : decode cX11_pushesOne 53 = .ok (.iload_n 3, 1) := by decide +kernel
theorem dX11_pushesOne_54 : decode cX11_pushesOne 54 = .ok (.iadd, 1) := by decide +kernel
theorem dX11_pushesOne_55 : decode cX11_pushesOne 55 = .ok (.ldc 198, 2) := by decide +kernel
theorem dX11_pushesOne_57 : decode cX11_pushesOne 57 = .ok (.if_icmp .ge 14, 3) := by decide +kernel
theorem dX11_pushesOne_60 : decode cX11_pushesOne 60 = .ok (.aload_n 0, 1) := by decide +kernel
theorem dX11_pushesOne_61 : decode cX11_pushesOne 61 = .ok (.getfield 100, 3) := by decide +kernel
theorem dX11_pushesOne_64 : decode cX11_pushesOne 64 = .ok (.iload_n 1, 1) := by decide +kernel
theorem dX11_pushesOne_65 : decode cX11_pushesOne 65 = .ok (.iaload, 1) := by decide +kernel
theorem dX11_pushesOne_66 : decode cX11_pushesOne 66 = .ok (.iload_n 3, 1) := by decide +kernel
theorem dX11_pushesOne_67 : decode cX11_pushesOne 67 = .ok (.iadd, 1) := by decide +kernel
theorem dX11_pushesOne_68 : decode cX11_pushesOne 68 = .ok (.goto 5, 3) := by decide +kernel
theorem dX11_pushesOne_71 : decode cX11_pushesOne 71 = .ok (.ldc 198, 2) := by decide +kernel
theorem dX11_pushesOne_73 : decode cX11_pushesOne 73 = .ok (.iastore, 1) := by decide +kernel
theorem dX11_pushesOne_74 : decode cX11_pushesOne 74 = .ok (.aload_n 0, 1) := by decide +kernel
theorem dX11_pushesOne_75 : decode cX11_pushesOne 75 = .ok (.getfield 109, 3) := by decide +kernel
theorem dX11_pushesOne_78 : decode cX11_pushesOne 78 = .ok (.bipush 8, 2) := by decide +kernel
theorem dX11_pushesOne_80 : decode cX11_pushesOne 80 = .ok (.iload_n 1, 1) := by decide +kernel
theorem dX11_pushesOne_81 : decode cX11_pushesOne 81 = .ok (.imul, 1) := by decide +kernel
theorem dX11_pushesOne_82 : decode cX11_pushesOne 82 = .ok (.iload_n 2, 1) := by decide +kernel
theorem dX11_pushesOne_83 : decode cX11_pushesOne 83 = .ok (.iadd, 1) := by decide +kernel
theorem dX11_pushesOne_84 : decode cX11_pushesOne 84 = .ok (.aload_n 0, 1) := by decide +kernel
theorem dX11_pushesOne_85 : decode cX11_pushesOne 85 = .ok (.getfield 109, 3) := by decide +kernel
theorem dX11_pushesOne_88 : decode cX11_pushesOne 88 = .ok (.bipush 8, 2) := by decide +kernel
theorem dX11_pushesOne_90 : decode cX11_pushesOne 90 = .ok (.iload_n 1, 1) := by decide +kernel
theorem dX11_pushesOne_91 : decode cX11_pushesOne 91 = .ok (.imul, 1) := by decide +kernel
theorem dX11_pushesOne_92 : decode cX11_pushesOne 92 = .ok (.iload_n 2, 1) := by decide +kernel
theorem dX11_pushesOne_93 : decode cX11_pushesOne 93 = .ok (.iadd, 1) := by decide +kernel
theorem dX11_pushesOne_94 : decode cX11_pushesOne 94 = .ok (.iaload, 1) := by decide +kernel
theorem dX11_pushesOne_95 : decode cX11_pushesOne 95 = .ok (.sipush 999, 3) := by decide +kernel
theorem dX11_pushesOne_98 : decode cX11_pushesOne 98 = .ok (.if_icmp .ge 19, 3) := by decide +kernel
theorem dX11_pushesOne_101 : decode cX11_pushesOne 101 = .ok (.aload_n 0, 1) := by decide +kernel
theorem dX11_pushesOne_102 : decode cX11_pushesOne 102 = .ok (.getfield 109, 3) := by decide +kernel
theorem dX11_pushesOne_105 : decode cX11_pushesOne 105 = .ok (.bipush 8, 2) := by decide +kernel
theorem dX11_pushesOne_107 : decode cX11_pushesOne 107 = .ok (.iload_n 1, 1) := by decide +kernel
theorem dX11_pushesOne_108 : decode cX11_pushesOne 108 = .ok (.imul, 1) := by decide +kernel
theorem dX11_pushesOne_109 : decode cX11_pushesOne 109 = .ok (.iload_n 2, 1) := by decide +kernel
theorem dX11_pushesOne_110 : decode cX11_pushesOne 110 = .ok (.iadd, 1) := by decide +kernel
theorem dX11_pushesOne_111 : decode cX11_pushesOne 111 = .ok (.iaload, 1) := by decide +kernel
theorem dX11_pushesOne_112 : decode cX11_pushesOne 112 = .ok (.iconst 1, 1) := by decide +kernel
theorem dX11_pushesOne_113 : decode cX11_pushesOne 113 = .ok (.iadd, 1) := by decide +kernel
theorem dX11_pushesOne_114 : decode cX11_pushesOne 114 = .ok (.goto 6, 3) := by decide +kernel
theorem dX11_pushesOne_117 : decode cX11_pushesOne 117 = .ok (.sipush 999, 3) := by decide +kernel
theorem dX11_pushesOne_120 : decode cX11_pushesOne 120 = .ok (.iastore, 1) := by decide +kernel
theorem dX11_pushesOne_121 : decode cX11_pushesOne 121 = .ok (.aload_n 0, 1) := by decide +kernel
theorem dX11_pushesOne_122 : decode cX11_pushesOne 122 = .ok (.getfield 406, 3) := by decide +kernel
theorem dX11_pushesOne_125 : decode cX11_pushesOne 125 = .ok (.ifCond .eq 5, 3) := by decide +kernel
theorem dX11_pushesOne_128 : decode cX11_pushesOne 128 = .ok (.iconst 1, 1) := by decide +kernel
theorem dX11_pushesOne_129 : decode cX11_pushesOne 129 = .ok (.ireturn, 1) := by decide +kernel
theorem dX11_pushesOne_130 : decode cX11_pushesOne 130 = .ok (.aload_n 0, 1) := by decide +kernel
theorem dX11_pushesOne_131 : decode cX11_pushesOne 131 = .ok (.iload_n 1, 1) := by decide +kernel
theorem dX11_pushesOne_132 : decode cX11_pushesOne 132 = .ok (.iload_n 2, 1) := by decide +kernel
theorem dX11_pushesOne_133 : decode cX11_pushesOne 133 = .ok (.invokevirtual 439, 3) := by decide +kernel
theorem dX11_pushesOne_136 : decode cX11_pushesOne 136 = .ok (.aload_n 0, 1) := by decide +kernel
theorem dX11_pushesOne_137 : decode cX11_pushesOne 137 = .ok (.getfield 57, 3) := by decide +kernel
theorem dX11_pushesOne_140 : decode cX11_pushesOne 140 = .ok (.iconst 1, 1) := by decide +kernel
theorem dX11_pushesOne_141 : decode cX11_pushesOne 141 = .ok (.baload, 1) := by decide +kernel
theorem dX11_pushesOne_142 : decode cX11_pushesOne 142 = .ok (.ifCond .eq 17, 3) := by decide +kernel
theorem dX11_pushesOne_145 : decode cX11_pushesOne 145 = .ok (.aload_n 0, 1) := by decide +kernel
theorem dX11_pushesOne_146 : decode cX11_pushesOne 146 = .ok (.iconst 1, 1) := by decide +kernel
theorem dX11_pushesOne_147 : decode cX11_pushesOne 147 = .ok (.invokevirtual 425, 3) := by decide +kernel
theorem dX11_pushesOne_150 : decode cX11_pushesOne 150 = .ok (.lconst 0, 1) := by decide +kernel
theorem dX11_pushesOne_151 : decode cX11_pushesOne 151 = .ok (.lcmp, 1) := by decide +kernel
theorem dX11_pushesOne_152 : decode cX11_pushesOne 152 = .ok (.ifCond .eq 7, 3) := by decide +kernel
theorem dX11_pushesOne_155 : decode cX11_pushesOne 155 = .ok (.iconst 1, 1) := by decide +kernel
theorem dX11_pushesOne_156 : decode cX11_pushesOne 156 = .ok (.goto 4, 3) := by decide +kernel
theorem dX11_pushesOne_159 : decode cX11_pushesOne 159 = .ok (.iconst 0, 1) := by decide +kernel
theorem dX11_pushesOne_160 : decode cX11_pushesOne 160 = .ok (.istore 4, 2) := by decide +kernel
theorem dX11_pushesOne_162 : decode cX11_pushesOne 162 = .ok (.aload_n 0, 1) := by decide +kernel
theorem dX11_pushesOne_163 : decode cX11_pushesOne 163 = .ok (.iconst 2, 1) := by decide +kernel
theorem dX11_pushesOne_164 : decode cX11_pushesOne 164 = .ok (.aload_n 0, 1) := by decide +kernel
theorem dX11_pushesOne_165 : decode cX11_pushesOne 165 = .ok (.getfield 24, 3) := by decide +kernel
theorem dX11_pushesOne_168 : decode cX11_pushesOne 168 = .ok (.iconst 0, 1) := by decide +kernel
theorem dX11_pushesOne_169 : decode cX11_pushesOne 169 = .ok (.iaload, 1) := by decide +kernel
theorem dX11_pushesOne_170 : decode cX11_pushesOne 170 = .ok (.bipush 100, 2) := by decide +kernel
theorem dX11_pushesOne_172 : decode cX11_pushesOne 172 = .ok (.invokevirtual 443, 3) := by decide +kernel
theorem dX11_pushesOne_175 : decode cX11_pushesOne 175 = .ok (.istore 5, 2) := by decide +kernel
theorem dX11_pushesOne_177 : decode cX11_pushesOne 177 = .ok (.iload 5, 2) := by decide +kernel
theorem dX11_pushesOne_179 : decode cX11_pushesOne 179 = .ok (.bipush 100, 2) := by decide +kernel
theorem dX11_pushesOne_181 : decode cX11_pushesOne 181 = .ok (.if_icmp .eq 36, 3) := by decide +kernel
theorem dX11_pushesOne_184 : decode cX11_pushesOne 184 = .ok (.iload 5, 2) := by decide +kernel
theorem dX11_pushesOne_186 : decode cX11_pushesOne 186 = .ok (.ifCond .le 35, 3) := by decide +kernel
theorem dX11_pushesOne_189 : decode cX11_pushesOne 189 = .ok (.aload_n 0, 1) := by decide +kernel
theorem dX11_pushesOne_190 : decode cX11_pushesOne 190 = .ok (.getfield 403, 3) := by decide +kernel
theorem dX11_pushesOne_193 : decode cX11_pushesOne 193 = .ok (.ifCond .eq 17, 3) := by decide +kernel
theorem dX11_pushesOne_196 : decode cX11_pushesOne 196 = .ok (.aload_n 0, 1) := by decide +kernel
theorem dX11_pushesOne_197 : decode cX11_pushesOne 197 = .ok (.bipush 100, 2) := by decide +kernel
theorem dX11_pushesOne_199 : decode cX11_pushesOne 199 = .ok (.invokevirtual 447, 3) := by decide +kernel
theorem dX11_pushesOne_202 : decode cX11_pushesOne 202 = .ok (.iload 5, 2) := by decide +kernel
theorem dX11_pushesOne_204 : decode cX11_pushesOne 204 = .ok (.if_icmp .ge 17, 3) := by decide +kernel
theorem dX11_pushesOne_207 : decode cX11_pushesOne 207 = .ok (.goto 10, 3) := by decide +kernel
theorem dX11_pushesOne_210 : decode cX11_pushesOne 210 = .ok (.iload 5, 2) := by decide +kernel
theorem dX11_pushesOne_212 : decode cX11_pushesOne 212 = .ok (.bipush 50, 2) := by decide +kernel
theorem dX11_pushesOne_214 : decode cX11_pushesOne 214 = .ok (.if_icmp .lt 7, 3) := by decide +kernel
theorem dX11_pushesOne_217 : decode cX11_pushesOne 217 = .ok (.iconst 1, 1) := by decide +kernel
theorem dX11_pushesOne_218 : decode cX11_pushesOne 218 = .ok (.goto 4, 3) := by decide +kernel
theorem dX11_pushesOne_221 : decode cX11_pushesOne 221 = .ok (.iconst 0, 1) := by decide +kernel
theorem dX11_pushesOne_222 : decode cX11_pushesOne 222 = .ok (.istore 6, 2) := by decide +kernel
theorem dX11_pushesOne_224 : decode cX11_pushesOne 224 = .ok (.iload 4, 2) := by decide +kernel
theorem dX11_pushesOne_226 : decode cX11_pushesOne 226 = .ok (.ifCond .ne 8, 3) := by decide +kernel
theorem dX11_pushesOne_229 : decode cX11_pushesOne 229 = .ok (.iload 6, 2) := by decide +kernel
theorem dX11_pushesOne_231 : decode cX11_pushesOne 231 = .ok (.ifCond .eq 15, 3) := by decide +kernel
theorem dX11_pushesOne_234 : decode cX11_pushesOne 234 = .ok (.aload_n 0, 1) := by decide +kernel
theorem dX11_pushesOne_235 : decode cX11_pushesOne 235 = .ok (.getfield 97, 3) := by decide +kernel
theorem dX11_pushesOne_238 : decode cX11_pushesOne 238 = .ok (.iload_n 1, 1) := by decide +kernel
theorem dX11_pushesOne_239 : decode cX11_pushesOne 239 = .ok (.dup2, 1) := by decide +kernel
theorem dX11_pushesOne_240 : decode cX11_pushesOne 240 = .ok (.iaload, 1) := by decide +kernel
theorem dX11_pushesOne_241 : decode cX11_pushesOne 241 = .ok (.iconst 1, 1) := by decide +kernel
theorem dX11_pushesOne_242 : decode cX11_pushesOne 242 = .ok (.iload_n 2, 1) := by decide +kernel
theorem dX11_pushesOne_243 : decode cX11_pushesOne 243 = .ok (.ishl, 1) := by decide +kernel
theorem dX11_pushesOne_244 : decode cX11_pushesOne 244 = .ok (.ior, 1) := by decide +kernel
theorem dX11_pushesOne_245 : decode cX11_pushesOne 245 = .ok (.iastore, 1) := by decide +kernel
theorem dX11_pushesOne_246 : decode cX11_pushesOne 246 = .ok (.iconst 1, 1) := by decide +kernel
theorem dX11_pushesOne_247 : decode cX11_pushesOne 247 = .ok (.ireturn, 1) := by decide +kernel
theorem dX11_minuteGoes_0 : decode cX11_minuteGoes 0 = .ok (.iconst 0, 1) := by decide +kernel
theorem dX11_minuteGoes_1 : decode cX11_minuteGoes 1 = .ok (.istore_n 2, 1) := by decide +kernel
theorem dX11_minuteGoes_2 : decode cX11_minuteGoes 2 = .ok (.iload_n 2, 1) := by decide +kernel
theorem dX11_minuteGoes_3 : decode cX11_minuteGoes 3 = .ok (.aload_n 0, 1) := by decide +kernel
theorem dX11_minuteGoes_4 : decode cX11_minuteGoes 4 = .ok (.getfield 246, 3) := by decide +kernel
theorem dX11_minuteGoes_7 : decode cX11_minuteGoes 7 = .ok (.if_icmp .ge 47, 3) := by decide +kernel
theorem dX11_minuteGoes_10 : decode cX11_minuteGoes 10 = .ok (.aload_n 0, 1) := by decide +kernel
theorem dX11_minuteGoes_11 : decode cX11_minuteGoes 11 = .ok (.getfield 412, 3) := by decide +kernel
theorem dX11_minuteGoes_14 : decode cX11_minuteGoes 14 = .ok (.ifCond .ne 40, 3) := by decide +kernel
theorem dX11_minuteGoes_17 : decode cX11_minuteGoes 17 = .ok (.aload_n 0, 1) := by decide +kernel
theorem dX11_minuteGoes_18 : decode cX11_minuteGoes 18 = .ok (.getfield 97, 3) := by decide +kernel
theorem dX11_minuteGoes_21 : decode cX11_minuteGoes 21 = .ok (.iload_n 1, 1) := by decide +kernel
theorem dX11_minuteGoes_22 : decode cX11_minuteGoes 22 = .ok (.aload_n 0, 1) := by decide +kernel
theorem dX11_minuteGoes_23 : decode cX11_minuteGoes 23 = .ok (.getfield 45, 3) := by decide +kernel
theorem dX11_minuteGoes_26 : decode cX11_minuteGoes 26 = .ok (.iload_n 2, 1) := by decide +kernel
theorem dX11_minuteGoes_27 : decode cX11_minuteGoes 27 = .ok (.iaload, 1) := by decide +kernel
theorem dX11_minuteGoes_28 : decode cX11_minuteGoes 28 = .ok (.aload_n 0, 1) := by decide +kernel
theorem dX11_minuteGoes_29 : decode cX11_minuteGoes 29 = .ok (.getfield 106, 3) := by decide +kernel
theorem dX11_minuteGoes_32 : decode cX11_minuteGoes 32 = .ok (.iload_n 1, 1) := by decide +kernel
theorem dX11_minuteGoes_33 : decode cX11_minuteGoes 33 = .ok (.iaload, 1) := by decide +kernel
theorem dX11_minuteGoes_34 : decode cX11_minuteGoes 34 = .ok (.if_icmp .ne 7, 3) := by decide +kernel
theorem dX11_minuteGoes_37 : decode cX11_minuteGoes 37 = .ok (.iconst 0, 1) := by decide +kernel
theorem dX11_minuteGoes_38 : decode cX11_minuteGoes 38 = .ok (.goto 9, 3) := by decide +kernel
theorem dX11_minuteGoes_41 : decode cX11_minuteGoes 41 = .ok (.aload_n 0, 1) := by decide +kernel
theorem dX11_minuteGoes_42 : decode cX11_minuteGoes 42 = .ok (.getfield 97, 3) := by decide +kernel
theorem dX11_minuteGoes_45 : decode cX11_minuteGoes 45 = .ok (.iload_n 1, 1) := by decide +kernel
theorem dX11_minuteGoes_46 : decode cX11_minuteGoes 46 = .ok (.iaload, 1) := by decide +kernel
theorem dX11_minuteGoes_47 : decode cX11_minuteGoes 47 = .ok (.iastore, 1) := by decide +kernel
theorem dX11_minuteGoes_48 : decode cX11_minuteGoes 48 = .ok (.iinc 2 1, 3) := by decide +kernel
theorem dX11_minuteGoes_51 : decode cX11_minuteGoes 51 = .ok (.goto (-49), 3) := by decide +kernel
theorem dX11_minuteGoes_54 : decode cX11_minuteGoes 54 = .ok (.iconst 0, 1) := by decide +kernel
theorem dX11_minuteGoes_55 : decode cX11_minuteGoes 55 = .ok (.istore_n 2, 1) := by decide +kernel
theorem dX11_minuteGoes_56 : decode cX11_minuteGoes 56 = .ok (.iload_n 2, 1) := by decide +kernel
theorem dX11_minuteGoes_57 : decode cX11_minuteGoes 57 = .ok (.aload_n 0, 1) := by decide +kernel
theorem dX11_minuteGoes_58 : decode cX11_minuteGoes 58 = .ok (.getfield 243, 3) := by decide +kernel
theorem dX11_minuteGoes_61 : decode cX11_minuteGoes 61 = .ok (.if_icmp .ge 92, 3) := by decide +kernel
theorem dX11_minuteGoes_64 : decode cX11_minuteGoes 64 = .ok (.aload_n 0, 1) := by decide +kernel
theorem dX11_minuteGoes_65 : decode cX11_minuteGoes 65 = .ok (.getfield 42, 3) := by decide +kernel
theorem dX11_minuteGoes_68 : decode cX11_minuteGoes 68 = .ok (.iload_n 2, 1) := by decide +kernel
theorem dX11_minuteGoes_69 : decode cX11_minuteGoes 69 = .ok (.iaload, 1) := by decide +kernel
theorem dX11_minuteGoes_70 : decode cX11_minuteGoes 70 = .ok (.aload_n 0, 1) := by decide +kernel
theorem dX11_minuteGoes_71 : decode cX11_minuteGoes 71 = .ok (.getfield 106, 3) := by decide +kernel
theorem dX11_minuteGoes_74 : decode cX11_minuteGoes 74 = .ok (.iload_n 1, 1) := by decide +kernel
theorem dX11_minuteGoes_75 : decode cX11_minuteGoes 75 = .ok (.iaload, 1) := by decide +kernel
theorem dX11_minuteGoes_76 : decode cX11_minuteGoes 76 = .ok (.if_icmp .ne 71, 3) := by decide +kernel
theorem dX11_minuteGoes_79 : decode cX11_minuteGoes 79 = .ok (.aload_n 0, 1) := by decide +kernel
theorem dX11_minuteGoes_80 : decode cX11_minuteGoes 80 = .ok (.getfield 39, 3) := by decide +kernel
theorem dX11_minuteGoes_83 : decode cX11_minuteGoes 83 = .ok (.iload_n 2, 1) := by decide +kernel
theorem dX11_minuteGoes_84 : decode cX11_minuteGoes 84 = .ok (.iaload, 1) := by decide +kernel
theorem dX11_minuteGoes_85 : decode cX11_minuteGoes 85 = .ok (.aload_n 0, 1) := by decide +kernel
theorem dX11_minuteGoes_86 : decode cX11_minuteGoes 86 = .ok (.getfield 418, 3) := by decide +kernel
theorem dX11_minuteGoes_89 : decode cX11_minuteGoes 89 = .ok (.if_icmp .ne 6, 3) := by decide +kernel
theorem dX11_minuteGoes_92 : decode cX11_minuteGoes 92 = .ok (.goto 55, 3) := by decide +kernel
theorem dX11_minuteGoes_95 : decode cX11_minuteGoes 95 = .ok (.iconst 0, 1) := by decide +kernel
theorem dX11_minuteGoes_96 : decode cX11_minuteGoes 96 = .ok (.istore_n 3, 1) := by decide +kernel
theorem dX11_minuteGoes_97 : decode cX11_minuteGoes 97 = .ok (.iload_n 3, 1) := by decide +kernel
theorem dX11_minuteGoes_98 : decode cX11_minuteGoes 98 = .ok (.aload_n 0, 1) := by decide +kernel
theorem dX11_minuteGoes_99 : decode cX11_minuteGoes 99 = .ok (.getfield 415, 3) := by decide +kernel
theorem dX11_minuteGoes_102 : decode cX11_minuteGoes 102 = .ok (.ifCond .eq 7, 3) := by decide +kernel
theorem dX11_minuteGoes_105 : decode cX11_minuteGoes 105 = .ok (.iconst 2, 1) := by decide +kernel
theorem dX11_minuteGoes_106 : decode cX11_minuteGoes 106 = .ok (.goto 4, 3) := by decide +kernel
theorem dX11_minuteGoes_109 : decode cX11_minuteGoes 109 = .ok (.iconst 1, 1) := by decide +kernel
theorem dX11_minuteGoes_110 : decode cX11_minuteGoes 110 = .ok (.if_icmp .ge 37, 3) := by decide +kernel
theorem dX11_minuteGoes_113 : decode cX11_minuteGoes 113 = .ok (.aload_n 0, 1) := by decide +kernel
theorem dX11_minuteGoes_114 : decode cX11_minuteGoes 114 = .ok (.getfield 103, 3) := by decide +kernel
theorem dX11_minuteGoes_117 : decode cX11_minuteGoes 117 = .ok (.iload_n 1, 1) := by decide +kernel
theorem dX11_minuteGoes_118 : decode cX11_minuteGoes 118 = .ok (.dup2, 1) := by decide +kernel
theorem dX11_minuteGoes_119 : decode cX11_minuteGoes 119 = .ok (.iaload, 1) := by decide +kernel
theorem dX11_minuteGoes_120 : decode cX11_minuteGoes 120 = .ok (.aload_n 0, 1) := by decide +kernel
theorem dX11_minuteGoes_121 : decode cX11_minuteGoes 121 = .ok (.iload_n 1, 1) := by decide +kernel
theorem dX11_minuteGoes_122 : decode cX11_minuteGoes 122 = .ok (.aload_n 0, 1) := by decide +kernel
theorem dX11_minuteGoes_123 : decode cX11_minuteGoes 123 = .ok (.getfield 39, 3) := by decide +kernel
theorem dX11_minuteGoes_126 : decode cX11_minuteGoes 126 = .ok (.iload_n 2, 1) := by decide +kernel
theorem dX11_minuteGoes_127 : decode cX11_minuteGoes 127 = .ok (.iaload, 1) := by decide +kernel
theorem dX11_minuteGoes_128 : decode cX11_minuteGoes 128 = .ok (.invokevirtual 450, 3) := by decide +kernel
theorem dX11_minuteGoes_131 : decode cX11_minuteGoes 131 = .ok (.ifCond .eq 7, 3) := by decide +kernel
theorem dX11_minuteGoes_134 : decode cX11_minuteGoes 134 = .ok (.iconst 0, 1) := by decide +kernel
theorem dX11_minuteGoes_135 : decode cX11_minuteGoes 135 = .ok (.goto 4, 3) := by decide +kernel
theorem dX11_minuteGoes_138 : decode cX11_minuteGoes 138 = .ok (.iconst 1, 1) := by decide +kernel
theorem dX11_minuteGoes_139 : decode cX11_minuteGoes 139 = .ok (.iadd, 1) := by decide +kernel
theorem dX11_minuteGoes_140 : decode cX11_minuteGoes 140 = .ok (.iastore, 1) := by decide +kernel
theorem dX11_minuteGoes_141 : decode cX11_minuteGoes 141 = .ok (.iinc 3 1, 3) := by decide +kernel
theorem dX11_minuteGoes_144 : decode cX11_minuteGoes 144 = .ok (.goto (-47), 3) := by decide +kernel
theorem dX11_minuteGoes_147 : decode cX11_minuteGoes 147 = .ok (.iinc 2 1, 3) := by decide +kernel
theorem dX11_minuteGoes_150 : decode cX11_minuteGoes 150 = .ok (.goto (-94), 3) := by decide +kernel
theorem dX11_minuteGoes_153 : decode cX11_minuteGoes 153 = .ok (.aload_n 0, 1) := by decide +kernel
theorem dX11_minuteGoes_154 : decode cX11_minuteGoes 154 = .ok (.getfield 106, 3) := by decide +kernel
theorem dX11_minuteGoes_157 : decode cX11_minuteGoes 157 = .ok (.iload_n 1, 1) := by decide +kernel
theorem dX11_minuteGoes_158 : decode cX11_minuteGoes 158 = .ok (.dup2, 1) := by decide +kernel
theorem dX11_minuteGoes_159 : decode cX11_minuteGoes 159 = .ok (.iaload, 1) := by decide +kernel
theorem dX11_minuteGoes_160 : decode cX11_minuteGoes 160 = .ok (.iconst 1, 1) := by decide +kernel
theorem dX11_minuteGoes_161 : decode cX11_minuteGoes 161 = .ok (.iadd, 1) := by decide +kernel
theorem dX11_minuteGoes_162 : decode cX11_minuteGoes 162 = .ok (.iastore, 1) := by decide +kernel
theorem dX11_minuteGoes_163 : decode cX11_minuteGoes 163 = .ok (.return_, 1) := by decide +kernel
theorem dX11_goMany_0 : decode cX11_goMany 0 = .ok (.iconst 0, 1) := by decide +kernel
theorem dX11_goMany_1 : decode cX11_goMany 1 = .ok (.istore_n 2, 1) := by decide +kernel
theorem dX11_goMany_2 : decode cX11_goMany 2 = .ok (.iload_n 2, 1) := by decide +kernel
theorem dX11_goMany_3 : decode cX11_goMany 3 = .ok (.iload_n 1, 1) := by decide +kernel
theorem dX11_goMany_4 : decode cX11_goMany 4 = .ok (.if_icmp .ge 14, 3) := by decide +kernel
theorem dX11_goMany_7 : decode cX11_goMany 7 = .ok (.aload_n 0, 1) := by decide +kernel
theorem dX11_goMany_8 : decode cX11_goMany 8 = .ok (.iconst 1, 1) := by decide +kernel
theorem dX11_goMany_9 : decode cX11_goMany 9 = .ok (.invokevirtual 453, 3) := by decide +kernel
theorem dX11_goMany_12 : decode cX11_goMany 12 = .ok (.iinc 2 1, 3) := by decide +kernel
theorem dX11_goMany_15 : decode cX11_goMany 15 = .ok (.goto (-13), 3) := by decide +kernel
theorem dX11_goMany_18 : decode cX11_goMany 18 = .ok (.return_, 1) := by decide +kernel
theorem dX11_fails_0 : decode cX11_fails 0 = .ok (.aload_n 0, 1) := by decide +kernel
theorem dX11_fails_1 : decode cX11_fails 1 = .ok (.iload_n 1, 1) := by decide +kernel
theorem dX11_fails_2 : decode cX11_fails 2 = .ok (.putfield 160, 3) := by decide +kernel
theorem dX11_fails_5 : decode cX11_fails 5 = .ok (.iconst 0, 1) := by decide +kernel
theorem dX11_fails_6 : decode cX11_fails 6 = .ok (.ireturn, 1) := by decide +kernel
theorem dX11_latch_0 : decode cX11_latch 0 = .ok (.aload_n 0, 1) := by decide +kernel
theorem dX11_latch_1 : decode cX11_latch 1 = .ok (.iconst 0, 1) := by decide +kernel
theorem dX11_latch_2 : decode cX11_latch 2 = .ok (.putfield 160, 3) := by decide +kernel
theorem dX11_latch_5 : decode cX11_latch 5 = .ok (.aload_n 0, 1) := by decide +kernel
theorem dX11_latch_6 : decode cX11_latch 6 = .ok (.iload_n 1, 1) := by decide +kernel
theorem dX11_latch_7 : decode cX11_latch 7 = .ok (.invokevirtual 456, 3) := by decide +kernel
theorem dX11_latch_10 : decode cX11_latch 10 = .ok (.ifCond .ne 9, 3) := by decide +kernel
theorem dX11_latch_13 : decode cX11_latch 13 = .ok (.aload_n 0, 1) := by decide +kernel
theorem dX11_latch_14 : decode cX11_latch 14 = .ok (.iconst 1, 1) := by decide +kernel
theorem dX11_latch_15 : decode cX11_latch 15 = .ok (.invokevirtual 459, 3) := by decide +kernel
theorem dX11_latch_18 : decode cX11_latch 18 = .ok (.ireturn, 1) := by decide +kernel
theorem dX11_latch_19 : decode cX11_latch 19 = .ok (.iload_n 2, 1) := by decide +kernel
theorem dX11_latch_20 : decode cX11_latch 20 = .ok (.tableswitch 71 0 3 #[32, 43, 54, 64], 32) := by decide +kernel
theorem dX11_latch_52 : decode cX11_latch 52 = .ok (.aload_n 0, 1) := by decide +kernel
theorem dX11_latch_53 : decode cX11_latch 53 = .ok (.getfield 94, 3) := by decide +kernel
theorem dX11_latch_56 : decode cX11_latch 56 = .ok (.iconst 0, 1) := by decide +kernel
theorem dX11_latch_57 : decode cX11_latch 57 = .ok (.iaload, 1) := by decide +kernel
theorem dX11_latch_58 : decode cX11_latch 58 = .ok (.iload_n 1, 1) := by decide +kernel
theorem dX11_latch_59 : decode cX11_latch 59 = .ok (.ishr, 1) := by decide +kernel
theorem dX11_latch_60 : decode cX11_latch 60 = .ok (.iconst 1, 1) := by decide +kernel
theorem dX11_latch_61 : decode cX11_latch 61 = .ok (.iand, 1) := by decide +kernel
theorem dX11_latch_62 : decode cX11_latch 62 = .ok (.ireturn, 1) := by decide +kernel
theorem dX11_latch_63 : decode cX11_latch 63 = .ok (.aload_n 0, 1) := by decide +kernel
theorem dX11_latch_64 : decode cX11_latch 64 = .ok (.getfield 97, 3) := by decide +kernel
theorem dX11_latch_67 : decode cX11_latch 67 = .ok (.iconst 0, 1) := by decide +kernel
theorem dX11_latch_68 : decode cX11_latch 68 = .ok (.iaload, 1) := by decide +kernel
theorem dX11_latch_69 : decode cX11_latch 69 = .ok (.iload_n 1, 1) := by decide +kernel
theorem dX11_latch_70 : decode cX11_latch 70 = .ok (.ishr, 1) := by decide +kernel
theorem dX11_latch_71 : decode cX11_latch 71 = .ok (.iconst 1, 1) := by decide +kernel
theorem dX11_latch_72 : decode cX11_latch 72 = .ok (.iand, 1) := by decide +kernel
theorem dX11_latch_73 : decode cX11_latch 73 = .ok (.ireturn, 1) := by decide +kernel
theorem dX11_latch_74 : decode cX11_latch 74 = .ok (.aload_n 0, 1) := by decide +kernel
theorem dX11_latch_75 : decode cX11_latch 75 = .ok (.iconst 0, 1) := by decide +kernel
theorem dX11_latch_76 : decode cX11_latch 76 = .ok (.invokevirtual 436, 3) := by decide +kernel
theorem dX11_latch_79 : decode cX11_latch 79 = .ok (.iload_n 1, 1) := by decide +kernel
theorem dX11_latch_80 : decode cX11_latch 80 = .ok (.ishr, 1) := by decide +kernel
theorem dX11_latch_81 : decode cX11_latch 81 = .ok (.iconst 1, 1) := by decide +kernel
theorem dX11_latch_82 : decode cX11_latch 82 = .ok (.iand, 1) := by decide +kernel
theorem dX11_latch_83 : decode cX11_latch 83 = .ok (.ireturn, 1) := by decide +kernel
theorem dX11_latch_84 : decode cX11_latch 84 = .ok (.aload_n 0, 1) := by decide +kernel
theorem dX11_latch_85 : decode cX11_latch 85 = .ok (.getfield 109, 3) := by decide +kernel
theorem dX11_latch_88 : decode cX11_latch 88 = .ok (.iload_n 1, 1) := by decide +kernel
theorem dX11_latch_89 : decode cX11_latch 89 = .ok (.iaload, 1) := by decide +kernel
theorem dX11_latch_90 : decode cX11_latch 90 = .ok (.ireturn, 1) := by decide +kernel
theorem dX11_latch_91 : decode cX11_latch 91 = .ok (.aload_n 0, 1) := by decide +kernel
theorem dX11_latch_92 : decode cX11_latch 92 = .ok (.iconst 2, 1) := by decide +kernel
theorem dX11_latch_93 : decode cX11_latch 93 = .ok (.invokevirtual 459, 3) := by decide +kernel
theorem dX11_latch_96 : decode cX11_latch 96 = .ok (.ireturn, 1) := by decide +kernel
theorem dX11_row_0 : decode cX11_row 0 = .ok (.aload_n 0, 1) := by decide +kernel
theorem dX11_row_1 : decode cX11_row 1 = .ok (.iconst 0, 1) := by decide +kernel
theorem dX11_row_2 : decode cX11_row 2 = .ok (.putfield 160, 3) := by decide +kernel
theorem dX11_row_5 : decode cX11_row 5 = .ok (.iload_n 1, 1) := by decide +kernel
theorem dX11_row_6 : decode cX11_row 6 = .ok (.ifCond .ne 12, 3) := by decide +kernel
theorem dX11_row_9 : decode cX11_row 9 = .ok (.aload_n 0, 1) := by decide +kernel
theorem dX11_row_10 : decode cX11_row 10 = .ok (.getfield 94, 3) := by decide +kernel
theorem dX11_row_13 : decode cX11_row 13 = .ok (.iconst 0, 1) := by decide +kernel
theorem dX11_row_14 : decode cX11_row 14 = .ok (.iaload, 1) := by decide +kernel
theorem dX11_row_15 : decode cX11_row 15 = .ok (.goto 40, 3) := by decide +kernel
theorem dX11_row_18 : decode cX11_row 18 = .ok (.iload_n 1, 1) := by decide +kernel
theorem dX11_row_19 : decode cX11_row 19 = .ok (.iconst 1, 1) := by decide +kernel
theorem dX11_row_20 : decode cX11_row 20 = .ok (.if_icmp .ne 12, 3) := by decide +kernel
theorem dX11_row_23 : decode cX11_row 23 = .ok (.aload_n 0, 1) := by decide +kernel
theorem dX11_row_24 : decode cX11_row 24 = .ok (.getfield 97, 3) := by decide +kernel
theorem dX11_row_27 : decode cX11_row 27 = .ok (.iconst 0, 1) := by decide +kernel
theorem dX11_row_28 : decode cX11_row 28 = .ok (.iaload, 1) := by decide +kernel
theorem dX11_row_29 : decode cX11_row 29 = .ok (.goto 26, 3) := by decide +kernel
theorem dX11_row_32 : decode cX11_row 32 = .ok (.iload_n 1, 1) := by decide +kernel
theorem dX11_row_33 : decode cX11_row 33 = .ok (.iconst 2, 1) := by decide +kernel
theorem dX11_row_34 : decode cX11_row 34 = .ok (.if_icmp .ne 20, 3) := by decide +kernel
theorem dX11_row_37 : decode cX11_row 37 = .ok (.aload_n 0, 1) := by decide +kernel
theorem dX11_row_38 : decode cX11_row 38 = .ok (.iconst 0, 1) := by decide +kernel
theorem dX11_row_39 : decode cX11_row 39 = .ok (.invokevirtual 436, 3) := by decide +kernel
theorem dX11_row_42 : decode cX11_row 42 = .ok (.iconst 1, 1) := by decide +kernel
theorem dX11_row_43 : decode cX11_row 43 = .ok (.aload_n 0, 1) := by decide +kernel
theorem dX11_row_44 : decode cX11_row 44 = .ok (.getfield 240, 3) := by decide +kernel
theorem dX11_row_47 : decode cX11_row 47 = .ok (.ishl, 1) := by decide +kernel
theorem dX11_row_48 : decode cX11_row 48 = .ok (.iconst 1, 1) := by decide +kernel
theorem dX11_row_49 : decode cX11_row 49 = .ok (.isub, 1) := by decide +kernel
theorem dX11_row_50 : decode cX11_row 50 = .ok (.iand, 1) := by decide +kernel
theorem dX11_row_51 : decode cX11_row 51 = .ok (.goto 4, 3) := by decide +kernel
theorem dX11_row_54 : decode cX11_row 54 = .ok (.iconst (-1), 1) := by decide +kernel
theorem dX11_row_55 : decode cX11_row 55 = .ok (.ireturn, 1) := by decide +kernel
theorem dX11_could_0 : decode cX11_could 0 = .ok (.aload_n 0, 1) := by decide +kernel
theorem dX11_could_1 : decode cX11_could 1 = .ok (.iconst 0, 1) := by decide +kernel
theorem dX11_could_2 : decode cX11_could 2 = .ok (.putfield 160, 3) := by decide +kernel
theorem dX11_could_5 : decode cX11_could 5 = .ok (.aload_n 0, 1) := by decide +kernel
theorem dX11_could_6 : decode cX11_could 6 = .ok (.iload_n 1, 1) := by decide +kernel
theorem dX11_could_7 : decode cX11_could 7 = .ok (.invokevirtual 462, 3) := by decide +kernel
theorem dX11_could_10 : decode cX11_could 10 = .ok (.ifCond .eq 24, 3) := by decide +kernel
theorem dX11_could_13 : decode cX11_could 13 = .ok (.aload_n 0, 1) := by decide +kernel
theorem dX11_could_14 : decode cX11_could 14 = .ok (.iload_n 2, 1) := by decide +kernel
theorem dX11_could_15 : decode cX11_could 15 = .ok (.invokevirtual 456, 3) := by decide +kernel
theorem dX11_could_18 : decode cX11_could 18 = .ok (.ifCond .eq 16, 3) := by decide +kernel
theorem dX11_could_21 : decode cX11_could 21 = .ok (.aload_n 0, 1) := by decide +kernel
theorem dX11_could_22 : decode cX11_could 22 = .ok (.getfield 88, 3) := by decide +kernel
theorem dX11_could_25 : decode cX11_could 25 = .ok (.iload_n 1, 1) := by decide +kernel
theorem dX11_could_26 : decode cX11_could 26 = .ok (.iaload, 1) := by decide +kernel
theorem dX11_could_27 : decode cX11_could 27 = .ok (.iload_n 2, 1) := by decide +kernel
theorem dX11_could_28 : decode cX11_could 28 = .ok (.ishr, 1) := by decide +kernel
theorem dX11_could_29 : decode cX11_could 29 = .ok (.iconst 1, 1) := by decide +kernel
theorem dX11_could_30 : decode cX11_could 30 = .ok (.iand, 1) := by decide +kernel
theorem dX11_could_31 : decode cX11_could 31 = .ok (.goto 4, 3) := by decide +kernel
theorem dX11_could_34 : decode cX11_could 34 = .ok (.iconst (-1), 1) := by decide +kernel
theorem dX11_could_35 : decode cX11_could 35 = .ok (.ireturn, 1) := by decide +kernel
theorem dX11_law_0 : decode cX11_law 0 = .ok (.aload_n 0, 1) := by decide +kernel
theorem dX11_law_1 : decode cX11_law 1 = .ok (.iconst 0, 1) := by decide +kernel
theorem dX11_law_2 : decode cX11_law 2 = .ok (.putfield 160, 3) := by decide +kernel
theorem dX11_law_5 : decode cX11_law 5 = .ok (.iload_n 1, 1) := by decide +kernel
theorem dX11_law_6 : decode cX11_law 6 = .ok (.iconst 0, 1) := by decide +kernel
theorem dX11_law_7 : decode cX11_law 7 = .ok (.iconst 2, 1) := by decide +kernel
theorem dX11_law_8 : decode cX11_law 8 = .ok (.invokestatic 205, 3) := by decide +kernel
theorem dX11_law_11 : decode cX11_law 11 = .ok (.ifCond .eq 20, 3) := by decide +kernel
theorem dX11_law_14 : decode cX11_law 14 = .ok (.aload_n 0, 1) := by decide +kernel
theorem dX11_law_15 : decode cX11_law 15 = .ok (.getfield 57, 3) := by decide +kernel
theorem dX11_law_18 : decode cX11_law 18 = .ok (.iload_n 1, 1) := by decide +kernel
theorem dX11_law_19 : decode cX11_law 19 = .ok (.baload, 1) := by decide +kernel
theorem dX11_law_20 : decode cX11_law 20 = .ok (.ifCond .eq 11, 3) := by decide +kernel
theorem dX11_law_23 : decode cX11_law 23 = .ok (.aload_n 0, 1) := by decide +kernel
theorem dX11_law_24 : decode cX11_law 24 = .ok (.iload_n 2, 1) := by decide +kernel
theorem dX11_law_25 : decode cX11_law 25 = .ok (.invokevirtual 456, 3) := by decide +kernel
theorem dX11_law_28 : decode cX11_law 28 = .ok (.ifCond .ne 7, 3) := by decide +kernel
theorem dX11_law_31 : decode cX11_law 31 = .ok (.ldc2_w 465, 3) := by decide +kernel
theorem dX11_law_34 : decode cX11_law 34 = .ok (.lreturn, 1) := by decide +kernel
theorem dX11_law_35 : decode cX11_law 35 = .ok (.aload_n 0, 1) := by decide +kernel
theorem dX11_law_36 : decode cX11_law 36 = .ok (.iconst 0, 1) := by decide +kernel
theorem dX11_law_37 : decode cX11_law 37 = .ok (.iload_n 2, 1) := by decide +kernel
theorem dX11_law_38 : decode cX11_law 38 = .ok (.invokevirtual 439, 3) := by decide +kernel
theorem dX11_law_41 : decode cX11_law 41 = .ok (.aload_n 0, 1) := by decide +kernel
theorem dX11_law_42 : decode cX11_law 42 = .ok (.iload_n 1, 1) := by decide +kernel
theorem dX11_law_43 : decode cX11_law 43 = .ok (.invokevirtual 425, 3) := by decide +kernel
theorem dX11_law_46 : decode cX11_law 46 = .ok (.lstore_n 3, 1) := by decide +kernel
theorem dX11_law_47 : decode cX11_law 47 = .ok (.aload_n 0, 1) := by decide +kernel
theorem dX11_law_48 : decode cX11_law 48 = .ok (.getfield 347, 3) := by decide +kernel
theorem dX11_law_51 : decode cX11_law 51 = .ok (.ifCond .eq 9, 3) := by decide +kernel
theorem dX11_law_54 : decode cX11_law 54 = .ok (.ldc2_w 465, 3) := by decide +kernel
theorem dX11_law_57 : decode cX11_law 57 = .ok (.goto 4, 3) := by decide +kernel
theorem dX11_law_60 : decode cX11_law 60 = .ok (.lload_n 3, 1) := by decide +kernel
theorem dX11_law_61 : decode cX11_law 61 = .ok (.lreturn, 1) := by decide +kernel
theorem dX11_push_0 : decode cX11_push 0 = .ok (.aload_n 0, 1) := by decide +kernel
theorem dX11_push_1 : decode cX11_push 1 = .ok (.iconst 0, 1) := by decide +kernel
theorem dX11_push_2 : decode cX11_push 2 = .ok (.putfield 160, 3) := by decide +kernel
theorem dX11_push_5 : decode cX11_push 5 = .ok (.aload_n 0, 1) := by decide +kernel
theorem dX11_push_6 : decode cX11_push 6 = .ok (.iload_n 1, 1) := by decide +kernel
theorem dX11_push_7 : decode cX11_push 7 = .ok (.invokevirtual 456, 3) := by decide +kernel
theorem dX11_push_10 : decode cX11_push 10 = .ok (.ifCond .ne 5, 3) := by decide +kernel
theorem dX11_push_13 : decode cX11_push 13 = .ok (.iconst (-1), 1) := by decide +kernel
theorem dX11_push_14 : decode cX11_push 14 = .ok (.ireturn, 1) := by decide +kernel
theorem dX11_push_15 : decode cX11_push 15 = .ok (.aload_n 0, 1) := by decide +kernel
theorem dX11_push_16 : decode cX11_push 16 = .ok (.invokevirtual 391, 3) := by decide +kernel
theorem dX11_push_19 : decode cX11_push 19 = .ok (.aload_n 0, 1) := by decide +kernel
theorem dX11_push_20 : decode cX11_push 20 = .ok (.iconst 0, 1) := by decide +kernel
theorem dX11_push_21 : decode cX11_push 21 = .ok (.invokevirtual 436, 3) := by decide +kernel
theorem dX11_push_24 : decode cX11_push 24 = .ok (.iload_n 1, 1) := by decide +kernel
theorem dX11_push_25 : decode cX11_push 25 = .ok (.invokestatic 372, 3) := by decide +kernel
theorem dX11_push_28 : decode cX11_push 28 = .ok (.ifCond .ne 6, 3) := by decide +kernel
theorem dX11_push_31 : decode cX11_push 31 = .ok (.bipush (-2), 2) := by decide +kernel
theorem dX11_push_33 : decode cX11_push 33 = .ok (.ireturn, 1) := by decide +kernel
theorem dX11_push_34 : decode cX11_push 34 = .ok (.aload_n 0, 1) := by decide +kernel
theorem dX11_push_35 : decode cX11_push 35 = .ok (.invokevirtual 467, 3) := by decide +kernel
theorem dX11_push_38 : decode cX11_push 38 = .ok (.aload_n 0, 1) := by decide +kernel
theorem dX11_push_39 : decode cX11_push 39 = .ok (.iconst 0, 1) := by decide +kernel
theorem dX11_push_40 : decode cX11_push 40 = .ok (.iload_n 1, 1) := by decide +kernel
theorem dX11_push_41 : decode cX11_push 41 = .ok (.invokevirtual 450, 3) := by decide +kernel
theorem dX11_push_44 : decode cX11_push 44 = .ok (.pop, 1) := by decide +kernel
theorem dX11_push_45 : decode cX11_push 45 = .ok (.aload_n 0, 1) := by decide +kernel
theorem dX11_push_46 : decode cX11_push 46 = .ok (.getfield 94, 3) := by decide +kernel
theorem dX11_push_49 : decode cX11_push 49 = .ok (.iconst 0, 1) := by decide +kernel
theorem dX11_push_50 : decode cX11_push 50 = .ok (.iaload, 1) := by decide +kernel
theorem dX11_push_51 : decode cX11_push 51 = .ok (.invokestatic 381, 3) := by decide +kernel
theorem dX11_push_54 : decode cX11_push 54 = .ok (.ireturn, 1) := by decide +kernel
theorem dX11_force_0 : decode cX11_force 0 = .ok (.aload_n 0, 1) := by decide +kernel
theorem dX11_force_1 : decode cX11_force 1 = .ok (.iconst 0, 1) := by decide +kernel
theorem dX11_force_2 : decode cX11_force 2 = .ok (.putfield 160, 3) := by decide +kernel
theorem dX11_force_5 : decode cX11_force 5 = .ok (.aload_n 0, 1) := by decide +kernel
theorem dX11_force_6 : decode cX11_force 6 = .ok (.iload_n 1, 1) := by decide +kernel
theorem dX11_force_7 : decode cX11_force 7 = .ok (.invokevirtual 456, 3) := by decide +kernel
theorem dX11_force_10 : decode cX11_force 10 = .ok (.ifCond .ne 5, 3) := by decide +kernel
theorem dX11_force_13 : decode cX11_force 13 = .ok (.iconst (-1), 1) := by decide +kernel
theorem dX11_force_14 : decode cX11_force 14 = .ok (.ireturn, 1) := by decide +kernel
theorem dX11_force_15 : decode cX11_force 15 = .ok (.aload_n 0, 1) := by decide +kernel
theorem dX11_force_16 : decode cX11_force 16 = .ok (.invokevirtual 467, 3) := by decide +kernel
theorem dX11_force_19 : decode cX11_force 19 = .ok (.aload_n 0, 1) := by decide +kernel
theorem dX11_force_20 : decode cX11_force 20 = .ok (.getfield 94, 3) := by decide +kernel
theorem dX11_force_23 : decode cX11_force 23 = .ok (.iconst 0, 1) := by decide +kernel
theorem dX11_force_24 : decode cX11_force 24 = .ok (.dup2, 1) := by decide +kernel
theorem dX11_force_25 : decode cX11_force 25 = .ok (.iaload, 1) := by decide +kernel
theorem dX11_force_26 : decode cX11_force 26 = .ok (.iconst 1, 1) := by decide +kernel
theorem dX11_force_27 : decode cX11_force 27 = .ok (.iload_n 1, 1) := by decide +kernel
theorem dX11_force_28 : decode cX11_force 28 = .ok (.ishl, 1) := by decide +kernel
theorem dX11_force_29 : decode cX11_force 29 = .ok (.ixor, 1) := by decide +kernel
theorem dX11_force_30 : decode cX11_force 30 = .ok (.iastore, 1) := by decide +kernel
theorem dX11_force_31 : decode cX11_force 31 = .ok (.aload_n 0, 1) := by decide +kernel
theorem dX11_force_32 : decode cX11_force 32 = .ok (.getfield 94, 3) := by decide +kernel
theorem dX11_force_35 : decode cX11_force 35 = .ok (.iconst 0, 1) := by decide +kernel
theorem dX11_force_36 : decode cX11_force 36 = .ok (.iaload, 1) := by decide +kernel
theorem dX11_force_37 : decode cX11_force 37 = .ok (.iload_n 1, 1) := by decide +kernel
theorem dX11_force_38 : decode cX11_force 38 = .ok (.ishr, 1) := by decide +kernel
theorem dX11_force_39 : decode cX11_force 39 = .ok (.iconst 1, 1) := by decide +kernel
theorem dX11_force_40 : decode cX11_force 40 = .ok (.iand, 1) := by decide +kernel
theorem dX11_force_41 : decode cX11_force 41 = .ok (.ireturn, 1) := by decide +kernel
theorem dX11_seal_0 : decode cX11_seal 0 = .ok (.aload_n 0, 1) := by decide +kernel
theorem dX11_seal_1 : decode cX11_seal 1 = .ok (.iconst 0, 1) := by decide +kernel
theorem dX11_seal_2 : decode cX11_seal 2 = .ok (.putfield 160, 3) := by decide +kernel
theorem dX11_seal_5 : decode cX11_seal 5 = .ok (.aload_n 0, 1) := by decide +kernel
theorem dX11_seal_6 : decode cX11_seal 6 = .ok (.iload_n 1, 1) := by decide +kernel
theorem dX11_seal_7 : decode cX11_seal 7 = .ok (.invokevirtual 456, 3) := by decide +kernel
theorem dX11_seal_10 : decode cX11_seal 10 = .ok (.ifCond .ne 5, 3) := by decide +kernel
theorem dX11_seal_13 : decode cX11_seal 13 = .ok (.iconst (-1), 1) := by decide +kernel
theorem dX11_seal_14 : decode cX11_seal 14 = .ok (.ireturn, 1) := by decide +kernel
theorem dX11_seal_15 : decode cX11_seal 15 = .ok (.aload_n 0, 1) := by decide +kernel
theorem dX11_seal_16 : decode cX11_seal 16 = .ok (.invokevirtual 467, 3) := by decide +kernel
theorem dX11_seal_19 : decode cX11_seal 19 = .ok (.aload_n 0, 1) := by decide +kernel
theorem dX11_seal_20 : decode cX11_seal 20 = .ok (.getfield 97, 3) := by decide +kernel
theorem dX11_seal_23 : decode cX11_seal 23 = .ok (.iconst 0, 1) := by decide +kernel
theorem dX11_seal_24 : decode cX11_seal 24 = .ok (.dup2, 1) := by decide +kernel
theorem dX11_seal_25 : decode cX11_seal 25 = .ok (.iaload, 1) := by decide +kernel
theorem dX11_seal_26 : decode cX11_seal 26 = .ok (.iconst 1, 1) := by decide +kernel
theorem dX11_seal_27 : decode cX11_seal 27 = .ok (.iload_n 1, 1) := by decide +kernel
theorem dX11_seal_28 : decode cX11_seal 28 = .ok (.ishl, 1) := by decide +kernel
theorem dX11_seal_29 : decode cX11_seal 29 = .ok (.ixor, 1) := by decide +kernel
theorem dX11_seal_30 : decode cX11_seal 30 = .ok (.iastore, 1) := by decide +kernel
theorem dX11_seal_31 : decode cX11_seal 31 = .ok (.aload_n 0, 1) := by decide +kernel
theorem dX11_seal_32 : decode cX11_seal 32 = .ok (.getfield 97, 3) := by decide +kernel
theorem dX11_seal_35 : decode cX11_seal 35 = .ok (.iconst 0, 1) := by decide +kernel
theorem dX11_seal_36 : decode cX11_seal 36 = .ok (.iaload, 1) := by decide +kernel
theorem dX11_seal_37 : decode cX11_seal 37 = .ok (.iload_n 1, 1) := by decide +kernel
theorem dX11_seal_38 : decode cX11_seal 38 = .ok (.ishr, 1) := by decide +kernel
theorem dX11_seal_39 : decode cX11_seal 39 = .ok (.iconst 1, 1) := by decide +kernel
theorem dX11_seal_40 : decode cX11_seal 40 = .ok (.iand, 1) := by decide +kernel
theorem dX11_seal_41 : decode cX11_seal 41 = .ok (.ireturn, 1) := by decide +kernel
theorem dX11_go_0 : decode cX11_go 0 = .ok (.aload_n 0, 1) := by decide +kernel
theorem dX11_go_1 : decode cX11_go 1 = .ok (.iconst 0, 1) := by decide +kernel
theorem dX11_go_2 : decode cX11_go 2 = .ok (.putfield 160, 3) := by decide +kernel
theorem dX11_go_5 : decode cX11_go 5 = .ok (.iload_n 1, 1) := by decide +kernel
theorem dX11_go_6 : decode cX11_go 6 = .ok (.iconst 0, 1) := by decide +kernel
theorem dX11_go_7 : decode cX11_go 7 = .ok (.sipush 200, 3) := by decide +kernel
theorem dX11_go_10 : decode cX11_go 10 = .ok (.invokestatic 205, 3) := by decide +kernel
theorem dX11_go_13 : decode cX11_go 13 = .ok (.ifCond .eq 17, 3) := by decide +kernel
theorem dX11_go_16 : decode cX11_go 16 = .ok (.aload_n 0, 1) := by decide +kernel
theorem dX11_go_17 : decode cX11_go 17 = .ok (.getfield 106, 3) := by decide +kernel
theorem dX11_go_20 : decode cX11_go 20 = .ok (.iconst 0, 1) := by decide +kernel
theorem dX11_go_21 : decode cX11_go 21 = .ok (.iaload, 1) := by decide +kernel
theorem dX11_go_22 : decode cX11_go 22 = .ok (.iload_n 1, 1) := by decide +kernel
theorem dX11_go_23 : decode cX11_go 23 = .ok (.iadd, 1) := by decide +kernel
theorem dX11_go_24 : decode cX11_go 24 = .ok (.sipush 9000, 3) := by decide +kernel
theorem dX11_go_27 : decode cX11_go 27 = .ok (.if_icmp .le 5, 3) := by decide +kernel
theorem dX11_go_30 : decode cX11_go 30 = .ok (.iconst (-1), 1) := by decide +kernel
theorem dX11_go_31 : decode cX11_go 31 = .ok (.ireturn, 1) := by decide +kernel
theorem dX11_go_32 : decode cX11_go 32 = .ok (.aload_n 0, 1) := by decide +kernel
theorem dX11_go_33 : decode cX11_go 33 = .ok (.invokevirtual 391, 3) := by decide +kernel
theorem dX11_go_36 : decode cX11_go 36 = .ok (.aload_n 0, 1) := by decide +kernel
theorem dX11_go_37 : decode cX11_go 37 = .ok (.iconst 1, 1) := by decide +kernel
theorem dX11_go_38 : decode cX11_go 38 = .ok (.putfield 403, 3) := by decide +kernel
theorem dX11_go_41 : decode cX11_go 41 = .ok (.iconst 0, 1) := by decide +kernel
theorem dX11_go_42 : decode cX11_go 42 = .ok (.istore_n 2, 1) := by decide +kernel
theorem dX11_go_43 : decode cX11_go 43 = .ok (.iload_n 2, 1) := by decide +kernel
theorem dX11_go_44 : decode cX11_go 44 = .ok (.iload_n 1, 1) := by decide +kernel
theorem dX11_go_45 : decode cX11_go 45 = .ok (.if_icmp .ge 14, 3) := by decide +kernel
theorem dX11_go_48 : decode cX11_go 48 = .ok (.aload_n 0, 1) := by decide +kernel
theorem dX11_go_49 : decode cX11_go 49 = .ok (.iconst 0, 1) := by decide +kernel
theorem dX11_go_50 : decode cX11_go 50 = .ok (.invokevirtual 453, 3) := by decide +kernel
theorem dX11_go_53 : decode cX11_go 53 = .ok (.iinc 2 1, 3) := by decide +kernel
theorem dX11_go_56 : decode cX11_go 56 = .ok (.goto (-13), 3) := by decide +kernel
theorem dX11_go_59 : decode cX11_go 59 = .ok (.aload_n 0, 1) := by decide +kernel
theorem dX11_go_60 : decode cX11_go 60 = .ok (.iconst 0, 1) := by decide +kernel
theorem dX11_go_61 : decode cX11_go 61 = .ok (.putfield 403, 3) := by decide +kernel
theorem dX11_go_64 : decode cX11_go 64 = .ok (.aload_n 0, 1) := by decide +kernel
theorem dX11_go_65 : decode cX11_go 65 = .ok (.iload_n 1, 1) := by decide +kernel
theorem dX11_go_66 : decode cX11_go 66 = .ok (.ifCond .le 7, 3) := by decide +kernel
theorem dX11_go_69 : decode cX11_go 69 = .ok (.iconst 0, 1) := by decide +kernel
theorem dX11_go_70 : decode cX11_go 70 = .ok (.goto 7, 3) := by decide +kernel
theorem dX11_go_73 : decode cX11_go 73 = .ok (.aload_n 0, 1) := by decide +kernel
theorem dX11_go_74 : decode cX11_go 74 = .ok (.getfield 397, 3) := by decide +kernel
theorem dX11_go_77 : decode cX11_go 77 = .ok (.putfield 397, 3) := by decide +kernel
theorem dX11_go_80 : decode cX11_go 80 = .ok (.aload_n 0, 1) := by decide +kernel
theorem dX11_go_81 : decode cX11_go 81 = .ok (.getfield 106, 3) := by decide +kernel
theorem dX11_go_84 : decode cX11_go 84 = .ok (.iconst 0, 1) := by decide +kernel
theorem dX11_go_85 : decode cX11_go 85 = .ok (.iaload, 1) := by decide +kernel
theorem dX11_go_86 : decode cX11_go 86 = .ok (.ireturn, 1) := by decide +kernel
theorem dX11_ahead_0 : decode cX11_ahead 0 = .ok (.aload_n 0, 1) := by decide +kernel
theorem dX11_ahead_1 : decode cX11_ahead 1 = .ok (.iconst 0, 1) := by decide +kernel
theorem dX11_ahead_2 : decode cX11_ahead 2 = .ok (.putfield 160, 3) := by decide +kernel
theorem dX11_ahead_5 : decode cX11_ahead 5 = .ok (.iload_n 1, 1) := by decide +kernel
theorem dX11_ahead_6 : decode cX11_ahead 6 = .ok (.iconst 0, 1) := by decide +kernel
theorem dX11_ahead_7 : decode cX11_ahead 7 = .ok (.sipush 200, 3) := by decide +kernel
theorem dX11_ahead_10 : decode cX11_ahead 10 = .ok (.invokestatic 205, 3) := by decide +kernel
theorem dX11_ahead_13 : decode cX11_ahead 13 = .ok (.ifCond .eq 12, 3) := by decide +kernel
theorem dX11_ahead_16 : decode cX11_ahead 16 = .ok (.iload_n 2, 1) := by decide +kernel
theorem dX11_ahead_17 : decode cX11_ahead 17 = .ok (.iconst 0, 1) := by decide +kernel
theorem dX11_ahead_18 : decode cX11_ahead 18 = .ok (.iconst 4, 1) := by decide +kernel
theorem dX11_ahead_19 : decode cX11_ahead 19 = .ok (.invokestatic 205, 3) := by decide +kernel
theorem dX11_ahead_22 : decode cX11_ahead 22 = .ok (.ifCond .ne 5, 3) := by decide +kernel
theorem dX11_ahead_25 : decode cX11_ahead 25 = .ok (.iconst (-1), 1) := by decide +kernel
theorem dX11_ahead_26 : decode cX11_ahead 26 = .ok (.ireturn, 1) := by decide +kernel
theorem dX11_ahead_27 : decode cX11_ahead 27 = .ok (.aload_n 0, 1) := by decide +kernel
theorem dX11_ahead_28 : decode cX11_ahead 28 = .ok (.invokevirtual 470, 3) := by decide +kernel
theorem dX11_ahead_31 : decode cX11_ahead 31 = .ok (.aload_n 0, 1) := by decide +kernel
theorem dX11_ahead_32 : decode cX11_ahead 32 = .ok (.iload_n 1, 1) := by decide +kernel
theorem dX11_ahead_33 : decode cX11_ahead 33 = .ok (.invokevirtual 473, 3) := by decide +kernel
theorem dX11_ahead_36 : decode cX11_ahead 36 = .ok (.iload_n 2, 1) := by decide +kernel
theorem dX11_ahead_37 : decode cX11_ahead 37 = .ok (.tableswitch 79 0 3 #[31, 41, 55, 69], 31) := by decide +kernel
theorem dX11_ahead_68 : decode cX11_ahead 68 = .ok (.aload_n 0, 1) := by decide +kernel
theorem dX11_ahead_69 : decode cX11_ahead 69 = .ok (.getfield 94, 3) := by decide +kernel
theorem dX11_ahead_72 : decode cX11_ahead 72 = .ok (.iconst 1, 1) := by decide +kernel
theorem dX11_ahead_73 : decode cX11_ahead 73 = .ok (.iaload, 1) := by decide +kernel
theorem dX11_ahead_74 : decode cX11_ahead 74 = .ok (.invokestatic 381, 3) := by decide +kernel
theorem dX11_ahead_77 : decode cX11_ahead 77 = .ok (.ireturn, 1) := by decide +kernel
theorem dX11_ahead_78 : decode cX11_ahead 78 = .ok (.aload_n 0, 1) := by decide +kernel
theorem dX11_ahead_79 : decode cX11_ahead 79 = .ok (.getfield 100, 3) := by decide +kernel
theorem dX11_ahead_82 : decode cX11_ahead 82 = .ok (.iconst 1, 1) := by decide +kernel
theorem dX11_ahead_83 : decode cX11_ahead 83 = .ok (.iaload, 1) := by decide +kernel
theorem dX11_ahead_84 : decode cX11_ahead 84 = .ok (.aload_n 0, 1) := by decide +kernel
theorem dX11_ahead_85 : decode cX11_ahead 85 = .ok (.getfield 100, 3) := by decide +kernel
theorem dX11_ahead_88 : decode cX11_ahead 88 = .ok (.iconst 0, 1) := by decide +kernel
theorem dX11_ahead_89 : decode cX11_ahead 89 = .ok (.iaload, 1) := by decide +kernel
theorem dX11_ahead_90 : decode cX11_ahead 90 = .ok (.isub, 1) := by decide +kernel
theorem dX11_ahead_91 : decode cX11_ahead 91 = .ok (.ireturn, 1) := by decide +kernel
theorem dX11_ahead_92 : decode cX11_ahead 92 = .ok (.aload_n 0, 1) := by decide +kernel
theorem dX11_ahead_93 : decode cX11_ahead 93 = .ok (.getfield 103, 3) := by decide +kernel
theorem dX11_ahead_96 : decode cX11_ahead 96 = .ok (.iconst 1, 1) := by decide +kernel
theorem dX11_ahead_97 : decode cX11_ahead 97 = .ok (.iaload, 1) := by decide +kernel
theorem dX11_ahead_98 : decode cX11_ahead 98 = .ok (.aload_n 0, 1) := by decide +kernel
theorem dX11_ahead_99 : decode cX11_ahead 99 = .ok (.getfield 103, 3) := by decide +kernel
theorem dX11_ahead_102 : decode cX11_ahead 102 = .ok (.iconst 0, 1) := by decide +kernel
theorem dX11_ahead_103 : decode cX11_ahead 103 = .ok (.iaload, 1) := by decide +kernel
theorem dX11_ahead_104 : decode cX11_ahead 104 = .ok (.isub, 1) := by decide +kernel
theorem dX11_ahead_105 : decode cX11_ahead 105 = .ok (.ireturn, 1) := by decide +kernel
theorem dX11_ahead_106 : decode cX11_ahead 106 = .ok (.aload_n 0, 1) := by decide +kernel
theorem dX11_ahead_107 : decode cX11_ahead 107 = .ok (.getfield 97, 3) := by decide +kernel
theorem dX11_ahead_110 : decode cX11_ahead 110 = .ok (.iconst 1, 1) := by decide +kernel
theorem dX11_ahead_111 : decode cX11_ahead 111 = .ok (.iaload, 1) := by decide +kernel
theorem dX11_ahead_112 : decode cX11_ahead 112 = .ok (.invokestatic 381, 3) := by decide +kernel
theorem dX11_ahead_115 : decode cX11_ahead 115 = .ok (.ireturn, 1) := by decide +kernel
theorem dX11_ahead_116 : decode cX11_ahead 116 = .ok (.aload_n 0, 1) := by decide +kernel
theorem dX11_ahead_117 : decode cX11_ahead 117 = .ok (.getfield 94, 3) := by decide +kernel
theorem dX11_ahead_120 : decode cX11_ahead 120 = .ok (.iconst 1, 1) := by decide +kernel
theorem dX11_ahead_121 : decode cX11_ahead 121 = .ok (.iaload, 1) := by decide +kernel
theorem dX11_ahead_122 : decode cX11_ahead 122 = .ok (.ireturn, 1) := by decide +kernel
theorem dX11_when_0 : decode cX11_when 0 = .ok (.aload_n 0, 1) := by decide +kernel
theorem dX11_when_1 : decode cX11_when 1 = .ok (.iconst 0, 1) := by decide +kernel
theorem dX11_when_2 : decode cX11_when 2 = .ok (.putfield 160, 3) := by decide +kernel
theorem dX11_when_5 : decode cX11_when 5 = .ok (.aload_n 0, 1) := by decide +kernel
theorem dX11_when_6 : decode cX11_when 6 = .ok (.iload_n 1, 1) := by decide +kernel
theorem dX11_when_7 : decode cX11_when 7 = .ok (.invokevirtual 456, 3) := by decide +kernel
theorem dX11_when_10 : decode cX11_when 10 = .ok (.ifCond .ne 5, 3) := by decide +kernel
theorem dX11_when_13 : decode cX11_when 13 = .ok (.iconst (-1), 1) := by decide +kernel
theorem dX11_when_14 : decode cX11_when 14 = .ok (.ireturn, 1) := by decide +kernel
theorem dX11_when_15 : decode cX11_when 15 = .ok (.aload_n 0, 1) := by decide +kernel
theorem dX11_when_16 : decode cX11_when 16 = .ok (.invokevirtual 470, 3) := by decide +kernel
theorem dX11_when_19 : decode cX11_when 19 = .ok (.iconst 1, 1) := by decide +kernel
theorem dX11_when_20 : decode cX11_when 20 = .ok (.istore_n 2, 1) := by decide +kernel
theorem dX11_when_21 : decode cX11_when 21 = .ok (.iload_n 2, 1) := by decide +kernel
theorem dX11_when_22 : decode cX11_when 22 = .ok (.sipush 200, 3) := by decide +kernel
theorem dX11_when_25 : decode cX11_when 25 = .ok (.if_icmp .ge 36, 3) := by decide +kernel
theorem dX11_when_28 : decode cX11_when 28 = .ok (.aload_n 0, 1) := by decide +kernel
theorem dX11_when_29 : decode cX11_when 29 = .ok (.iconst 1, 1) := by decide +kernel
theorem dX11_when_30 : decode cX11_when 30 = .ok (.invokevirtual 453, 3) := by decide +kernel
theorem dX11_when_33 : decode cX11_when 33 = .ok (.aload_n 0, 1) := by decide +kernel
theorem dX11_when_34 : decode cX11_when 34 = .ok (.getfield 94, 3) := by decide +kernel
theorem dX11_when_37 : decode cX11_when 37 = .ok (.iconst 1, 1) := by decide +kernel
theorem dX11_when_38 : decode cX11_when 38 = .ok (.iaload, 1) := by decide +kernel
theorem dX11_when_39 : decode cX11_when 39 = .ok (.aload_n 0, 1) := by decide +kernel
theorem dX11_when_40 : decode cX11_when 40 = .ok (.getfield 94, 3) := by decide +kernel
theorem dX11_when_43 : decode cX11_when 43 = .ok (.iconst 0, 1) := by decide +kernel
theorem dX11_when_44 : decode cX11_when 44 = .ok (.iaload, 1) := by decide +kernel
theorem dX11_when_45 : decode cX11_when 45 = .ok (.ixor, 1) := by decide +kernel
theorem dX11_when_46 : decode cX11_when 46 = .ok (.iload_n 1, 1) := by decide +kernel
theorem dX11_when_47 : decode cX11_when 47 = .ok (.invokestatic 372, 3) := by decide +kernel
theorem dX11_when_50 : decode cX11_when 50 = .ok (.ifCond .eq 5, 3) := by decide +kernel
theorem dX11_when_53 : decode cX11_when 53 = .ok (.iload_n 2, 1) := by decide +kernel
theorem dX11_when_54 : decode cX11_when 54 = .ok (.ireturn, 1) := by decide +kernel
theorem dX11_when_55 : decode cX11_when 55 = .ok (.iinc 2 1, 3) := by decide +kernel
theorem dX11_when_58 : decode cX11_when 58 = .ok (.goto (-37), 3) := by decide +kernel
theorem dX11_when_61 : decode cX11_when 61 = .ok (.bipush (-2), 2) := by decide +kernel
theorem dX11_when_63 : decode cX11_when 63 = .ok (.ireturn, 1) := by decide +kernel
theorem dX11_layFar_0 : decode cX11_layFar 0 = .ok (.iconst 0, 1) := by decide +kernel
theorem dX11_layFar_1 : decode cX11_layFar 1 = .ok (.istore 5, 2) := by decide +kernel
theorem dX11_layFar_3 : decode cX11_layFar 3 = .ok (.iload 5, 2) := by decide +kernel
theorem dX11_layFar_5 : decode cX11_layFar 5 = .ok (.sipush 256, 3) := by decide +kernel
theorem dX11_layFar_8 : decode cX11_layFar 8 = .ok (.if_icmp .ge 17, 3) := by decide +kernel
theorem dX11_layFar_11 : decode cX11_layFar 11 = .ok (.aload_n 0, 1) := by decide +kernel
theorem dX11_layFar_12 : decode cX11_layFar 12 = .ok (.getfield 112, 3) := by decide +kernel
theorem dX11_layFar_15 : decode cX11_layFar 15 = .ok (.iload 5, 2) := by decide +kernel
theorem dX11_layFar_17 : decode cX11_layFar 17 = .ok (.iconst (-1), 1) := by decide +kernel
theorem dX11_layFar_18 : decode cX11_layFar 18 = .ok (.iastore, 1) := by decide +kernel
theorem dX11_layFar_19 : decode cX11_layFar 19 = .ok (.iinc 5 1, 3) := by decide +kernel
theorem dX11_layFar_22 : decode cX11_layFar 22 = .ok (.goto (-19), 3) := by decide +kernel
theorem dX11_layFar_25 : decode cX11_layFar 25 = .ok (.aload_n 0, 1) := by decide +kernel
theorem dX11_layFar_26 : decode cX11_layFar 26 = .ok (.getfield 112, 3) := by decide +kernel
theorem dX11_layFar_29 : decode cX11_layFar 29 = .ok (.iload_n 1, 1) := by decide +kernel
theorem dX11_layFar_30 : decode cX11_layFar 30 = .ok (.iconst 0, 1) := by decide +kernel
theorem dX11_layFar_31 : decode cX11_layFar 31 = .ok (.iastore, 1) := by decide +kernel
theorem dX11_layFar_32 : decode cX11_layFar 32 = .ok (.aload_n 0, 1) := by decide +kernel
theorem dX11_layFar_33 : decode cX11_layFar 33 = .ok (.getfield 115, 3) := by decide +kernel
theorem dX11_layFar_36 : decode cX11_layFar 36 = .ok (.iload_n 1, 1) := by decide +kernel
theorem dX11_layFar_37 : decode cX11_layFar 37 = .ok (.iconst 1, 1) := by decide +kernel
theorem dX11_layFar_38 : decode cX11_layFar 38 = .ok (.iastore, 1) := by decide +kernel
theorem dX11_layFar_39 : decode cX11_layFar 39 = .ok (.aload_n 0, 1) := by decide +kernel
theorem dX11_layFar_40 : decode cX11_layFar 40 = .ok (.getfield 118, 3) := by decide +kernel
theorem dX11_layFar_43 : decode cX11_layFar 43 = .ok (.iconst 0, 1) := by decide +kernel
theorem dX11_layFar_44 : decode cX11_layFar 44 = .ok (.iload_n 1, 1) := by decide +kernel
theorem dX11_layFar_45 : decode cX11_layFar 45 = .ok (.iastore, 1) := by decide +kernel
theorem dX11_layFar_46 : decode cX11_layFar 46 = .ok (.aload_n 0, 1) := by decide +kernel
theorem dX11_layFar_47 : decode cX11_layFar 47 = .ok (.iconst 1, 1) := by decide +kernel
theorem dX11_layFar_48 : decode cX11_layFar 48 = .ok (.putfield 476, 3) := by decide +kernel
theorem dX11_layFar_51 : decode cX11_layFar 51 = .ok (.iconst 0, 1) := by decide +kernel
theorem dX11_layFar_52 : decode cX11_layFar 52 = .ok (.istore 5, 2) := by decide +kernel
theorem dX11_layFar_54 : decode cX11_layFar 54 = .ok (.iload 5, 2) := by decide +kernel
theorem dX11_layFar_56 : decode cX11_layFar 56 = .ok (.aload_n 0, 1) := by decide +kernel
theorem dX11_layFar_57 : decode cX11_layFar 57 = .ok (.getfield 476, 3) := by decide +kernel
theorem dX11_layFar_60 : decode cX11_layFar 60 = .ok (.if_icmp .ge 203, 3) := by decide +kernel
theorem dX11_layFar_63 : decode cX11_layFar 63 = .ok (.aload_n 0, 1) := by decide +kernel
theorem dX11_layFar_64 : decode cX11_layFar 64 = .ok (.getfield 118, 3) := by decide +kernel
theorem dX11_layFar_67 : decode cX11_layFar 67 = .ok (.iload 5, 2) := by decide +kernel
theorem dX11_layFar_69 : decode cX11_layFar 69 = .ok (.iaload, 1) := by decide +kernel
theorem dX11_layFar_70 : decode cX11_layFar 70 = .ok (.istore 6, 2) := by decide +kernel
theorem dX11_layFar_72 : decode cX11_layFar 72 = .ok (.aload_n 0, 1) := by decide +kernel
theorem dX11_layFar_73 : decode cX11_layFar 73 = .ok (.getfield 88, 3) := by decide +kernel
theorem dX11_layFar_76 : decode cX11_layFar 76 = .ok (.iload 6, 2) := by decide +kernel
theorem dX11_layFar_78 : decode cX11_layFar 78 = .ok (.iaload, 1) := by decide +kernel
theorem dX11_layFar_79 : decode cX11_layFar 79 = .ok (.iload 4, 2) := by decide +kernel
theorem dX11_layFar_81 : decode cX11_layFar 81 = .ok (.ior, 1) := by decide +kernel
theorem dX11_layFar_82 : decode cX11_layFar 82 = .ok (.iload_n 3, 1) := by decide +kernel
theorem dX11_layFar_83 : decode cX11_layFar 83 = .ok (.iconst (-1), 1) := by decide +kernel
theorem dX11_layFar_84 : decode cX11_layFar 84 = .ok (.ixor, 1) := by decide +kernel
theorem dX11_layFar_85 : decode cX11_layFar 85 = .ok (.iand, 1) := by decide +kernel
theorem dX11_layFar_86 : decode cX11_layFar 86 = .ok (.istore 7, 2) := by decide +kernel
theorem dX11_layFar_88 : decode cX11_layFar 88 = .ok (.iconst 0, 1) := by decide +kernel
theorem dX11_layFar_89 : decode cX11_layFar 89 = .ok (.istore 8, 2) := by decide +kernel
theorem dX11_layFar_91 : decode cX11_layFar 91 = .ok (.iload 8, 2) := by decide +kernel
theorem dX11_layFar_93 : decode cX11_layFar 93 = .ok (.aload_n 0, 1) := by decide +kernel
theorem dX11_layFar_94 : decode cX11_layFar 94 = .ok (.getfield 240, 3) := by decide +kernel
theorem dX11_layFar_97 : decode cX11_layFar 97 = .ok (.if_icmp .ge 160, 3) := by decide +kernel
theorem dX11_layFar_100 : decode cX11_layFar 100 = .ok (.iload 6, 2) := by decide +kernel
theorem dX11_layFar_102 : decode cX11_layFar 102 = .ok (.iconst 1, 1) := by decide +kernel
theorem dX11_layFar_103 : decode cX11_layFar 103 = .ok (.iload 8, 2) := by decide +kernel
theorem dX11_layFar_105 : decode cX11_layFar 105 = .ok (.ishl, 1) := by decide +kernel
theorem dX11_layFar_106 : decode cX11_layFar 106 = .ok (.ixor, 1) := by decide +kernel
theorem dX11_layFar_107 : decode cX11_layFar 107 = .ok (.istore 9, 2) := by decide +kernel
theorem dX11_layFar_109 : decode cX11_layFar 109 = .ok (.iload 7, 2) := by decide +kernel
theorem dX11_layFar_111 : decode cX11_layFar 111 = .ok (.iload 8, 2) := by decide +kernel
theorem dX11_layFar_113 : decode cX11_layFar 113 = .ok (.invokestatic 372, 3) := by decide +kernel
theorem dX11_layFar_116 : decode cX11_layFar 116 = .ok (.ifCond .eq 135, 3) := by decide +kernel
theorem dX11_layFar_119 : decode cX11_layFar 119 = .ok (.iload 9, 2) := by decide +kernel
theorem dX11_layFar_121 : decode cX11_layFar 121 = .ok (.iload_n 2, 1) := by decide +kernel
theorem dX11_layFar_122 : decode cX11_layFar 122 = .ok (.if_icmp .ne 6, 3) := by decide +kernel
theorem dX11_layFar_125 : decode cX11_layFar 125 = .ok (.goto 126, 3) := by decide +kernel
theorem dX11_layFar_128 : decode cX11_layFar 128 = .ok (.aload_n 0, 1) := by decide +kernel
theorem dX11_layFar_129 : decode cX11_layFar 129 = .ok (.getfield 112, 3) := by decide +kernel
theorem dX11_layFar_132 : decode cX11_layFar 132 = .ok (.iload 9, 2) := by decide +kernel
theorem dX11_layFar_134 : decode cX11_layFar 134 = .ok (.iaload, 1) := by decide +kernel
theorem dX11_layFar_135 : decode cX11_layFar 135 = .ok (.ifCond .ge 48, 3) := by decide +kernel
theorem dX11_layFar_138 : decode cX11_layFar 138 = .ok (.aload_n 0, 1) := by decide +kernel
theorem dX11_layFar_139 : decode cX11_layFar 139 = .ok (.getfield 112, 3) := by decide +kernel
theorem dX11_layFar_142 : decode cX11_layFar 142 = .ok (.iload 9, 2) := by decide +kernel
theorem dX11_layFar_144 : decode cX11_layFar 144 = .ok (.aload_n 0, 1) := by decide +kernel
theorem dX11_layFar_145 : decode cX11_layFar 145 = .ok (.getfield 112, 3) := by decide +kernel
theorem dX11_layFar_148 : decode cX11_layFar 148 = .ok (.iload 6, 2) := by decide +kernel
theorem dX11_layFar_150 : decode cX11_layFar 150 = .ok (.iaload, 1) := by decide +kernel
theorem dX11_layFar_151 : decode cX11_layFar 151 = .ok (.iconst 1, 1) := by decide +kernel
theorem dX11_layFar_152 : decode cX11_layFar 152 = .ok (.iadd, 1) := by decide +kernel
theorem dX11_layFar_153 : decode cX11_layFar 153 = .ok (.iastore, 1) := by decide +kernel
theorem dX11_layFar_154 : decode cX11_layFar 154 = .ok (.aload_n 0, 1) := by decide +kernel
theorem dX11_layFar_155 : decode cX11_layFar 155 = .ok (.getfield 115, 3) := by decide +kernel
theorem dX11_layFar_158 : decode cX11_layFar 158 = .ok (.iload 9, 2) := by decide +kernel
theorem dX11_layFar_160 : decode cX11_layFar 160 = .ok (.iconst 0, 1) := by decide +kernel
theorem dX11_layFar_161 : decode cX11_layFar 161 = .ok (.iastore, 1) := by decide +kernel
theorem dX11_layFar_162 : decode cX11_layFar 162 = .ok (.aload_n 0, 1) := by decide +kernel
theorem dX11_layFar_163 : decode cX11_layFar 163 = .ok (.getfield 118, 3) := by decide +kernel
theorem dX11_layFar_166 : decode cX11_layFar 166 = .ok (.aload_n 0, 1) := by decide +kernel
theorem dX11_layFar_167 : decode cX11_layFar 167 = .ok (.getfield 476, 3) := by decide +kernel
theorem dX11_layFar_170 : decode cX11_layFar 170 = .ok (.iload 9, 2) := by decide +kernel
theorem dX11_layFar_172 : decode cX11_layFar 172 = .ok (.iastore, 1) := by decide +kernel
theorem dX11_layFar_173 : decode cX11_layFar 173 = .ok (.aload_n 0, 1) := by decide +kernel
theorem dX11_layFar_174 : decode cX11_layFar 174 = .ok (.dup, 1) := by decide +kernel
theorem dX11_layFar_175 : decode cX11_layFar 175 = .ok (.getfield 476, 3) := by decide +kernel
theorem dX11_layFar_178 : decode cX11_layFar 178 = .ok (.iconst 1, 1) := by decide +kernel
theorem dX11_layFar_179 : decode cX11_layFar 179 = .ok (.iadd, 1) := by decide +kernel
theorem dX11_layFar_180 : decode cX11_layFar 180 = .ok (.putfield 476, 3) := by decide +kernel
theorem dX11_layFar_183 : decode cX11_layFar 183 = .ok (.aload_n 0, 1) := by decide +kernel
theorem dX11_layFar_184 : decode cX11_layFar 184 = .ok (.getfield 112, 3) := by decide +kernel
theorem dX11_layFar_187 : decode cX11_layFar 187 = .ok (.iload 9, 2) := by decide +kernel
theorem dX11_layFar_189 : decode cX11_layFar 189 = .ok (.iaload, 1) := by decide +kernel
theorem dX11_layFar_190 : decode cX11_layFar 190 = .ok (.aload_n 0, 1) := by decide +kernel
theorem dX11_layFar_191 : decode cX11_layFar 191 = .ok (.getfield 112, 3) := by decide +kernel
theorem dX11_layFar_194 : decode cX11_layFar 194 = .ok (.iload 6, 2) := by decide +kernel
theorem dX11_layFar_196 : decode cX11_layFar 196 = .ok (.iaload, 1) := by decide +kernel
theorem dX11_layFar_197 : decode cX11_layFar 197 = .ok (.iconst 1, 1) := by decide +kernel
theorem dX11_layFar_198 : decode cX11_layFar 198 = .ok (.iadd, 1) := by decide +kernel
theorem dX11_layFar_199 : decode cX11_layFar 199 = .ok (.if_icmp .ne 52, 3) := by decide +kernel
theorem dX11_layFar_202 : decode cX11_layFar 202 = .ok (.aload_n 0, 1) := by decide +kernel
theorem dX11_layFar_203 : decode cX11_layFar 203 = .ok (.getfield 115, 3) := by decide +kernel
theorem dX11_layFar_206 : decode cX11_layFar 206 = .ok (.iload 9, 2) := by decide +kernel
theorem dX11_layFar_208 : decode cX11_layFar 208 = .ok (.aload_n 0, 1) := by decide +kernel
theorem dX11_layFar_209 : decode cX11_layFar 209 = .ok (.getfield 115, 3) := by decide +kernel
theorem dX11_layFar_212 : decode cX11_layFar 212 = .ok (.iload 9, 2) := by decide +kernel
theorem dX11_layFar_214 : decode cX11_layFar 214 = .ok (.iaload, 1) := by decide +kernel
theorem dX11_layFar_215 : decode cX11_layFar 215 = .ok (.aload_n 0, 1) := by decide +kernel
theorem dX11_layFar_216 : decode cX11_layFar 216 = .ok (.getfield 115, 3) := by decide +kernel
theorem dX11_layFar_219 : decode cX11_layFar 219 = .ok (.iload 6, 2) := by decide +kernel
theorem dX11_layFar_221 : decode cX11_layFar 221 = .ok (.iaload, 1) := by decide +kernel
theorem dX11_layFar_222 : decode cX11_layFar 222 = .ok (.iadd, 1) := by decide +kernel
theorem dX11_layFar_223 : decode cX11_layFar 223 = .ok (.ldc_w 479, 3) := by decide +kernel
theorem dX11_layFar_226 : decode cX11_layFar 226 = .ok (.if_icmp .ge 21, 3) := by decide +kernel
theorem dX11_layFar_229 : decode cX11_layFar 229 = .ok (.aload_n 0, 1) := by decide +kernel
theorem dX11_layFar_230 : decode cX11_layFar 230 = .ok (.getfield 115, 3) := by decide +kernel
theorem dX11_layFar_233 : decode cX11_layFar 233 = .ok (.iload 9, 2) := by decide +kernel
theorem dX11_layFar_235 : decode cX11_layFar 235 = .ok (.iaload, 1) := by decide +kernel
theorem dX11_layFar_236 : decode cX11_layFar 236 = .ok (.aload_n 0, 1) := by decide +kernel
theorem dX11_layFar_237 : decode cX11_layFar 237 = .ok (.getfield 115, 3) := by decide +kernel
theorem dX11_layFar_240 : decode cX11_layFar 240 = .ok (.iload 6, 2) := by decide +kernel
theorem dX11_layFar_242 : decode cX11_layFar 242 = .ok (.iaload, 1) := by decide +kernel
theorem dX11_layFar_243 : decode cX11_layFar 243 = .ok (.iadd, 1) := by decide +kernel
theorem dX11_layFar_244 : decode cX11_layFar 244 = .ok (.goto 6, 3) := by decide +kernel
theorem dX11_layFar_247 : decode cX11_layFar 247 = .ok (.ldc_w 479, 3) := by decide +kernel
theorem dX11_layFar_250 : decode cX11_layFar 250 = .ok (.iastore, 1) := by decide +kernel
theorem dX11_layFar_251 : decode cX11_layFar 251 = .ok (.iinc 8 1, 3) := by decide +kernel
theorem dX11_layFar_254 : decode cX11_layFar 254 = .ok (.goto (-163), 3) := by decide +kernel
theorem dX11_layFar_257 : decode cX11_layFar 257 = .ok (.iinc 5 1, 3) := by decide +kernel
theorem dX11_layFar_260 : decode cX11_layFar 260 = .ok (.goto (-206), 3) := by decide +kernel
theorem dX11_layFar_263 : decode cX11_layFar 263 = .ok (.return_, 1) := by decide +kernel
theorem dX11_layNow_0 : decode cX11_layNow 0 = .ok (.aload_n 0, 1) := by decide +kernel
theorem dX11_layNow_1 : decode cX11_layNow 1 = .ok (.aload_n 0, 1) := by decide +kernel
theorem dX11_layNow_2 : decode cX11_layNow 2 = .ok (.getfield 94, 3) := by decide +kernel
theorem dX11_layNow_5 : decode cX11_layNow 5 = .ok (.iconst 0, 1) := by decide +kernel
theorem dX11_layNow_6 : decode cX11_layNow 6 = .ok (.iaload, 1) := by decide +kernel
theorem dX11_layNow_7 : decode cX11_layNow 7 = .ok (.iconst (-1), 1) := by decide +kernel
theorem dX11_layNow_8 : decode cX11_layNow 8 = .ok (.aload_n 0, 1) := by decide +kernel
theorem dX11_layNow_9 : decode cX11_layNow 9 = .ok (.getfield 97, 3) := by decide +kernel
theorem dX11_layNow_12 : decode cX11_layNow 12 = .ok (.iconst 0, 1) := by decide +kernel
theorem dX11_layNow_13 : decode cX11_layNow 13 = .ok (.iaload, 1) := by decide +kernel
theorem dX11_layNow_14 : decode cX11_layNow 14 = .ok (.iconst 0, 1) := by decide +kernel
theorem dX11_layNow_15 : decode cX11_layNow 15 = .ok (.invokevirtual 480, 3) := by decide +kernel
theorem dX11_layNow_18 : decode cX11_layNow 18 = .ok (.return_, 1) := by decide +kernel
theorem dX11_fewest_0 : decode cX11_fewest 0 = .ok (.aload_n 0, 1) := by decide +kernel
theorem dX11_fewest_1 : decode cX11_fewest 1 = .ok (.iconst 0, 1) := by decide +kernel
theorem dX11_fewest_2 : decode cX11_fewest 2 = .ok (.putfield 160, 3) := by decide +kernel
theorem dX11_fewest_5 : decode cX11_fewest 5 = .ok (.aload_n 0, 1) := by decide +kernel
theorem dX11_fewest_6 : decode cX11_fewest 6 = .ok (.iload_n 1, 1) := by decide +kernel
theorem dX11_fewest_7 : decode cX11_fewest 7 = .ok (.invokevirtual 462, 3) := by decide +kernel
theorem dX11_fewest_10 : decode cX11_fewest 10 = .ok (.ifCond .ne 5, 3) := by decide +kernel
theorem dX11_fewest_13 : decode cX11_fewest 13 = .ok (.iconst (-1), 1) := by decide +kernel
theorem dX11_fewest_14 : decode cX11_fewest 14 = .ok (.ireturn, 1) := by decide +kernel
theorem dX11_fewest_15 : decode cX11_fewest 15 = .ok (.aload_n 0, 1) := by decide +kernel
theorem dX11_fewest_16 : decode cX11_fewest 16 = .ok (.invokevirtual 484, 3) := by decide +kernel
theorem dX11_fewest_19 : decode cX11_fewest 19 = .ok (.aload_n 0, 1) := by decide +kernel
theorem dX11_fewest_20 : decode cX11_fewest 20 = .ok (.getfield 112, 3) := by decide +kernel
theorem dX11_fewest_23 : decode cX11_fewest 23 = .ok (.iload_n 1, 1) := by decide +kernel
theorem dX11_fewest_24 : decode cX11_fewest 24 = .ok (.iaload, 1) := by decide +kernel
theorem dX11_fewest_25 : decode cX11_fewest 25 = .ok (.ifCond .ge 8, 3) := by decide +kernel
theorem dX11_fewest_28 : decode cX11_fewest 28 = .ok (.bipush (-2), 2) := by decide +kernel
theorem dX11_fewest_30 : decode cX11_fewest 30 = .ok (.goto 9, 3) := by decide +kernel
theorem dX11_fewest_33 : decode cX11_fewest 33 = .ok (.aload_n 0, 1) := by decide +kernel
theorem dX11_fewest_34 : decode cX11_fewest 34 = .ok (.getfield 112, 3) := by decide +kernel
theorem dX11_fewest_37 : decode cX11_fewest 37 = .ok (.iload_n 1, 1) := by decide +kernel
theorem dX11_fewest_38 : decode cX11_fewest 38 = .ok (.iaload, 1) := by decide +kernel
theorem dX11_fewest_39 : decode cX11_fewest 39 = .ok (.ireturn, 1) := by decide +kernel
theorem dX11_first_0 : decode cX11_first 0 = .ok (.aload_n 0, 1) := by decide +kernel
theorem dX11_first_1 : decode cX11_first 1 = .ok (.iconst 0, 1) := by decide +kernel
theorem dX11_first_2 : decode cX11_first 2 = .ok (.putfield 160, 3) := by decide +kernel
theorem dX11_first_5 : decode cX11_first 5 = .ok (.aload_n 0, 1) := by decide +kernel
theorem dX11_first_6 : decode cX11_first 6 = .ok (.iload_n 1, 1) := by decide +kernel
theorem dX11_first_7 : decode cX11_first 7 = .ok (.invokevirtual 462, 3) := by decide +kernel
theorem dX11_first_10 : decode cX11_first 10 = .ok (.ifCond .ne 5, 3) := by decide +kernel
theorem dX11_first_13 : decode cX11_first 13 = .ok (.iconst (-1), 1) := by decide +kernel
theorem dX11_first_14 : decode cX11_first 14 = .ok (.ireturn, 1) := by decide +kernel
theorem dX11_first_15 : decode cX11_first 15 = .ok (.aload_n 0, 1) := by decide +kernel
theorem dX11_first_16 : decode cX11_first 16 = .ok (.iload_n 1, 1) := by decide +kernel
theorem dX11_first_17 : decode cX11_first 17 = .ok (.iconst (-1), 1) := by decide +kernel
theorem dX11_first_18 : decode cX11_first 18 = .ok (.aload_n 0, 1) := by decide +kernel
theorem dX11_first_19 : decode cX11_first 19 = .ok (.getfield 97, 3) := by decide +kernel
theorem dX11_first_22 : decode cX11_first 22 = .ok (.iconst 0, 1) := by decide +kernel
theorem dX11_first_23 : decode cX11_first 23 = .ok (.iaload, 1) := by decide +kernel
theorem dX11_first_24 : decode cX11_first 24 = .ok (.iconst 0, 1) := by decide +kernel
theorem dX11_first_25 : decode cX11_first 25 = .ok (.invokevirtual 480, 3) := by decide +kernel
theorem dX11_first_28 : decode cX11_first 28 = .ok (.aload_n 0, 1) := by decide +kernel
theorem dX11_first_29 : decode cX11_first 29 = .ok (.getfield 112, 3) := by decide +kernel
theorem dX11_first_32 : decode cX11_first 32 = .ok (.aload_n 0, 1) := by decide +kernel
theorem dX11_first_33 : decode cX11_first 33 = .ok (.getfield 94, 3) := by decide +kernel
theorem dX11_first_36 : decode cX11_first 36 = .ok (.iconst 0, 1) := by decide +kernel
theorem dX11_first_37 : decode cX11_first 37 = .ok (.iaload, 1) := by decide +kernel
theorem dX11_first_38 : decode cX11_first 38 = .ok (.iaload, 1) := by decide +kernel
theorem dX11_first_39 : decode cX11_first 39 = .ok (.istore_n 2, 1) := by decide +kernel
theorem dX11_first_40 : decode cX11_first 40 = .ok (.aload_n 0, 1) := by decide +kernel
theorem dX11_first_41 : decode cX11_first 41 = .ok (.getfield 88, 3) := by decide +kernel
theorem dX11_first_44 : decode cX11_first 44 = .ok (.aload_n 0, 1) := by decide +kernel
theorem dX11_first_45 : decode cX11_first 45 = .ok (.getfield 94, 3) := by decide +kernel
theorem dX11_first_48 : decode cX11_first 48 = .ok (.iconst 0, 1) := by decide +kernel
theorem dX11_first_49 : decode cX11_first 49 = .ok (.iaload, 1) := by decide +kernel
theorem dX11_first_50 : decode cX11_first 50 = .ok (.iaload, 1) := by decide +kernel
theorem dX11_first_51 : decode cX11_first 51 = .ok (.aload_n 0, 1) := by decide +kernel
theorem dX11_first_52 : decode cX11_first 52 = .ok (.getfield 97, 3) := by decide +kernel
theorem dX11_first_55 : decode cX11_first 55 = .ok (.iconst 0, 1) := by decide +kernel
theorem dX11_first_56 : decode cX11_first 56 = .ok (.iaload, 1) := by decide +kernel
theorem dX11_first_57 : decode cX11_first 57 = .ok (.iconst (-1), 1) := by decide +kernel
theorem dX11_first_58 : decode cX11_first 58 = .ok (.ixor, 1) := by decide +kernel
theorem dX11_first_59 : decode cX11_first 59 = .ok (.iand, 1) := by decide +kernel
theorem dX11_first_60 : decode cX11_first 60 = .ok (.istore_n 3, 1) := by decide +kernel
theorem dX11_first_61 : decode cX11_first 61 = .ok (.iconst 0, 1) := by decide +kernel
theorem dX11_first_62 : decode cX11_first 62 = .ok (.istore 4, 2) := by decide +kernel
theorem dX11_first_64 : decode cX11_first 64 = .ok (.iload 4, 2) := by decide +kernel
theorem dX11_first_66 : decode cX11_first 66 = .ok (.aload_n 0, 1) := by decide +kernel
theorem dX11_first_67 : decode cX11_first 67 = .ok (.getfield 240, 3) := by decide +kernel
theorem dX11_first_70 : decode cX11_first 70 = .ok (.if_icmp .ge 47, 3) := by decide +kernel
theorem dX11_first_73 : decode cX11_first 73 = .ok (.iload_n 2, 1) := by decide +kernel
theorem dX11_first_74 : decode cX11_first 74 = .ok (.ifCond .le 43, 3) := by decide +kernel
theorem dX11_first_77 : decode cX11_first 77 = .ok (.iload_n 3, 1) := by decide +kernel
theorem dX11_first_78 : decode cX11_first 78 = .ok (.iload 4, 2) := by decide +kernel
theorem dX11_first_80 : decode cX11_first 80 = .ok (.invokestatic 372, 3) := by decide +kernel
theorem dX11_first_83 : decode cX11_first 83 = .ok (.ifCond .eq 28, 3) := by decide +kernel
theorem dX11_first_86 : decode cX11_first 86 = .ok (.aload_n 0, 1) := by decide +kernel
theorem dX11_first_87 : decode cX11_first 87 = .ok (.getfield 112, 3) := by decide +kernel
theorem dX11_first_90 : decode cX11_first 90 = .ok (.aload_n 0, 1) := by decide +kernel
theorem dX11_first_91 : decode cX11_first 91 = .ok (.getfield 94, 3) := by decide +kernel
theorem dX11_first_94 : decode cX11_first 94 = .ok (.iconst 0, 1) := by decide +kernel
theorem dX11_first_95 : decode cX11_first 95 = .ok (.iaload, 1) := by decide +kernel
theorem dX11_first_96 : decode cX11_first 96 = .ok (.iconst 1, 1) := by decide +kernel
theorem dX11_first_97 : decode cX11_first 97 = .ok (.iload 4, 2) := by decide +kernel
theorem dX11_first_99 : decode cX11_first 99 = .ok (.ishl, 1) := by decide +kernel
theorem dX11_first_100 : decode cX11_first 100 = .ok (.ixor, 1) := by decide +kernel
theorem dX11_first_101 : decode cX11_first 101 = .ok (.iaload, 1) := by decide +kernel
theorem dX11_first_102 : decode cX11_first 102 = .ok (.iload_n 2, 1) := by decide +kernel
theorem dX11_first_103 : decode cX11_first 103 = .ok (.iconst 1, 1) := by decide +kernel
theorem dX11_first_104 : decode cX11_first 104 = .ok (.isub, 1) := by decide +kernel
theorem dX11_first_105 : decode cX11_first 105 = .ok (.if_icmp .ne 6, 3) := by decide +kernel
theorem dX11_first_108 : decode cX11_first 108 = .ok (.iload 4, 2) := by decide +kernel
theorem dX11_first_110 : decode cX11_first 110 = .ok (.ireturn, 1) := by decide +kernel
theorem dX11_first_111 : decode cX11_first 111 = .ok (.iinc 4 1, 3) := by decide +kernel
theorem dX11_first_114 : decode cX11_first 114 = .ok (.goto (-50), 3) := by decide +kernel
theorem dX11_first_117 : decode cX11_first 117 = .ok (.bipush (-2), 2) := by decide +kernel
theorem dX11_first_119 : decode cX11_first 119 = .ok (.ireturn, 1) := by decide +kernel
theorem dX11_ways_0 : decode cX11_ways 0 = .ok (.aload_n 0, 1) := by decide +kernel
theorem dX11_ways_1 : decode cX11_ways 1 = .ok (.iconst 0, 1) := by decide +kernel
theorem dX11_ways_2 : decode cX11_ways 2 = .ok (.putfield 160, 3) := by decide +kernel
theorem dX11_ways_5 : decode cX11_ways 5 = .ok (.aload_n 0, 1) := by decide +kernel
theorem dX11_ways_6 : decode cX11_ways 6 = .ok (.iload_n 1, 1) := by decide +kernel
theorem dX11_ways_7 : decode cX11_ways 7 = .ok (.invokevirtual 462, 3) := by decide +kernel
theorem dX11_ways_10 : decode cX11_ways 10 = .ok (.ifCond .ne 5, 3) := by decide +kernel
theorem dX11_ways_13 : decode cX11_ways 13 = .ok (.iconst (-1), 1) := by decide +kernel
theorem dX11_ways_14 : decode cX11_ways 14 = .ok (.ireturn, 1) := by decide +kernel
theorem dX11_ways_15 : decode cX11_ways 15 = .ok (.aload_n 0, 1) := by decide +kernel
theorem dX11_ways_16 : decode cX11_ways 16 = .ok (.invokevirtual 484, 3) := by decide +kernel
theorem dX11_ways_19 : decode cX11_ways 19 = .ok (.aload_n 0, 1) := by decide +kernel
theorem dX11_ways_20 : decode cX11_ways 20 = .ok (.getfield 112, 3) := by decide +kernel
theorem dX11_ways_23 : decode cX11_ways 23 = .ok (.iload_n 1, 1) := by decide +kernel
theorem dX11_ways_24 : decode cX11_ways 24 = .ok (.iaload, 1) := by decide +kernel
theorem dX11_ways_25 : decode cX11_ways 25 = .ok (.ifCond .ge 7, 3) := by decide +kernel
theorem dX11_ways_28 : decode cX11_ways 28 = .ok (.iconst 0, 1) := by decide +kernel
theorem dX11_ways_29 : decode cX11_ways 29 = .ok (.goto 9, 3) := by decide +kernel
theorem dX11_ways_32 : decode cX11_ways 32 = .ok (.aload_n 0, 1) := by decide +kernel
theorem dX11_ways_33 : decode cX11_ways 33 = .ok (.getfield 115, 3) := by decide +kernel
theorem dX11_ways_36 : decode cX11_ways 36 = .ok (.iload_n 1, 1) := by decide +kernel
theorem dX11_ways_37 : decode cX11_ways 37 = .ok (.iaload, 1) := by decide +kernel
theorem dX11_ways_38 : decode cX11_ways 38 = .ok (.ireturn, 1) := by decide +kernel
theorem dX11_reach_0 : decode cX11_reach 0 = .ok (.aload_n 0, 1) := by decide +kernel
theorem dX11_reach_1 : decode cX11_reach 1 = .ok (.iconst 0, 1) := by decide +kernel
theorem dX11_reach_2 : decode cX11_reach 2 = .ok (.putfield 160, 3) := by decide +kernel
theorem dX11_reach_5 : decode cX11_reach 5 = .ok (.aload_n 0, 1) := by decide +kernel
theorem dX11_reach_6 : decode cX11_reach 6 = .ok (.invokevirtual 484, 3) := by decide +kernel
theorem dX11_reach_9 : decode cX11_reach 9 = .ok (.aload_n 0, 1) := by decide +kernel
theorem dX11_reach_10 : decode cX11_reach 10 = .ok (.getfield 476, 3) := by decide +kernel
theorem dX11_reach_13 : decode cX11_reach 13 = .ok (.ireturn, 1) := by decide +kernel
theorem dX11_farthest_0 : decode cX11_farthest 0 = .ok (.aload_n 0, 1) := by decide +kernel
theorem dX11_farthest_1 : decode cX11_farthest 1 = .ok (.iconst 0, 1) := by decide +kernel
theorem dX11_farthest_2 : decode cX11_farthest 2 = .ok (.putfield 160, 3) := by decide +kernel
theorem dX11_farthest_5 : decode cX11_farthest 5 = .ok (.iload_n 1, 1) := by decide +kernel
theorem dX11_farthest_6 : decode cX11_farthest 6 = .ok (.iconst 0, 1) := by decide +kernel
theorem dX11_farthest_7 : decode cX11_farthest 7 = .ok (.iconst 1, 1) := by decide +kernel
