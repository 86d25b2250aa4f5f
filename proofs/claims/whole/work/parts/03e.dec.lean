theorem dX11_number_18 : decode cX11_number 18 = .ok (.iload_n 1, 1) := by decide +kernel
theorem dX11_number_19 : decode cX11_number 19 = .ok (.iload_n 2, 1) := by decide +kernel
theorem dX11_number_20 : decode cX11_number 20 = .ok (.invokestatic 205, 3) := by decide +kernel
theorem dX11_number_23 : decode cX11_number 23 = .ok (.ifCond .ne 9, 3) := by decide +kernel
theorem dX11_number_26 : decode cX11_number 26 = .ok (.aload_n 0, 1) := by decide +kernel
theorem dX11_number_27 : decode cX11_number 27 = .ok (.iconst 2, 1) := by decide +kernel
theorem dX11_number_28 : decode cX11_number 28 = .ok (.invokevirtual 202, 3) := by decide +kernel
theorem dX11_number_31 : decode cX11_number 31 = .ok (.ireturn, 1) := by decide +kernel
theorem dX11_number_32 : decode cX11_number 32 = .ok (.aload_n 0, 1) := by decide +kernel
theorem dX11_number_33 : decode cX11_number 33 = .ok (.aload_n 0, 1) := by decide +kernel
theorem dX11_number_34 : decode cX11_number 34 = .ok (.getfield 189, 3) := by decide +kernel
theorem dX11_number_37 : decode cX11_number 37 = .ok (.putfield 209, 3) := by decide +kernel
theorem dX11_number_40 : decode cX11_number 40 = .ok (.aload_n 0, 1) := by decide +kernel
theorem dX11_number_41 : decode cX11_number 41 = .ok (.invokevirtual 212, 3) := by decide +kernel
theorem dX11_number_44 : decode cX11_number 44 = .ok (.iconst 1, 1) := by decide +kernel
theorem dX11_number_45 : decode cX11_number 45 = .ok (.ireturn, 1) := by decide +kernel
theorem dX11_plain_0 : decode cX11_plain 0 = .ok (.aload_n 0, 1) := by decide +kernel
theorem dX11_plain_1 : decode cX11_plain 1 = .ok (.iconst 0, 1) := by decide +kernel
theorem dX11_plain_2 : decode cX11_plain 2 = .ok (.putfield 222, 3) := by decide +kernel
theorem dX11_plain_5 : decode cX11_plain 5 = .ok (.aload_n 0, 1) := by decide +kernel
theorem dX11_plain_6 : decode cX11_plain 6 = .ok (.iconst 0, 1) := by decide +kernel
theorem dX11_plain_7 : decode cX11_plain 7 = .ok (.putfield 225, 3) := by decide +kernel
theorem dX11_plain_10 : decode cX11_plain 10 = .ok (.aload_n 0, 1) := by decide +kernel
theorem dX11_plain_11 : decode cX11_plain 11 = .ok (.iconst 0, 1) := by decide +kernel
theorem dX11_plain_12 : decode cX11_plain 12 = .ok (.putfield 228, 3) := by decide +kernel
theorem dX11_plain_15 : decode cX11_plain 15 = .ok (.aload_n 0, 1) := by decide +kernel
theorem dX11_plain_16 : decode cX11_plain 16 = .ok (.iconst 0, 1) := by decide +kernel
theorem dX11_plain_17 : decode cX11_plain 17 = .ok (.putfield 231, 3) := by decide +kernel
theorem dX11_plain_20 : decode cX11_plain 20 = .ok (.aload_n 0, 1) := by decide +kernel
theorem dX11_plain_21 : decode cX11_plain 21 = .ok (.iconst 0, 1) := by decide +kernel
theorem dX11_plain_22 : decode cX11_plain 22 = .ok (.putfield 234, 3) := by decide +kernel
theorem dX11_plain_25 : decode cX11_plain 25 = .ok (.aload_n 0, 1) := by decide +kernel
theorem dX11_plain_26 : decode cX11_plain 26 = .ok (.iconst 0, 1) := by decide +kernel
theorem dX11_plain_27 : decode cX11_plain 27 = .ok (.putfield 237, 3) := by decide +kernel
theorem dX11_plain_30 : decode cX11_plain 30 = .ok (.iconst 0, 1) := by decide +kernel
theorem dX11_plain_31 : decode cX11_plain 31 = .ok (.istore_n 1, 1) := by decide +kernel
theorem dX11_plain_32 : decode cX11_plain 32 = .ok (.iload_n 1, 1) := by decide +kernel
theorem dX11_plain_33 : decode cX11_plain 33 = .ok (.iconst 2, 1) := by decide +kernel
theorem dX11_plain_34 : decode cX11_plain 34 = .ok (.if_icmp .ge 25, 3) := by decide +kernel
theorem dX11_plain_37 : decode cX11_plain 37 = .ok (.aload_n 0, 1) := by decide +kernel
theorem dX11_plain_38 : decode cX11_plain 38 = .ok (.getfield 20, 3) := by decide +kernel
theorem dX11_plain_41 : decode cX11_plain 41 = .ok (.iload_n 1, 1) := by decide +kernel
theorem dX11_plain_42 : decode cX11_plain 42 = .ok (.iconst 0, 1) := by decide +kernel
theorem dX11_plain_43 : decode cX11_plain 43 = .ok (.bastore, 1) := by decide +kernel
theorem dX11_plain_44 : decode cX11_plain 44 = .ok (.aload_n 0, 1) := by decide +kernel
theorem dX11_plain_45 : decode cX11_plain 45 = .ok (.getfield 24, 3) := by decide +kernel
theorem dX11_plain_48 : decode cX11_plain 48 = .ok (.iconst 2, 1) := by decide +kernel
theorem dX11_plain_49 : decode cX11_plain 49 = .ok (.iload_n 1, 1) := by decide +kernel
theorem dX11_plain_50 : decode cX11_plain 50 = .ok (.iadd, 1) := by decide +kernel
theorem dX11_plain_51 : decode cX11_plain 51 = .ok (.iconst 0, 1) := by decide +kernel
theorem dX11_plain_52 : decode cX11_plain 52 = .ok (.iastore, 1) := by decide +kernel
theorem dX11_plain_53 : decode cX11_plain 53 = .ok (.iinc 1 1, 3) := by decide +kernel
theorem dX11_plain_56 : decode cX11_plain 56 = .ok (.goto (-24), 3) := by decide +kernel
theorem dX11_plain_59 : decode cX11_plain 59 = .ok (.bipush 8, 2) := by decide +kernel
theorem dX11_plain_61 : decode cX11_plain 61 = .ok (.istore_n 1, 1) := by decide +kernel
theorem dX11_plain_62 : decode cX11_plain 62 = .ok (.iload_n 1, 1) := by decide +kernel
theorem dX11_plain_63 : decode cX11_plain 63 = .ok (.bipush 16, 2) := by decide +kernel
theorem dX11_plain_65 : decode cX11_plain 65 = .ok (.if_icmp .ge 23, 3) := by decide +kernel
theorem dX11_plain_68 : decode cX11_plain 68 = .ok (.aload_n 0, 1) := by decide +kernel
theorem dX11_plain_69 : decode cX11_plain 69 = .ok (.getfield 33, 3) := by decide +kernel
theorem dX11_plain_72 : decode cX11_plain 72 = .ok (.iload_n 1, 1) := by decide +kernel
theorem dX11_plain_73 : decode cX11_plain 73 = .ok (.iconst (-1), 1) := by decide +kernel
theorem dX11_plain_74 : decode cX11_plain 74 = .ok (.iastore, 1) := by decide +kernel
theorem dX11_plain_75 : decode cX11_plain 75 = .ok (.aload_n 0, 1) := by decide +kernel
theorem dX11_plain_76 : decode cX11_plain 76 = .ok (.getfield 36, 3) := by decide +kernel
theorem dX11_plain_79 : decode cX11_plain 79 = .ok (.iload_n 1, 1) := by decide +kernel
theorem dX11_plain_80 : decode cX11_plain 80 = .ok (.iconst 0, 1) := by decide +kernel
theorem dX11_plain_81 : decode cX11_plain 81 = .ok (.iastore, 1) := by decide +kernel
theorem dX11_plain_82 : decode cX11_plain 82 = .ok (.iinc 1 1, 3) := by decide +kernel
theorem dX11_plain_85 : decode cX11_plain 85 = .ok (.goto (-23), 3) := by decide +kernel
theorem dX11_plain_88 : decode cX11_plain 88 = .ok (.iconst 3, 1) := by decide +kernel
theorem dX11_plain_89 : decode cX11_plain 89 = .ok (.istore_n 1, 1) := by decide +kernel
theorem dX11_plain_90 : decode cX11_plain 90 = .ok (.iload_n 1, 1) := by decide +kernel
theorem dX11_plain_91 : decode cX11_plain 91 = .ok (.bipush 6, 2) := by decide +kernel
theorem dX11_plain_93 : decode cX11_plain 93 = .ok (.if_icmp .ge 16, 3) := by decide +kernel
theorem dX11_plain_96 : decode cX11_plain 96 = .ok (.aload_n 0, 1) := by decide +kernel
theorem dX11_plain_97 : decode cX11_plain 97 = .ok (.getfield 57, 3) := by decide +kernel
theorem dX11_plain_100 : decode cX11_plain 100 = .ok (.iload_n 1, 1) := by decide +kernel
theorem dX11_plain_101 : decode cX11_plain 101 = .ok (.iconst 0, 1) := by decide +kernel
theorem dX11_plain_102 : decode cX11_plain 102 = .ok (.bastore, 1) := by decide +kernel
theorem dX11_plain_103 : decode cX11_plain 103 = .ok (.iinc 1 1, 3) := by decide +kernel
theorem dX11_plain_106 : decode cX11_plain 106 = .ok (.goto (-16), 3) := by decide +kernel
theorem dX11_plain_109 : decode cX11_plain 109 = .ok (.return_, 1) := by decide +kernel
theorem dX11_copies_0 : decode cX11_copies 0 = .ok (.iconst 0, 1) := by decide +kernel
theorem dX11_copies_1 : decode cX11_copies 1 = .ok (.istore_n 2, 1) := by decide +kernel
theorem dX11_copies_2 : decode cX11_copies 2 = .ok (.iload_n 2, 1) := by decide +kernel
theorem dX11_copies_3 : decode cX11_copies 3 = .ok (.iload_n 1, 1) := by decide +kernel
theorem dX11_copies_4 : decode cX11_copies 4 = .ok (.if_icmp .ge 17, 3) := by decide +kernel
theorem dX11_copies_7 : decode cX11_copies 7 = .ok (.aload_n 0, 1) := by decide +kernel
theorem dX11_copies_8 : decode cX11_copies 8 = .ok (.iload_n 2, 1) := by decide +kernel
theorem dX11_copies_9 : decode cX11_copies 9 = .ok (.aload_n 0, 1) := by decide +kernel
theorem dX11_copies_10 : decode cX11_copies 10 = .ok (.iload_n 1, 1) := by decide +kernel
theorem dX11_copies_11 : decode cX11_copies 11 = .ok (.iload_n 2, 1) := by decide +kernel
theorem dX11_copies_12 : decode cX11_copies 12 = .ok (.iadd, 1) := by decide +kernel
theorem dX11_copies_13 : decode cX11_copies 13 = .ok (.iaload, 1) := by decide +kernel
theorem dX11_copies_14 : decode cX11_copies 14 = .ok (.iastore, 1) := by decide +kernel
theorem dX11_copies_15 : decode cX11_copies 15 = .ok (.iinc 2 1, 3) := by decide +kernel
theorem dX11_copies_18 : decode cX11_copies 18 = .ok (.goto (-16), 3) := by decide +kernel
theorem dX11_copies_21 : decode cX11_copies 21 = .ok (.return_, 1) := by decide +kernel
theorem dX11_keepText_0 : decode cX11_keepText 0 = .ok (.aload_n 0, 1) := by decide +kernel
theorem dX11_keepText_1 : decode cX11_keepText 1 = .ok (.aload_n 0, 1) := by decide +kernel
theorem dX11_keepText_2 : decode cX11_keepText 2 = .ok (.getfield 222, 3) := by decide +kernel
theorem dX11_keepText_5 : decode cX11_keepText 5 = .ok (.putfield 240, 3) := by decide +kernel
theorem dX11_keepText_8 : decode cX11_keepText 8 = .ok (.aload_n 0, 1) := by decide +kernel
theorem dX11_keepText_9 : decode cX11_keepText 9 = .ok (.aload_n 0, 1) := by decide +kernel
theorem dX11_keepText_10 : decode cX11_keepText 10 = .ok (.getfield 225, 3) := by decide +kernel
theorem dX11_keepText_13 : decode cX11_keepText 13 = .ok (.putfield 243, 3) := by decide +kernel
theorem dX11_keepText_16 : decode cX11_keepText 16 = .ok (.aload_n 0, 1) := by decide +kernel
theorem dX11_keepText_17 : decode cX11_keepText 17 = .ok (.aload_n 0, 1) := by decide +kernel
theorem dX11_keepText_18 : decode cX11_keepText 18 = .ok (.getfield 228, 3) := by decide +kernel
theorem dX11_keepText_21 : decode cX11_keepText 21 = .ok (.putfield 246, 3) := by decide +kernel
theorem dX11_keepText_24 : decode cX11_keepText 24 = .ok (.aload_n 0, 1) := by decide +kernel
theorem dX11_keepText_25 : decode cX11_keepText 25 = .ok (.aload_n 0, 1) := by decide +kernel
theorem dX11_keepText_26 : decode cX11_keepText 26 = .ok (.getfield 237, 3) := by decide +kernel
theorem dX11_keepText_29 : decode cX11_keepText 29 = .ok (.putfield 249, 3) := by decide +kernel
theorem dX11_keepText_32 : decode cX11_keepText 32 = .ok (.aload_n 0, 1) := by decide +kernel
theorem dX11_keepText_33 : decode cX11_keepText 33 = .ok (.aload_n 0, 1) := by decide +kernel
theorem dX11_keepText_34 : decode cX11_keepText 34 = .ok (.getfield 234, 3) := by decide +kernel
theorem dX11_keepText_37 : decode cX11_keepText 37 = .ok (.putfield 252, 3) := by decide +kernel
theorem dX11_keepText_40 : decode cX11_keepText 40 = .ok (.aload_n 0, 1) := by decide +kernel
theorem dX11_keepText_41 : decode cX11_keepText 41 = .ok (.getfield 24, 3) := by decide +kernel
theorem dX11_keepText_44 : decode cX11_keepText 44 = .ok (.iconst 2, 1) := by decide +kernel
theorem dX11_keepText_45 : decode cX11_keepText 45 = .ok (.invokestatic 255, 3) := by decide +kernel
theorem dX11_keepText_48 : decode cX11_keepText 48 = .ok (.aload_n 0, 1) := by decide +kernel
theorem dX11_keepText_49 : decode cX11_keepText 49 = .ok (.getfield 27, 3) := by decide +kernel
theorem dX11_keepText_52 : decode cX11_keepText 52 = .ok (.bipush 8, 2) := by decide +kernel
theorem dX11_keepText_54 : decode cX11_keepText 54 = .ok (.invokestatic 255, 3) := by decide +kernel
theorem dX11_keepText_57 : decode cX11_keepText 57 = .ok (.aload_n 0, 1) := by decide +kernel
theorem dX11_keepText_58 : decode cX11_keepText 58 = .ok (.getfield 30, 3) := by decide +kernel
theorem dX11_keepText_61 : decode cX11_keepText 61 = .ok (.bipush 8, 2) := by decide +kernel
theorem dX11_keepText_63 : decode cX11_keepText 63 = .ok (.invokestatic 255, 3) := by decide +kernel
theorem dX11_keepText_66 : decode cX11_keepText 66 = .ok (.aload_n 0, 1) := by decide +kernel
theorem dX11_keepText_67 : decode cX11_keepText 67 = .ok (.getfield 33, 3) := by decide +kernel
theorem dX11_keepText_70 : decode cX11_keepText 70 = .ok (.bipush 8, 2) := by decide +kernel
theorem dX11_keepText_72 : decode cX11_keepText 72 = .ok (.invokestatic 255, 3) := by decide +kernel
theorem dX11_keepText_75 : decode cX11_keepText 75 = .ok (.aload_n 0, 1) := by decide +kernel
theorem dX11_keepText_76 : decode cX11_keepText 76 = .ok (.getfield 36, 3) := by decide +kernel
theorem dX11_keepText_79 : decode cX11_keepText 79 = .ok (.bipush 8, 2) := by decide +kernel
theorem dX11_keepText_81 : decode cX11_keepText 81 = .ok (.invokestatic 255, 3) := by decide +kernel
theorem dX11_keepText_84 : decode cX11_keepText 84 = .ok (.aload_n 0, 1) := by decide +kernel
theorem dX11_keepText_85 : decode cX11_keepText 85 = .ok (.getfield 39, 3) := by decide +kernel
theorem dX11_keepText_88 : decode cX11_keepText 88 = .ok (.bipush 16, 2) := by decide +kernel
theorem dX11_keepText_90 : decode cX11_keepText 90 = .ok (.invokestatic 255, 3) := by decide +kernel
theorem dX11_keepText_93 : decode cX11_keepText 93 = .ok (.aload_n 0, 1) := by decide +kernel
theorem dX11_keepText_94 : decode cX11_keepText 94 = .ok (.getfield 42, 3) := by decide +kernel
theorem dX11_keepText_97 : decode cX11_keepText 97 = .ok (.bipush 16, 2) := by decide +kernel
theorem dX11_keepText_99 : decode cX11_keepText 99 = .ok (.invokestatic 255, 3) := by decide +kernel
theorem dX11_keepText_102 : decode cX11_keepText 102 = .ok (.aload_n 0, 1) := by decide +kernel
theorem dX11_keepText_103 : decode cX11_keepText 103 = .ok (.getfield 45, 3) := by decide +kernel
theorem dX11_keepText_106 : decode cX11_keepText 106 = .ok (.iconst 4, 1) := by decide +kernel
theorem dX11_keepText_107 : decode cX11_keepText 107 = .ok (.invokestatic 255, 3) := by decide +kernel
theorem dX11_keepText_110 : decode cX11_keepText 110 = .ok (.aload_n 0, 1) := by decide +kernel
theorem dX11_keepText_111 : decode cX11_keepText 111 = .ok (.getfield 48, 3) := by decide +kernel
theorem dX11_keepText_114 : decode cX11_keepText 114 = .ok (.bipush 64, 2) := by decide +kernel
theorem dX11_keepText_116 : decode cX11_keepText 116 = .ok (.invokestatic 255, 3) := by decide +kernel
theorem dX11_keepText_119 : decode cX11_keepText 119 = .ok (.aload_n 0, 1) := by decide +kernel
theorem dX11_keepText_120 : decode cX11_keepText 120 = .ok (.getfield 51, 3) := by decide +kernel
theorem dX11_keepText_123 : decode cX11_keepText 123 = .ok (.bipush 64, 2) := by decide +kernel
theorem dX11_keepText_125 : decode cX11_keepText 125 = .ok (.invokestatic 255, 3) := by decide +kernel
theorem dX11_keepText_128 : decode cX11_keepText 128 = .ok (.aload_n 0, 1) := by decide +kernel
theorem dX11_keepText_129 : decode cX11_keepText 129 = .ok (.getfield 54, 3) := by decide +kernel
theorem dX11_keepText_132 : decode cX11_keepText 132 = .ok (.bipush 64, 2) := by decide +kernel
theorem dX11_keepText_134 : decode cX11_keepText 134 = .ok (.invokestatic 255, 3) := by decide +kernel
theorem dX11_keepText_137 : decode cX11_keepText 137 = .ok (.iconst 0, 1) := by decide +kernel
theorem dX11_keepText_138 : decode cX11_keepText 138 = .ok (.istore_n 1, 1) := by decide +kernel
theorem dX11_keepText_139 : decode cX11_keepText 139 = .ok (.iload_n 1, 1) := by decide +kernel
theorem dX11_keepText_140 : decode cX11_keepText 140 = .ok (.iconst 3, 1) := by decide +kernel
theorem dX11_keepText_141 : decode cX11_keepText 141 = .ok (.if_icmp .ge 23, 3) := by decide +kernel
theorem dX11_keepText_144 : decode cX11_keepText 144 = .ok (.aload_n 0, 1) := by decide +kernel
theorem dX11_keepText_145 : decode cX11_keepText 145 = .ok (.getfield 57, 3) := by decide +kernel
theorem dX11_keepText_148 : decode cX11_keepText 148 = .ok (.iload_n 1, 1) := by decide +kernel
theorem dX11_keepText_149 : decode cX11_keepText 149 = .ok (.aload_n 0, 1) := by decide +kernel
theorem dX11_keepText_150 : decode cX11_keepText 150 = .ok (.getfield 57, 3) := by decide +kernel
theorem dX11_keepText_153 : decode cX11_keepText 153 = .ok (.iconst 3, 1) := by decide +kernel
theorem dX11_keepText_154 : decode cX11_keepText 154 = .ok (.iload_n 1, 1) := by decide +kernel
theorem dX11_keepText_155 : decode cX11_keepText 155 = .ok (.iadd, 1) := by decide +kernel
theorem dX11_keepText_156 : decode cX11_keepText 156 = .ok (.baload, 1) := by decide +kernel
theorem dX11_keepText_157 : decode cX11_keepText 157 = .ok (.bastore, 1) := by decide +kernel
theorem dX11_keepText_158 : decode cX11_keepText 158 = .ok (.iinc 1 1, 3) := by decide +kernel
theorem dX11_keepText_161 : decode cX11_keepText 161 = .ok (.goto (-22), 3) := by decide +kernel
theorem dX11_keepText_164 : decode cX11_keepText 164 = .ok (.aload_n 0, 1) := by decide +kernel
theorem dX11_keepText_165 : decode cX11_keepText 165 = .ok (.getfield 60, 3) := by decide +kernel
theorem dX11_keepText_168 : decode cX11_keepText 168 = .ok (.iconst 3, 1) := by decide +kernel
theorem dX11_keepText_169 : decode cX11_keepText 169 = .ok (.invokestatic 255, 3) := by decide +kernel
theorem dX11_keepText_172 : decode cX11_keepText 172 = .ok (.aload_n 0, 1) := by decide +kernel
theorem dX11_keepText_173 : decode cX11_keepText 173 = .ok (.getfield 63, 3) := by decide +kernel
theorem dX11_keepText_176 : decode cX11_keepText 176 = .ok (.iconst 3, 1) := by decide +kernel
theorem dX11_keepText_177 : decode cX11_keepText 177 = .ok (.invokestatic 255, 3) := by decide +kernel
theorem dX11_keepText_180 : decode cX11_keepText 180 = .ok (.aload_n 0, 1) := by decide +kernel
theorem dX11_keepText_181 : decode cX11_keepText 181 = .ok (.getfield 66, 3) := by decide +kernel
theorem dX11_keepText_184 : decode cX11_keepText 184 = .ok (.bipush 64, 2) := by decide +kernel
theorem dX11_keepText_186 : decode cX11_keepText 186 = .ok (.invokestatic 255, 3) := by decide +kernel
theorem dX11_keepText_189 : decode cX11_keepText 189 = .ok (.aload_n 0, 1) := by decide +kernel
theorem dX11_keepText_190 : decode cX11_keepText 190 = .ok (.getfield 69, 3) := by decide +kernel
theorem dX11_keepText_193 : decode cX11_keepText 193 = .ok (.bipush 64, 2) := by decide +kernel
theorem dX11_keepText_195 : decode cX11_keepText 195 = .ok (.invokestatic 255, 3) := by decide +kernel
theorem dX11_keepText_198 : decode cX11_keepText 198 = .ok (.aload_n 0, 1) := by decide +kernel
theorem dX11_keepText_199 : decode cX11_keepText 199 = .ok (.getfield 72, 3) := by decide +kernel
theorem dX11_keepText_202 : decode cX11_keepText 202 = .ok (.bipush 64, 2) := by decide +kernel
theorem dX11_keepText_204 : decode cX11_keepText 204 = .ok (.invokestatic 255, 3) := by decide +kernel
theorem dX11_keepText_207 : decode cX11_keepText 207 = .ok (.aload_n 0, 1) := by decide +kernel
theorem dX11_keepText_208 : decode cX11_keepText 208 = .ok (.invokevirtual 259, 3) := by decide +kernel
theorem dX11_keepText_211 : decode cX11_keepText 211 = .ok (.aload_n 0, 1) := by decide +kernel
theorem dX11_keepText_212 : decode cX11_keepText 212 = .ok (.invokevirtual 262, 3) := by decide +kernel
theorem dX11_keepText_215 : decode cX11_keepText 215 = .ok (.return_, 1) := by decide +kernel
theorem dX11_find_0 : decode cX11_find 0 = .ok (.iconst 0, 1) := by decide +kernel
theorem dX11_find_1 : decode cX11_find 1 = .ok (.istore 4, 2) := by decide +kernel
theorem dX11_find_3 : decode cX11_find 3 = .ok (.iload 4, 2) := by decide +kernel
theorem dX11_find_5 : decode cX11_find 5 = .ok (.iload_n 2, 1) := by decide +kernel
theorem dX11_find_6 : decode cX11_find 6 = .ok (.if_icmp .ge 22, 3) := by decide +kernel
theorem dX11_find_9 : decode cX11_find 9 = .ok (.aload_n 0, 1) := by decide +kernel
theorem dX11_find_10 : decode cX11_find 10 = .ok (.iload_n 1, 1) := by decide +kernel
theorem dX11_find_11 : decode cX11_find 11 = .ok (.iload 4, 2) := by decide +kernel
theorem dX11_find_13 : decode cX11_find 13 = .ok (.iadd, 1) := by decide +kernel
theorem dX11_find_14 : decode cX11_find 14 = .ok (.iaload, 1) := by decide +kernel
theorem dX11_find_15 : decode cX11_find 15 = .ok (.iload_n 3, 1) := by decide +kernel
theorem dX11_find_16 : decode cX11_find 16 = .ok (.if_icmp .ne 6, 3) := by decide +kernel
theorem dX11_find_19 : decode cX11_find 19 = .ok (.iload 4, 2) := by decide +kernel
theorem dX11_find_21 : decode cX11_find 21 = .ok (.ireturn, 1) := by decide +kernel
theorem dX11_find_22 : decode cX11_find 22 = .ok (.iinc 4 1, 3) := by decide +kernel
theorem dX11_find_25 : decode cX11_find 25 = .ok (.goto (-22), 3) := by decide +kernel
theorem dX11_find_28 : decode cX11_find 28 = .ok (.iconst (-1), 1) := by decide +kernel
theorem dX11_find_29 : decode cX11_find 29 = .ok (.ireturn, 1) := by decide +kernel
theorem dX11_latchThere_0 : decode cX11_latchThere 0 = .ok (.aload_n 0, 1) := by decide +kernel
theorem dX11_latchThere_1 : decode cX11_latchThere 1 = .ok (.getfield 178, 3) := by decide +kernel
theorem dX11_latchThere_4 : decode cX11_latchThere 4 = .ok (.iconst 2, 1) := by decide +kernel
theorem dX11_latchThere_5 : decode cX11_latchThere 5 = .ok (.if_icmp .eq 9, 3) := by decide +kernel
theorem dX11_latchThere_8 : decode cX11_latchThere 8 = .ok (.aload_n 0, 1) := by decide +kernel
theorem dX11_latchThere_9 : decode cX11_latchThere 9 = .ok (.iconst 1, 1) := by decide +kernel
theorem dX11_latchThere_10 : decode cX11_latchThere 10 = .ok (.invokevirtual 202, 3) := by decide +kernel
theorem dX11_latchThere_13 : decode cX11_latchThere 13 = .ok (.ireturn, 1) := by decide +kernel
theorem dX11_latchThere_14 : decode cX11_latchThere 14 = .ok (.aload_n 0, 1) := by decide +kernel
theorem dX11_latchThere_15 : decode cX11_latchThere 15 = .ok (.getfield 27, 3) := by decide +kernel
theorem dX11_latchThere_18 : decode cX11_latchThere 18 = .ok (.bipush 8, 2) := by decide +kernel
theorem dX11_latchThere_20 : decode cX11_latchThere 20 = .ok (.aload_n 0, 1) := by decide +kernel
theorem dX11_latchThere_21 : decode cX11_latchThere 21 = .ok (.getfield 222, 3) := by decide +kernel
theorem dX11_latchThere_24 : decode cX11_latchThere 24 = .ok (.aload_n 0, 1) := by decide +kernel
theorem dX11_latchThere_25 : decode cX11_latchThere 25 = .ok (.getfield 189, 3) := by decide +kernel
theorem dX11_latchThere_28 : decode cX11_latchThere 28 = .ok (.invokestatic 265, 3) := by decide +kernel
theorem dX11_latchThere_31 : decode cX11_latchThere 31 = .ok (.istore_n 1, 1) := by decide +kernel
theorem dX11_latchThere_32 : decode cX11_latchThere 32 = .ok (.iload_n 1, 1) := by decide +kernel
theorem dX11_latchThere_33 : decode cX11_latchThere 33 = .ok (.ifCond .ge 9, 3) := by decide +kernel
theorem dX11_latchThere_36 : decode cX11_latchThere 36 = .ok (.aload_n 0, 1) := by decide +kernel
theorem dX11_latchThere_37 : decode cX11_latchThere 37 = .ok (.iconst 4, 1) := by decide +kernel
theorem dX11_latchThere_38 : decode cX11_latchThere 38 = .ok (.invokevirtual 202, 3) := by decide +kernel
theorem dX11_latchThere_41 : decode cX11_latchThere 41 = .ok (.ireturn, 1) := by decide +kernel
theorem dX11_latchThere_42 : decode cX11_latchThere 42 = .ok (.aload_n 0, 1) := by decide +kernel
theorem dX11_latchThere_43 : decode cX11_latchThere 43 = .ok (.invokevirtual 212, 3) := by decide +kernel
theorem dX11_latchThere_46 : decode cX11_latchThere 46 = .ok (.aload_n 0, 1) := by decide +kernel
theorem dX11_latchThere_47 : decode cX11_latchThere 47 = .ok (.iload_n 1, 1) := by decide +kernel
theorem dX11_latchThere_48 : decode cX11_latchThere 48 = .ok (.putfield 209, 3) := by decide +kernel
theorem dX11_latchThere_51 : decode cX11_latchThere 51 = .ok (.iconst 1, 1) := by decide +kernel
theorem dX11_latchThere_52 : decode cX11_latchThere 52 = .ok (.ireturn, 1) := by decide +kernel
theorem dX11_latchLine_0 : decode cX11_latchLine 0 = .ok (.aload_n 0, 1) := by decide +kernel
theorem dX11_latchLine_1 : decode cX11_latchLine 1 = .ok (.getfield 222, 3) := by decide +kernel
theorem dX11_latchLine_4 : decode cX11_latchLine 4 = .ok (.bipush 8, 2) := by decide +kernel
theorem dX11_latchLine_6 : decode cX11_latchLine 6 = .ok (.if_icmp .ne 9, 3) := by decide +kernel
theorem dX11_latchLine_9 : decode cX11_latchLine 9 = .ok (.aload_n 0, 1) := by decide +kernel
theorem dX11_latchLine_10 : decode cX11_latchLine 10 = .ok (.iconst 2, 1) := by decide +kernel
theorem dX11_latchLine_11 : decode cX11_latchLine 11 = .ok (.invokevirtual 202, 3) := by decide +kernel
theorem dX11_latchLine_14 : decode cX11_latchLine 14 = .ok (.ireturn, 1) := by decide +kernel
theorem dX11_latchLine_15 : decode cX11_latchLine 15 = .ok (.aload_n 0, 1) := by decide +kernel
theorem dX11_latchLine_16 : decode cX11_latchLine 16 = .ok (.invokevirtual 212, 3) := by decide +kernel
theorem dX11_latchLine_19 : decode cX11_latchLine 19 = .ok (.aload_n 0, 1) := by decide +kernel
theorem dX11_latchLine_20 : decode cX11_latchLine 20 = .ok (.getfield 178, 3) := by decide +kernel
theorem dX11_latchLine_23 : decode cX11_latchLine 23 = .ok (.iconst 2, 1) := by decide +kernel
theorem dX11_latchLine_24 : decode cX11_latchLine 24 = .ok (.if_icmp .eq 9, 3) := by decide +kernel
theorem dX11_latchLine_27 : decode cX11_latchLine 27 = .ok (.aload_n 0, 1) := by decide +kernel
theorem dX11_latchLine_28 : decode cX11_latchLine 28 = .ok (.iconst 1, 1) := by decide +kernel
theorem dX11_latchLine_29 : decode cX11_latchLine 29 = .ok (.invokevirtual 202, 3) := by decide +kernel
theorem dX11_latchLine_32 : decode cX11_latchLine 32 = .ok (.ireturn, 1) := by decide +kernel
theorem dX11_latchLine_33 : decode cX11_latchLine 33 = .ok (.aload_n 0, 1) := by decide +kernel
theorem dX11_latchLine_34 : decode cX11_latchLine 34 = .ok (.getfield 27, 3) := by decide +kernel
theorem dX11_latchLine_37 : decode cX11_latchLine 37 = .ok (.bipush 8, 2) := by decide +kernel
theorem dX11_latchLine_39 : decode cX11_latchLine 39 = .ok (.aload_n 0, 1) := by decide +kernel
theorem dX11_latchLine_40 : decode cX11_latchLine 40 = .ok (.getfield 222, 3) := by decide +kernel
theorem dX11_latchLine_43 : decode cX11_latchLine 43 = .ok (.aload_n 0, 1) := by decide +kernel
theorem dX11_latchLine_44 : decode cX11_latchLine 44 = .ok (.getfield 189, 3) := by decide +kernel
theorem dX11_latchLine_47 : decode cX11_latchLine 47 = .ok (.invokestatic 265, 3) := by decide +kernel
theorem dX11_latchLine_50 : decode cX11_latchLine 50 = .ok (.ifCond .lt 9, 3) := by decide +kernel
theorem dX11_latchLine_53 : decode cX11_latchLine 53 = .ok (.aload_n 0, 1) := by decide +kernel
theorem dX11_latchLine_54 : decode cX11_latchLine 54 = .ok (.iconst 3, 1) := by decide +kernel
theorem dX11_latchLine_55 : decode cX11_latchLine 55 = .ok (.invokevirtual 202, 3) := by decide +kernel
theorem dX11_latchLine_58 : decode cX11_latchLine 58 = .ok (.ireturn, 1) := by decide +kernel
theorem dX11_latchLine_59 : decode cX11_latchLine 59 = .ok (.aload_n 0, 1) := by decide +kernel
theorem dX11_latchLine_60 : decode cX11_latchLine 60 = .ok (.getfield 27, 3) := by decide +kernel
theorem dX11_latchLine_63 : decode cX11_latchLine 63 = .ok (.bipush 8, 2) := by decide +kernel
theorem dX11_latchLine_65 : decode cX11_latchLine 65 = .ok (.aload_n 0, 1) := by decide +kernel
theorem dX11_latchLine_66 : decode cX11_latchLine 66 = .ok (.getfield 222, 3) := by decide +kernel
theorem dX11_latchLine_69 : decode cX11_latchLine 69 = .ok (.iadd, 1) := by decide +kernel
theorem dX11_latchLine_70 : decode cX11_latchLine 70 = .ok (.aload_n 0, 1) := by decide +kernel
theorem dX11_latchLine_71 : decode cX11_latchLine 71 = .ok (.getfield 189, 3) := by decide +kernel
theorem dX11_latchLine_74 : decode cX11_latchLine 74 = .ok (.iastore, 1) := by decide +kernel
theorem dX11_latchLine_75 : decode cX11_latchLine 75 = .ok (.aload_n 0, 1) := by decide +kernel
theorem dX11_latchLine_76 : decode cX11_latchLine 76 = .ok (.invokevirtual 212, 3) := by decide +kernel
theorem dX11_latchLine_79 : decode cX11_latchLine 79 = .ok (.aload_n 0, 1) := by decide +kernel
theorem dX11_latchLine_80 : decode cX11_latchLine 80 = .ok (.iconst 0, 1) := by decide +kernel
theorem dX11_latchLine_81 : decode cX11_latchLine 81 = .ok (.iconst 1, 1) := by decide +kernel
theorem dX11_latchLine_82 : decode cX11_latchLine 82 = .ok (.invokevirtual 218, 3) := by decide +kernel
theorem dX11_latchLine_85 : decode cX11_latchLine 85 = .ok (.ifCond .ne 5, 3) := by decide +kernel
theorem dX11_latchLine_88 : decode cX11_latchLine 88 = .ok (.iconst 0, 1) := by decide +kernel
theorem dX11_latchLine_89 : decode cX11_latchLine 89 = .ok (.ireturn, 1) := by decide +kernel
theorem dX11_latchLine_90 : decode cX11_latchLine 90 = .ok (.aload_n 0, 1) := by decide +kernel
theorem dX11_latchLine_91 : decode cX11_latchLine 91 = .ok (.getfield 30, 3) := by decide +kernel
theorem dX11_latchLine_94 : decode cX11_latchLine 94 = .ok (.bipush 8, 2) := by decide +kernel
theorem dX11_latchLine_96 : decode cX11_latchLine 96 = .ok (.aload_n 0, 1) := by decide +kernel
theorem dX11_latchLine_97 : decode cX11_latchLine 97 = .ok (.getfield 222, 3) := by decide +kernel
theorem dX11_latchLine_100 : decode cX11_latchLine 100 = .ok (.iadd, 1) := by decide +kernel
theorem dX11_latchLine_101 : decode cX11_latchLine 101 = .ok (.aload_n 0, 1) := by decide +kernel
theorem dX11_latchLine_102 : decode cX11_latchLine 102 = .ok (.getfield 209, 3) := by decide +kernel
theorem dX11_latchLine_105 : decode cX11_latchLine 105 = .ok (.iastore, 1) := by decide +kernel
theorem dX11_latchLine_106 : decode cX11_latchLine 106 = .ok (.aload_n 0, 1) := by decide +kernel
theorem dX11_latchLine_107 : decode cX11_latchLine 107 = .ok (.dup, 1) := by decide +kernel
theorem dX11_latchLine_108 : decode cX11_latchLine 108 = .ok (.getfield 222, 3) := by decide +kernel
theorem dX11_latchLine_111 : decode cX11_latchLine 111 = .ok (.iconst 1, 1) := by decide +kernel
theorem dX11_latchLine_112 : decode cX11_latchLine 112 = .ok (.iadd, 1) := by decide +kernel
theorem dX11_latchLine_113 : decode cX11_latchLine 113 = .ok (.putfield 222, 3) := by decide +kernel
theorem dX11_latchLine_116 : decode cX11_latchLine 116 = .ok (.iconst 1, 1) := by decide +kernel
theorem dX11_latchLine_117 : decode cX11_latchLine 117 = .ok (.ireturn, 1) := by decide +kernel
theorem dX11_leanLine_0 : decode cX11_leanLine 0 = .ok (.aload_n 0, 1) := by decide +kernel
theorem dX11_leanLine_1 : decode cX11_leanLine 1 = .ok (.invokevirtual 212, 3) := by decide +kernel
theorem dX11_leanLine_4 : decode cX11_leanLine 4 = .ok (.aload_n 0, 1) := by decide +kernel
theorem dX11_leanLine_5 : decode cX11_leanLine 5 = .ok (.getfield 169, 3) := by decide +kernel
theorem dX11_leanLine_8 : decode cX11_leanLine 8 = .ok (.istore_n 1, 1) := by decide +kernel
theorem dX11_leanLine_9 : decode cX11_leanLine 9 = .ok (.aload_n 0, 1) := by decide +kernel
theorem dX11_leanLine_10 : decode cX11_leanLine 10 = .ok (.invokevirtual 269, 3) := by decide +kernel
theorem dX11_leanLine_13 : decode cX11_leanLine 13 = .ok (.ifCond .ne 5, 3) := by decide +kernel
theorem dX11_leanLine_16 : decode cX11_leanLine 16 = .ok (.iconst 0, 1) := by decide +kernel
theorem dX11_leanLine_17 : decode cX11_leanLine 17 = .ok (.ireturn, 1) := by decide +kernel
theorem dX11_leanLine_18 : decode cX11_leanLine 18 = .ok (.bipush 8, 2) := by decide +kernel
theorem dX11_leanLine_20 : decode cX11_leanLine 20 = .ok (.aload_n 0, 1) := by decide +kernel
theorem dX11_leanLine_21 : decode cX11_leanLine 21 = .ok (.getfield 209, 3) := by decide +kernel
theorem dX11_leanLine_24 : decode cX11_leanLine 24 = .ok (.iadd, 1) := by decide +kernel
theorem dX11_leanLine_25 : decode cX11_leanLine 25 = .ok (.istore_n 2, 1) := by decide +kernel
theorem dX11_leanLine_26 : decode cX11_leanLine 26 = .ok (.aload_n 0, 1) := by decide +kernel
theorem dX11_leanLine_27 : decode cX11_leanLine 27 = .ok (.getfield 33, 3) := by decide +kernel
theorem dX11_leanLine_30 : decode cX11_leanLine 30 = .ok (.iload_n 2, 1) := by decide +kernel
theorem dX11_leanLine_31 : decode cX11_leanLine 31 = .ok (.iaload, 1) := by decide +kernel
theorem dX11_leanLine_32 : decode cX11_leanLine 32 = .ok (.ifCond .lt 14, 3) := by decide +kernel
theorem dX11_leanLine_35 : decode cX11_leanLine 35 = .ok (.aload_n 0, 1) := by decide +kernel
theorem dX11_leanLine_36 : decode cX11_leanLine 36 = .ok (.iload_n 1, 1) := by decide +kernel
theorem dX11_leanLine_37 : decode cX11_leanLine 37 = .ok (.putfield 169, 3) := by decide +kernel
theorem dX11_leanLine_40 : decode cX11_leanLine 40 = .ok (.aload_n 0, 1) := by decide +kernel
theorem dX11_leanLine_41 : decode cX11_leanLine 41 = .ok (.iconst 3, 1) := by decide +kernel
theorem dX11_leanLine_42 : decode cX11_leanLine 42 = .ok (.invokevirtual 202, 3) := by decide +kernel
theorem dX11_leanLine_45 : decode cX11_leanLine 45 = .ok (.ireturn, 1) := by decide +kernel
theorem dX11_leanLine_46 : decode cX11_leanLine 46 = .ok (.aload_n 0, 1) := by decide +kernel
theorem dX11_leanLine_47 : decode cX11_leanLine 47 = .ok (.aload_n 0, 1) := by decide +kernel
theorem dX11_leanLine_48 : decode cX11_leanLine 48 = .ok (.getfield 209, 3) := by decide +kernel
theorem dX11_leanLine_51 : decode cX11_leanLine 51 = .ok (.invokevirtual 273, 3) := by decide +kernel
theorem dX11_leanLine_54 : decode cX11_leanLine 54 = .ok (.ifCond .ne 5, 3) := by decide +kernel
theorem dX11_leanLine_57 : decode cX11_leanLine 57 = .ok (.iconst 0, 1) := by decide +kernel
theorem dX11_leanLine_58 : decode cX11_leanLine 58 = .ok (.ireturn, 1) := by decide +kernel
theorem dX11_leanLine_59 : decode cX11_leanLine 59 = .ok (.aload_n 0, 1) := by decide +kernel
theorem dX11_leanLine_60 : decode cX11_leanLine 60 = .ok (.getfield 33, 3) := by decide +kernel
theorem dX11_leanLine_63 : decode cX11_leanLine 63 = .ok (.iload_n 2, 1) := by decide +kernel
theorem dX11_leanLine_64 : decode cX11_leanLine 64 = .ok (.aload_n 0, 1) := by decide +kernel
theorem dX11_leanLine_65 : decode cX11_leanLine 65 = .ok (.getfield 234, 3) := by decide +kernel
theorem dX11_leanLine_68 : decode cX11_leanLine 68 = .ok (.iconst 1, 1) := by decide +kernel
theorem dX11_leanLine_69 : decode cX11_leanLine 69 = .ok (.isub, 1) := by decide +kernel
theorem dX11_leanLine_70 : decode cX11_leanLine 70 = .ok (.iastore, 1) := by decide +kernel
theorem dX11_leanLine_71 : decode cX11_leanLine 71 = .ok (.iconst 1, 1) := by decide +kernel
theorem dX11_leanLine_72 : decode cX11_leanLine 72 = .ok (.ireturn, 1) := by decide +kernel
theorem dX11_pushLine_0 : decode cX11_pushLine 0 = .ok (.aload_n 0, 1) := by decide +kernel
theorem dX11_pushLine_1 : decode cX11_pushLine 1 = .ok (.getfield 225, 3) := by decide +kernel
theorem dX11_pushLine_4 : decode cX11_pushLine 4 = .ok (.bipush 16, 2) := by decide +kernel
theorem dX11_pushLine_6 : decode cX11_pushLine 6 = .ok (.if_icmp .ne 9, 3) := by decide +kernel
theorem dX11_pushLine_9 : decode cX11_pushLine 9 = .ok (.aload_n 0, 1) := by decide +kernel
theorem dX11_pushLine_10 : decode cX11_pushLine 10 = .ok (.iconst 2, 1) := by decide +kernel
theorem dX11_pushLine_11 : decode cX11_pushLine 11 = .ok (.invokevirtual 202, 3) := by decide +kernel
theorem dX11_pushLine_14 : decode cX11_pushLine 14 = .ok (.ireturn, 1) := by decide +kernel
theorem dX11_pushLine_15 : decode cX11_pushLine 15 = .ok (.aload_n 0, 1) := by decide +kernel
theorem dX11_pushLine_16 : decode cX11_pushLine 16 = .ok (.invokevirtual 212, 3) := by decide +kernel
theorem dX11_pushLine_19 : decode cX11_pushLine 19 = .ok (.bipush 16, 2) := by decide +kernel
theorem dX11_pushLine_21 : decode cX11_pushLine 21 = .ok (.aload_n 0, 1) := by decide +kernel
theorem dX11_pushLine_22 : decode cX11_pushLine 22 = .ok (.getfield 225, 3) := by decide +kernel
theorem dX11_pushLine_25 : decode cX11_pushLine 25 = .ok (.iadd, 1) := by decide +kernel
theorem dX11_pushLine_26 : decode cX11_pushLine 26 = .ok (.istore_n 1, 1) := by decide +kernel
theorem dX11_pushLine_27 : decode cX11_pushLine 27 = .ok (.aload_n 0, 1) := by decide +kernel
theorem dX11_pushLine_28 : decode cX11_pushLine 28 = .ok (.invokevirtual 269, 3) := by decide +kernel
theorem dX11_pushLine_31 : decode cX11_pushLine 31 = .ok (.ifCond .ne 5, 3) := by decide +kernel
theorem dX11_pushLine_34 : decode cX11_pushLine 34 = .ok (.iconst 0, 1) := by decide +kernel
theorem dX11_pushLine_35 : decode cX11_pushLine 35 = .ok (.ireturn, 1) := by decide +kernel
theorem dX11_pushLine_36 : decode cX11_pushLine 36 = .ok (.aload_n 0, 1) := by decide +kernel
theorem dX11_pushLine_37 : decode cX11_pushLine 37 = .ok (.getfield 39, 3) := by decide +kernel
theorem dX11_pushLine_40 : decode cX11_pushLine 40 = .ok (.iload_n 1, 1) := by decide +kernel
theorem dX11_pushLine_41 : decode cX11_pushLine 41 = .ok (.aload_n 0, 1) := by decide +kernel
theorem dX11_pushLine_42 : decode cX11_pushLine 42 = .ok (.getfield 209, 3) := by decide +kernel
theorem dX11_pushLine_45 : decode cX11_pushLine 45 = .ok (.iastore, 1) := by decide +kernel
theorem dX11_pushLine_46 : decode cX11_pushLine 46 = .ok (.aload_n 0, 1) := by decide +kernel
theorem dX11_pushLine_47 : decode cX11_pushLine 47 = .ok (.iconst 0, 1) := by decide +kernel
theorem dX11_pushLine_48 : decode cX11_pushLine 48 = .ok (.bipush 99, 2) := by decide +kernel
theorem dX11_pushLine_50 : decode cX11_pushLine 50 = .ok (.invokevirtual 218, 3) := by decide +kernel
theorem dX11_pushLine_53 : decode cX11_pushLine 53 = .ok (.ifCond .ne 5, 3) := by decide +kernel
theorem dX11_pushLine_56 : decode cX11_pushLine 56 = .ok (.iconst 0, 1) := by decide +kernel
theorem dX11_pushLine_57 : decode cX11_pushLine 57 = .ok (.ireturn, 1) := by decide +kernel
theorem dX11_pushLine_58 : decode cX11_pushLine 58 = .ok (.aload_n 0, 1) := by decide +kernel
theorem dX11_pushLine_59 : decode cX11_pushLine 59 = .ok (.getfield 42, 3) := by decide +kernel
theorem dX11_pushLine_62 : decode cX11_pushLine 62 = .ok (.iload_n 1, 1) := by decide +kernel
theorem dX11_pushLine_63 : decode cX11_pushLine 63 = .ok (.aload_n 0, 1) := by decide +kernel
theorem dX11_pushLine_64 : decode cX11_pushLine 64 = .ok (.getfield 209, 3) := by decide +kernel
theorem dX11_pushLine_67 : decode cX11_pushLine 67 = .ok (.iastore, 1) := by decide +kernel
theorem dX11_pushLine_68 : decode cX11_pushLine 68 = .ok (.aload_n 0, 1) := by decide +kernel
theorem dX11_pushLine_69 : decode cX11_pushLine 69 = .ok (.dup, 1) := by decide +kernel
theorem dX11_pushLine_70 : decode cX11_pushLine 70 = .ok (.getfield 225, 3) := by decide +kernel
theorem dX11_pushLine_73 : decode cX11_pushLine 73 = .ok (.iconst 1, 1) := by decide +kernel
theorem dX11_pushLine_74 : decode cX11_pushLine 74 = .ok (.iadd, 1) := by decide +kernel
theorem dX11_pushLine_75 : decode cX11_pushLine 75 = .ok (.putfield 225, 3) := by decide +kernel
theorem dX11_pushLine_78 : decode cX11_pushLine 78 = .ok (.iconst 1, 1) := by decide +kernel
theorem dX11_pushLine_79 : decode cX11_pushLine 79 = .ok (.ireturn, 1) := by decide +kernel
theorem dX11_oilLine_0 : decode cX11_oilLine 0 = .ok (.aload_n 0, 1) := by decide +kernel
theorem dX11_oilLine_1 : decode cX11_oilLine 1 = .ok (.getfield 228, 3) := by decide +kernel
theorem dX11_oilLine_4 : decode cX11_oilLine 4 = .ok (.iconst 4, 1) := by decide +kernel
theorem dX11_oilLine_5 : decode cX11_oilLine 5 = .ok (.if_icmp .ne 9, 3) := by decide +kernel
theorem dX11_oilLine_8 : decode cX11_oilLine 8 = .ok (.aload_n 0, 1) := by decide +kernel
theorem dX11_oilLine_9 : decode cX11_oilLine 9 = .ok (.iconst 2, 1) := by decide +kernel
theorem dX11_oilLine_10 : decode cX11_oilLine 10 = .ok (.invokevirtual 202, 3) := by decide +kernel
theorem dX11_oilLine_13 : decode cX11_oilLine 13 = .ok (.ireturn, 1) := by decide +kernel
theorem dX11_oilLine_14 : decode cX11_oilLine 14 = .ok (.aload_n 0, 1) := by decide +kernel
theorem dX11_oilLine_15 : decode cX11_oilLine 15 = .ok (.invokevirtual 212, 3) := by decide +kernel
theorem dX11_oilLine_18 : decode cX11_oilLine 18 = .ok (.aload_n 0, 1) := by decide +kernel
theorem dX11_oilLine_19 : decode cX11_oilLine 19 = .ok (.iconst 0, 1) := by decide +kernel
theorem dX11_oilLine_20 : decode cX11_oilLine 20 = .ok (.bipush 99, 2) := by decide +kernel
theorem dX11_oilLine_22 : decode cX11_oilLine 22 = .ok (.invokevirtual 218, 3) := by decide +kernel
theorem dX11_oilLine_25 : decode cX11_oilLine 25 = .ok (.ifCond .ne 5, 3) := by decide +kernel
theorem dX11_oilLine_28 : decode cX11_oilLine 28 = .ok (.iconst 0, 1) := by decide +kernel
theorem dX11_oilLine_29 : decode cX11_oilLine 29 = .ok (.ireturn, 1) := by decide +kernel
theorem dX11_oilLine_30 : decode cX11_oilLine 30 = .ok (.aload_n 0, 1) := by decide +kernel
theorem dX11_oilLine_31 : decode cX11_oilLine 31 = .ok (.getfield 45, 3) := by decide +kernel
theorem dX11_oilLine_34 : decode cX11_oilLine 34 = .ok (.iconst 4, 1) := by decide +kernel
theorem dX11_oilLine_35 : decode cX11_oilLine 35 = .ok (.aload_n 0, 1) := by decide +kernel
theorem dX11_oilLine_36 : decode cX11_oilLine 36 = .ok (.getfield 228, 3) := by decide +kernel
theorem dX11_oilLine_39 : decode cX11_oilLine 39 = .ok (.iadd, 1) := by decide +kernel
theorem dX11_oilLine_40 : decode cX11_oilLine 40 = .ok (.aload_n 0, 1) := by decide +kernel
theorem dX11_oilLine_41 : decode cX11_oilLine 41 = .ok (.getfield 209, 3) := by decide +kernel
theorem dX11_oilLine_44 : decode cX11_oilLine 44 = .ok (.iastore, 1) := by decide +kernel
theorem dX11_oilLine_45 : decode cX11_oilLine 45 = .ok (.aload_n 0, 1) := by decide +kernel
theorem dX11_oilLine_46 : decode cX11_oilLine 46 = .ok (.dup, 1) := by decide +kernel
theorem dX11_oilLine_47 : decode cX11_oilLine 47 = .ok (.getfield 228, 3) := by decide +kernel
theorem dX11_oilLine_50 : decode cX11_oilLine 50 = .ok (.iconst 1, 1) := by decide +kernel
theorem dX11_oilLine_51 : decode cX11_oilLine 51 = .ok (.iadd, 1) := by decide +kernel
theorem dX11_oilLine_52 : decode cX11_oilLine 52 = .ok (.putfield 228, 3) := by decide +kernel
theorem dX11_oilLine_55 : decode cX11_oilLine 55 = .ok (.iconst 1, 1) := by decide +kernel
theorem dX11_oilLine_56 : decode cX11_oilLine 56 = .ok (.ireturn, 1) := by decide +kernel
theorem dX11_onceLine_0 : decode cX11_onceLine 0 = .ok (.aload_n 0, 1) := by decide +kernel
theorem dX11_onceLine_1 : decode cX11_onceLine 1 = .ok (.getfield 20, 3) := by decide +kernel
theorem dX11_onceLine_4 : decode cX11_onceLine 4 = .ok (.iload_n 1, 1) := by decide +kernel
theorem dX11_onceLine_5 : decode cX11_onceLine 5 = .ok (.baload, 1) := by decide +kernel
theorem dX11_onceLine_6 : decode cX11_onceLine 6 = .ok (.ifCond .eq 9, 3) := by decide +kernel
theorem dX11_onceLine_9 : decode cX11_onceLine 9 = .ok (.aload_n 0, 1) := by decide +kernel
theorem dX11_onceLine_10 : decode cX11_onceLine 10 = .ok (.iconst 3, 1) := by decide +kernel
theorem dX11_onceLine_11 : decode cX11_onceLine 11 = .ok (.invokevirtual 202, 3) := by decide +kernel
theorem dX11_onceLine_14 : decode cX11_onceLine 14 = .ok (.ireturn, 1) := by decide +kernel
theorem dX11_onceLine_15 : decode cX11_onceLine 15 = .ok (.aload_n 0, 1) := by decide +kernel
theorem dX11_onceLine_16 : decode cX11_onceLine 16 = .ok (.getfield 20, 3) := by decide +kernel
theorem dX11_onceLine_19 : decode cX11_onceLine 19 = .ok (.iload_n 1, 1) := by decide +kernel
theorem dX11_onceLine_20 : decode cX11_onceLine 20 = .ok (.iconst 1, 1) := by decide +kernel
theorem dX11_onceLine_21 : decode cX11_onceLine 21 = .ok (.bastore, 1) := by decide +kernel
theorem dX11_onceLine_22 : decode cX11_onceLine 22 = .ok (.aload_n 0, 1) := by decide +kernel
theorem dX11_onceLine_23 : decode cX11_onceLine 23 = .ok (.invokevirtual 212, 3) := by decide +kernel
theorem dX11_onceLine_26 : decode cX11_onceLine 26 = .ok (.aload_n 0, 1) := by decide +kernel
theorem dX11_onceLine_27 : decode cX11_onceLine 27 = .ok (.iconst 0, 1) := by decide +kernel
theorem dX11_onceLine_28 : decode cX11_onceLine 28 = .ok (.iload_n 2, 1) := by decide +kernel
theorem dX11_onceLine_29 : decode cX11_onceLine 29 = .ok (.invokevirtual 218, 3) := by decide +kernel
theorem dX11_onceLine_32 : decode cX11_onceLine 32 = .ok (.ifCond .ne 5, 3) := by decide +kernel
theorem dX11_onceLine_35 : decode cX11_onceLine 35 = .ok (.iconst 0, 1) := by decide +kernel
theorem dX11_onceLine_36 : decode cX11_onceLine 36 = .ok (.ireturn, 1) := by decide +kernel
theorem dX11_onceLine_37 : decode cX11_onceLine 37 = .ok (.aload_n 0, 1) := by decide +kernel
theorem dX11_onceLine_38 : decode cX11_onceLine 38 = .ok (.getfield 24, 3) := by decide +kernel
theorem dX11_onceLine_41 : decode cX11_onceLine 41 = .ok (.iconst 2, 1) := by decide +kernel
theorem dX11_onceLine_42 : decode cX11_onceLine 42 = .ok (.iload_n 1, 1) := by decide +kernel
theorem dX11_onceLine_43 : decode cX11_onceLine 43 = .ok (.iadd, 1) := by decide +kernel
theorem dX11_onceLine_44 : decode cX11_onceLine 44 = .ok (.aload_n 0, 1) := by decide +kernel
theorem dX11_onceLine_45 : decode cX11_onceLine 45 = .ok (.getfield 209, 3) := by decide +kernel
theorem dX11_onceLine_48 : decode cX11_onceLine 48 = .ok (.iastore, 1) := by decide +kernel
theorem dX11_onceLine_49 : decode cX11_onceLine 49 = .ok (.iconst 1, 1) := by decide +kernel
theorem dX11_onceLine_50 : decode cX11_onceLine 50 = .ok (.ireturn, 1) := by decide +kernel
theorem dX11_lineRead_0 : decode cX11_lineRead 0 = .ok (.aload_n 0, 1) := by decide +kernel
theorem dX11_lineRead_1 : decode cX11_lineRead 1 = .ok (.getfield 178, 3) := by decide +kernel
theorem dX11_lineRead_4 : decode cX11_lineRead 4 = .ok (.iconst 1, 1) := by decide +kernel
theorem dX11_lineRead_5 : decode cX11_lineRead 5 = .ok (.if_icmp .ne 12, 3) := by decide +kernel
theorem dX11_lineRead_8 : decode cX11_lineRead 8 = .ok (.aload_n 0, 1) := by decide +kernel
theorem dX11_lineRead_9 : decode cX11_lineRead 9 = .ok (.getfield 189, 3) := by decide +kernel
theorem dX11_lineRead_12 : decode cX11_lineRead 12 = .ok (.bipush 6, 2) := by decide +kernel
theorem dX11_lineRead_14 : decode cX11_lineRead 14 = .ok (.if_icmp .le 9, 3) := by decide +kernel
theorem dX11_lineRead_17 : decode cX11_lineRead 17 = .ok (.aload_n 0, 1) := by decide +kernel
theorem dX11_lineRead_18 : decode cX11_lineRead 18 = .ok (.iconst 1, 1) := by decide +kernel
theorem dX11_lineRead_19 : decode cX11_lineRead 19 = .ok (.invokevirtual 202, 3) := by decide +kernel
theorem dX11_lineRead_22 : decode cX11_lineRead 22 = .ok (.ireturn, 1) := by decide +kernel
theorem dX11_lineRead_23 : decode cX11_lineRead 23 = .ok (.aload_n 0, 1) := by decide +kernel
theorem dX11_lineRead_24 : decode cX11_lineRead 24 = .ok (.getfield 189, 3) := by decide +kernel
theorem dX11_lineRead_27 : decode cX11_lineRead 27 = .ok (.tableswitch 91 0 5 #[37, 45, 53, 61, 69, 80], 37) := by decide +kernel
theorem dX11_lineRead_64 : decode cX11_lineRead 64 = .ok (.aload_n 0, 1) := by decide +kernel
theorem dX11_lineRead_65 : decode cX11_lineRead 65 = .ok (.invokevirtual 276, 3) := by decide +kernel
theorem dX11_lineRead_68 : decode cX11_lineRead 68 = .ok (.istore_n 1, 1) := by decide +kernel
theorem dX11_lineRead_69 : decode cX11_lineRead 69 = .ok (.goto 146, 3) := by decide +kernel
theorem dX11_lineRead_72 : decode cX11_lineRead 72 = .ok (.aload_n 0, 1) := by decide +kernel
theorem dX11_lineRead_73 : decode cX11_lineRead 73 = .ok (.invokevirtual 279, 3) := by decide +kernel
theorem dX11_lineRead_76 : decode cX11_lineRead 76 = .ok (.istore_n 1, 1) := by decide +kernel
theorem dX11_lineRead_77 : decode cX11_lineRead 77 = .ok (.goto 138, 3) := by decide +kernel
theorem dX11_lineRead_80 : decode cX11_lineRead 80 = .ok (.aload_n 0, 1) := by decide +kernel
theorem dX11_lineRead_81 : decode cX11_lineRead 81 = .ok (.invokevirtual 282, 3) := by decide +kernel
theorem dX11_lineRead_84 : decode cX11_lineRead 84 = .ok (.istore_n 1, 1) := by decide +kernel
theorem dX11_lineRead_85 : decode cX11_lineRead 85 = .ok (.goto 130, 3) := by decide +kernel
theorem dX11_lineRead_88 : decode cX11_lineRead 88 = .ok (.aload_n 0, 1) := by decide +kernel
theorem dX11_lineRead_89 : decode cX11_lineRead 89 = .ok (.invokevirtual 285, 3) := by decide +kernel
theorem dX11_lineRead_92 : decode cX11_lineRead 92 = .ok (.istore_n 1, 1) := by decide +kernel
theorem dX11_lineRead_93 : decode cX11_lineRead 93 = .ok (.goto 122, 3) := by decide +kernel
theorem dX11_lineRead_96 : decode cX11_lineRead 96 = .ok (.aload_n 0, 1) := by decide +kernel
theorem dX11_lineRead_97 : decode cX11_lineRead 97 = .ok (.iconst 0, 1) := by decide +kernel
theorem dX11_lineRead_98 : decode cX11_lineRead 98 = .ok (.bipush 100, 2) := by decide +kernel
theorem dX11_lineRead_100 : decode cX11_lineRead 100 = .ok (.invokevirtual 288, 3) := by decide +kernel
theorem dX11_lineRead_103 : decode cX11_lineRead 103 = .ok (.istore_n 1, 1) := by decide +kernel
theorem dX11_lineRead_104 : decode cX11_lineRead 104 = .ok (.goto 111, 3) := by decide +kernel
theorem dX11_lineRead_107 : decode cX11_lineRead 107 = .ok (.aload_n 0, 1) := by decide +kernel
theorem dX11_lineRead_108 : decode cX11_lineRead 108 = .ok (.iconst 1, 1) := by decide +kernel
theorem dX11_lineRead_109 : decode cX11_lineRead 109 = .ok (.ldc 198, 2) := by decide +kernel
theorem dX11_lineRead_111 : decode cX11_lineRead 111 = .ok (.invokevirtual 288, 3) := by decide +kernel
theorem dX11_lineRead_114 : decode cX11_lineRead 114 = .ok (.istore_n 1, 1) := by decide +kernel
theorem dX11_lineRead_115 : decode cX11_lineRead 115 = .ok (.goto 100, 3) := by decide +kernel
theorem dX11_lineRead_118 : decode cX11_lineRead 118 = .ok (.aload_n 0, 1) := by decide +kernel
theorem dX11_lineRead_119 : decode cX11_lineRead 119 = .ok (.invokevirtual 212, 3) := by decide +kernel
theorem dX11_lineRead_122 : decode cX11_lineRead 122 = .ok (.aload_n 0, 1) := by decide +kernel
theorem dX11_lineRead_123 : decode cX11_lineRead 123 = .ok (.getfield 178, 3) := by decide +kernel
theorem dX11_lineRead_126 : decode cX11_lineRead 126 = .ok (.iconst 1, 1) := by decide +kernel
theorem dX11_lineRead_127 : decode cX11_lineRead 127 = .ok (.if_icmp .ne 21, 3) := by decide +kernel
theorem dX11_lineRead_130 : decode cX11_lineRead 130 = .ok (.aload_n 0, 1) := by decide +kernel
theorem dX11_lineRead_131 : decode cX11_lineRead 131 = .ok (.getfield 189, 3) := by decide +kernel
theorem dX11_lineRead_134 : decode cX11_lineRead 134 = .ok (.bipush 7, 2) := by decide +kernel
theorem dX11_lineRead_136 : decode cX11_lineRead 136 = .ok (.if_icmp .lt 12, 3) := by decide +kernel
theorem dX11_lineRead_139 : decode cX11_lineRead 139 = .ok (.aload_n 0, 1) := by decide +kernel
theorem dX11_lineRead_140 : decode cX11_lineRead 140 = .ok (.getfield 189, 3) := by decide +kernel
theorem dX11_lineRead_143 : decode cX11_lineRead 143 = .ok (.bipush 9, 2) := by decide +kernel
theorem dX11_lineRead_145 : decode cX11_lineRead 145 = .ok (.if_icmp .le 9, 3) := by decide +kernel
theorem dX11_lineRead_148 : decode cX11_lineRead 148 = .ok (.aload_n 0, 1) := by decide +kernel
theorem dX11_lineRead_149 : decode cX11_lineRead 149 = .ok (.iconst 1, 1) := by decide +kernel
theorem dX11_lineRead_150 : decode cX11_lineRead 150 = .ok (.invokevirtual 202, 3) := by decide +kernel
theorem dX11_lineRead_153 : decode cX11_lineRead 153 = .ok (.ireturn, 1) := by decide +kernel
theorem dX11_lineRead_154 : decode cX11_lineRead 154 = .ok (.iconst 3, 1) := by decide +kernel
theorem dX11_lineRead_155 : decode cX11_lineRead 155 = .ok (.aload_n 0, 1) := by decide +kernel
theorem dX11_lineRead_156 : decode cX11_lineRead 156 = .ok (.getfield 189, 3) := by decide +kernel
theorem dX11_lineRead_159 : decode cX11_lineRead 159 = .ok (.iadd, 1) := by decide +kernel
theorem dX11_lineRead_160 : decode cX11_lineRead 160 = .ok (.bipush 7, 2) := by decide +kernel
theorem dX11_lineRead_162 : decode cX11_lineRead 162 = .ok (.isub, 1) := by decide +kernel
theorem dX11_lineRead_163 : decode cX11_lineRead 163 = .ok (.istore_n 2, 1) := by decide +kernel
theorem dX11_lineRead_164 : decode cX11_lineRead 164 = .ok (.aload_n 0, 1) := by decide +kernel
theorem dX11_lineRead_165 : decode cX11_lineRead 165 = .ok (.getfield 57, 3) := by decide +kernel
theorem dX11_lineRead_168 : decode cX11_lineRead 168 = .ok (.iload_n 2, 1) := by decide +kernel
theorem dX11_lineRead_169 : decode cX11_lineRead 169 = .ok (.baload, 1) := by decide +kernel
theorem dX11_lineRead_170 : decode cX11_lineRead 170 = .ok (.ifCond .eq 9, 3) := by decide +kernel
theorem dX11_lineRead_173 : decode cX11_lineRead 173 = .ok (.aload_n 0, 1) := by decide +kernel
theorem dX11_lineRead_174 : decode cX11_lineRead 174 = .ok (.iconst 3, 1) := by decide +kernel
theorem dX11_lineRead_175 : decode cX11_lineRead 175 = .ok (.invokevirtual 202, 3) := by decide +kernel
theorem dX11_lineRead_178 : decode cX11_lineRead 178 = .ok (.ireturn, 1) := by decide +kernel
theorem dX11_lineRead_179 : decode cX11_lineRead 179 = .ok (.aload_n 0, 1) := by decide +kernel
theorem dX11_lineRead_180 : decode cX11_lineRead 180 = .ok (.getfield 57, 3) := by decide +kernel
theorem dX11_lineRead_183 : decode cX11_lineRead 183 = .ok (.iload_n 2, 1) := by decide +kernel
theorem dX11_lineRead_184 : decode cX11_lineRead 184 = .ok (.iconst 1, 1) := by decide +kernel
theorem dX11_lineRead_185 : decode cX11_lineRead 185 = .ok (.bastore, 1) := by decide +kernel
theorem dX11_lineRead_186 : decode cX11_lineRead 186 = .ok (.aload_n 0, 1) := by decide +kernel
theorem dX11_lineRead_187 : decode cX11_lineRead 187 = .ok (.invokevirtual 212, 3) := by decide +kernel
theorem dX11_lineRead_190 : decode cX11_lineRead 190 = .ok (.aload_n 0, 1) := by decide +kernel
theorem dX11_lineRead_191 : decode cX11_lineRead 191 = .ok (.getfield 60, 3) := by decide +kernel
theorem dX11_lineRead_194 : decode cX11_lineRead 194 = .ok (.iload_n 2, 1) := by decide +kernel
theorem dX11_lineRead_195 : decode cX11_lineRead 195 = .ok (.aload_n 0, 1) := by decide +kernel
theorem dX11_lineRead_196 : decode cX11_lineRead 196 = .ok (.getfield 231, 3) := by decide +kernel
theorem dX11_lineRead_199 : decode cX11_lineRead 199 = .ok (.iastore, 1) := by decide +kernel
theorem dX11_lineRead_200 : decode cX11_lineRead 200 = .ok (.aload_n 0, 1) := by decide +kernel
theorem dX11_lineRead_201 : decode cX11_lineRead 201 = .ok (.invokevirtual 291, 3) := by decide +kernel
theorem dX11_lineRead_204 : decode cX11_lineRead 204 = .ok (.istore_n 1, 1) := by decide +kernel
theorem dX11_lineRead_205 : decode cX11_lineRead 205 = .ok (.aload_n 0, 1) := by decide +kernel
theorem dX11_lineRead_206 : decode cX11_lineRead 206 = .ok (.getfield 63, 3) := by decide +kernel
theorem dX11_lineRead_209 : decode cX11_lineRead 209 = .ok (.iload_n 2, 1) := by decide +kernel
theorem dX11_lineRead_210 : decode cX11_lineRead 210 = .ok (.aload_n 0, 1) := by decide +kernel
theorem dX11_lineRead_211 : decode cX11_lineRead 211 = .ok (.getfield 231, 3) := by decide +kernel
theorem dX11_lineRead_214 : decode cX11_lineRead 214 = .ok (.iastore, 1) := by decide +kernel
theorem dX11_lineRead_215 : decode cX11_lineRead 215 = .ok (.iload_n 1, 1) := by decide +kernel
theorem dX11_lineRead_216 : decode cX11_lineRead 216 = .ok (.ifCond .ne 5, 3) := by decide +kernel
theorem dX11_lineRead_219 : decode cX11_lineRead 219 = .ok (.iconst 0, 1) := by decide +kernel
theorem dX11_lineRead_220 : decode cX11_lineRead 220 = .ok (.ireturn, 1) := by decide +kernel
theorem dX11_lineRead_221 : decode cX11_lineRead 221 = .ok (.aload_n 0, 1) := by decide +kernel
theorem dX11_lineRead_222 : decode cX11_lineRead 222 = .ok (.bipush 59, 2) := by decide +kernel
theorem dX11_lineRead_224 : decode cX11_lineRead 224 = .ok (.invokevirtual 215, 3) := by decide +kernel
theorem dX11_lineRead_227 : decode cX11_lineRead 227 = .ok (.ifCond .ne 9, 3) := by decide +kernel
theorem dX11_lineRead_230 : decode cX11_lineRead 230 = .ok (.aload_n 0, 1) := by decide +kernel
theorem dX11_lineRead_231 : decode cX11_lineRead 231 = .ok (.iconst 1, 1) := by decide +kernel
theorem dX11_lineRead_232 : decode cX11_lineRead 232 = .ok (.invokevirtual 202, 3) := by decide +kernel
theorem dX11_lineRead_235 : decode cX11_lineRead 235 = .ok (.ireturn, 1) := by decide +kernel
theorem dX11_lineRead_236 : decode cX11_lineRead 236 = .ok (.aload_n 0, 1) := by decide +kernel
theorem dX11_lineRead_237 : decode cX11_lineRead 237 = .ok (.invokevirtual 212, 3) := by decide +kernel
theorem dX11_lineRead_240 : decode cX11_lineRead 240 = .ok (.iconst 1, 1) := by decide +kernel
theorem dX11_lineRead_241 : decode cX11_lineRead 241 = .ok (.ireturn, 1) := by decide +kernel
theorem dX11_text_0 : decode cX11_text 0 = .ok (.aload_n 0, 1) := by decide +kernel
theorem dX11_text_1 : decode cX11_text 1 = .ok (.iconst 0, 1) := by decide +kernel
theorem dX11_text_2 : decode cX11_text 2 = .ok (.putfield 160, 3) := by decide +kernel
theorem dX11_text_5 : decode cX11_text 5 = .ok (.iload_n 1, 1) := by decide +kernel
theorem dX11_text_6 : decode cX11_text 6 = .ok (.ifCond .lt 11, 3) := by decide +kernel
theorem dX11_text_9 : decode cX11_text 9 = .ok (.iload_n 1, 1) := by decide +kernel
theorem dX11_text_10 : decode cX11_text 10 = .ok (.aload_n 0, 1) := by decide +kernel
theorem dX11_text_11 : decode cX11_text 11 = .ok (.getfield 163, 3) := by decide +kernel
theorem dX11_text_14 : decode cX11_text 14 = .ok (.if_icmp .le 6, 3) := by decide +kernel
theorem dX11_text_17 : decode cX11_text 17 = .ok (.bipush (-2), 2) := by decide +kernel
theorem dX11_text_19 : decode cX11_text 19 = .ok (.ireturn, 1) := by decide +kernel
theorem dX11_text_20 : decode cX11_text 20 = .ok (.aload_n 0, 1) := by decide +kernel
theorem dX11_text_21 : decode cX11_text 21 = .ok (.iload_n 1, 1) := by decide +kernel
theorem dX11_text_22 : decode cX11_text 22 = .ok (.putfield 172, 3) := by decide +kernel
theorem dX11_text_25 : decode cX11_text 25 = .ok (.aload_n 0, 1) := by decide +kernel
theorem dX11_text_26 : decode cX11_text 26 = .ok (.iconst 0, 1) := by decide +kernel
theorem dX11_text_27 : decode cX11_text 27 = .ok (.putfield 163, 3) := by decide +kernel
theorem dX11_text_30 : decode cX11_text 30 = .ok (.aload_n 0, 1) := by decide +kernel
theorem dX11_text_31 : decode cX11_text 31 = .ok (.iconst 0, 1) := by decide +kernel
theorem dX11_text_32 : decode cX11_text 32 = .ok (.putfield 166, 3) := by decide +kernel
theorem dX11_text_35 : decode cX11_text 35 = .ok (.aload_n 0, 1) := by decide +kernel
theorem dX11_text_36 : decode cX11_text 36 = .ok (.iconst (-1), 1) := by decide +kernel
theorem dX11_text_37 : decode cX11_text 37 = .ok (.putfield 16, 3) := by decide +kernel
theorem dX11_text_40 : decode cX11_text 40 = .ok (.aload_n 0, 1) := by decide +kernel
theorem dX11_text_41 : decode cX11_text 41 = .ok (.iconst 0, 1) := by decide +kernel
theorem dX11_text_42 : decode cX11_text 42 = .ok (.putfield 175, 3) := by decide +kernel
theorem dX11_text_45 : decode cX11_text 45 = .ok (.aload_n 0, 1) := by decide +kernel
theorem dX11_text_46 : decode cX11_text 46 = .ok (.invokevirtual 154, 3) := by decide +kernel
theorem dX11_text_49 : decode cX11_text 49 = .ok (.aload_n 0, 1) := by decide +kernel
theorem dX11_text_50 : decode cX11_text 50 = .ok (.invokevirtual 212, 3) := by decide +kernel
theorem dX11_text_53 : decode cX11_text 53 = .ok (.iconst 0, 1) := by decide +kernel
theorem dX11_text_54 : decode cX11_text 54 = .ok (.istore_n 2, 1) := by decide +kernel
theorem dX11_text_55 : decode cX11_text 55 = .ok (.aload_n 0, 1) := by decide +kernel
theorem dX11_text_56 : decode cX11_text 56 = .ok (.getfield 178, 3) := by decide +kernel
theorem dX11_text_59 : decode cX11_text 59 = .ok (.ifCond .eq 18, 3) := by decide +kernel
theorem dX11_text_62 : decode cX11_text 62 = .ok (.aload_n 0, 1) := by decide +kernel
theorem dX11_text_63 : decode cX11_text 63 = .ok (.invokevirtual 294, 3) := by decide +kernel
theorem dX11_text_66 : decode cX11_text 66 = .ok (.ifCond .ne 5, 3) := by decide +kernel
theorem dX11_text_69 : decode cX11_text 69 = .ok (.iconst (-1), 1) := by decide +kernel
theorem dX11_text_70 : decode cX11_text 70 = .ok (.ireturn, 1) := by decide +kernel
theorem dX11_text_71 : decode cX11_text 71 = .ok (.iinc 2 1, 3) := by decide +kernel
theorem dX11_text_74 : decode cX11_text 74 = .ok (.goto (-19), 3) := by decide +kernel
theorem dX11_text_77 : decode cX11_text 77 = .ok (.aload_n 0, 1) := by decide +kernel
theorem dX11_text_78 : decode cX11_text 78 = .ok (.invokevirtual 157, 3) := by decide +kernel
theorem dX11_text_81 : decode cX11_text 81 = .ok (.iload_n 2, 1) := by decide +kernel
theorem dX11_text_82 : decode cX11_text 82 = .ok (.ireturn, 1) := by decide +kernel
theorem dX11_fault_0 : decode cX11_fault 0 = .ok (.aload_n 0, 1) := by decide +kernel
theorem dX11_fault_1 : decode cX11_fault 1 = .ok (.iconst 0, 1) := by decide +kernel
theorem dX11_fault_2 : decode cX11_fault 2 = .ok (.putfield 160, 3) := by decide +kernel
theorem dX11_fault_5 : decode cX11_fault 5 = .ok (.iload_n 1, 1) := by decide +kernel
theorem dX11_fault_6 : decode cX11_fault 6 = .ok (.ifCond .ne 10, 3) := by decide +kernel
theorem dX11_fault_9 : decode cX11_fault 9 = .ok (.aload_n 0, 1) := by decide +kernel
theorem dX11_fault_10 : decode cX11_fault 10 = .ok (.getfield 166, 3) := by decide +kernel
theorem dX11_fault_13 : decode cX11_fault 13 = .ok (.goto 16, 3) := by decide +kernel
theorem dX11_fault_16 : decode cX11_fault 16 = .ok (.iload_n 1, 1) := by decide +kernel
theorem dX11_fault_17 : decode cX11_fault 17 = .ok (.iconst 1, 1) := by decide +kernel
theorem dX11_fault_18 : decode cX11_fault 18 = .ok (.if_icmp .ne 10, 3) := by decide +kernel
theorem dX11_fault_21 : decode cX11_fault 21 = .ok (.aload_n 0, 1) := by decide +kernel
theorem dX11_fault_22 : decode cX11_fault 22 = .ok (.getfield 16, 3) := by decide +kernel
theorem dX11_fault_25 : decode cX11_fault 25 = .ok (.goto 4, 3) := by decide +kernel
theorem dX11_fault_28 : decode cX11_fault 28 = .ok (.iconst (-1), 1) := by decide +kernel
theorem dX11_fault_29 : decode cX11_fault 29 = .ok (.ireturn, 1) := by decide +kernel
theorem dX11_named_0 : decode cX11_named 0 = .ok (.aload_n 0, 1) := by decide +kernel
theorem dX11_named_1 : decode cX11_named 1 = .ok (.iconst 0, 1) := by decide +kernel
theorem dX11_named_2 : decode cX11_named 2 = .ok (.putfield 160, 3) := by decide +kernel
theorem dX11_named_5 : decode cX11_named 5 = .ok (.aload_n 0, 1) := by decide +kernel
theorem dX11_named_6 : decode cX11_named 6 = .ok (.getfield 27, 3) := by decide +kernel
theorem dX11_named_9 : decode cX11_named 9 = .ok (.iconst 0, 1) := by decide +kernel
theorem dX11_named_10 : decode cX11_named 10 = .ok (.aload_n 0, 1) := by decide +kernel
theorem dX11_named_11 : decode cX11_named 11 = .ok (.getfield 240, 3) := by decide +kernel
theorem dX11_named_14 : decode cX11_named 14 = .ok (.iload_n 1, 1) := by decide +kernel
theorem dX11_named_15 : decode cX11_named 15 = .ok (.invokestatic 265, 3) := by decide +kernel
theorem dX11_named_18 : decode cX11_named 18 = .ok (.ireturn, 1) := by decide +kernel
theorem dX11_standing_0 : decode cX11_standing 0 = .ok (.iload_n 0, 1) := by decide +kernel
theorem dX11_standing_1 : decode cX11_standing 1 = .ok (.bipush 13, 2) := by decide +kernel
theorem dX11_standing_3 : decode cX11_standing 3 = .ok (.if_icmp .lt 8, 3) := by decide +kernel
theorem dX11_standing_6 : decode cX11_standing 6 = .ok (.bipush 6, 2) := by decide +kernel
theorem dX11_standing_8 : decode cX11_standing 8 = .ok (.goto 50, 3) := by decide +kernel
theorem dX11_standing_11 : decode cX11_standing 11 = .ok (.iload_n 0, 1) := by decide +kernel
theorem dX11_standing_12 : decode cX11_standing 12 = .ok (.bipush 11, 2) := by decide +kernel
theorem dX11_standing_14 : decode cX11_standing 14 = .ok (.if_icmp .lt 7, 3) := by decide +kernel
theorem dX11_standing_17 : decode cX11_standing 17 = .ok (.iconst 5, 1) := by decide +kernel
theorem dX11_standing_18 : decode cX11_standing 18 = .ok (.goto 40, 3) := by decide +kernel
theorem dX11_standing_21 : decode cX11_standing 21 = .ok (.iload_n 0, 1) := by decide +kernel
theorem dX11_standing_22 : decode cX11_standing 22 = .ok (.iconst 5, 1) := by decide +kernel
theorem dX11_standing_23 : decode cX11_standing 23 = .ok (.if_icmp .lt 7, 3) := by decide +kernel
theorem dX11_standing_26 : decode cX11_standing 26 = .ok (.iconst 4, 1) := by decide +kernel
theorem dX11_standing_27 : decode cX11_standing 27 = .ok (.goto 31, 3) := by decide +kernel
theorem dX11_standing_30 : decode cX11_standing 30 = .ok (.iload_n 0, 1) := by decide +kernel
theorem dX11_standing_31 : decode cX11_standing 31 = .ok (.iconst 2, 1) := by decide +kernel
theorem dX11_standing_32 : decode cX11_standing 32 = .ok (.if_icmp .ne 7, 3) := by decide +kernel
theorem dX11_standing_35 : decode cX11_standing 35 = .ok (.iconst 3, 1) := by decide +kernel
theorem dX11_standing_36 : decode cX11_standing 36 = .ok (.goto 22, 3) := by decide +kernel
theorem dX11_standing_39 : decode cX11_standing 39 = .ok (.iload_n 0, 1) := by decide +kernel
theorem dX11_standing_40 : decode cX11_standing 40 = .ok (.iconst 3, 1) := by decide +kernel
theorem dX11_standing_41 : decode cX11_standing 41 = .ok (.if_icmp .ne 7, 3) := by decide +kernel
theorem dX11_standing_44 : decode cX11_standing 44 = .ok (.iconst 2, 1) := by decide +kernel
theorem dX11_standing_45 : decode cX11_standing 45 = .ok (.goto 13, 3) := by decide +kernel
theorem dX11_standing_48 : decode cX11_standing 48 = .ok (.iload_n 0, 1) := by decide +kernel
theorem dX11_standing_49 : decode cX11_standing 49 = .ok (.iconst 4, 1) := by decide +kernel
theorem dX11_standing_50 : decode cX11_standing 50 = .ok (.if_icmp .ne 7, 3) := by decide +kernel
theorem dX11_standing_53 : decode cX11_standing 53 = .ok (.iconst 1, 1) := by decide +kernel
theorem dX11_standing_54 : decode cX11_standing 54 = .ok (.goto 4, 3) := by decide +kernel
theorem dX11_standing_57 : decode cX11_standing 57 = .ok (.iconst 0, 1) := by decide +kernel
theorem dX11_standing_58 : decode cX11_standing 58 = .ok (.ireturn, 1) := by decide +kernel
theorem dX11_grown_0 : decode cX11_grown 0 = .ok (.aload_n 0, 1) := by decide +kernel
theorem dX11_grown_1 : decode cX11_grown 1 = .ok (.getfield 66, 3) := by decide +kernel
theorem dX11_grown_4 : decode cX11_grown 4 = .ok (.bipush 64, 2) := by decide +kernel
theorem dX11_grown_6 : decode cX11_grown 6 = .ok (.aload_n 0, 1) := by decide +kernel
theorem dX11_grown_7 : decode cX11_grown 7 = .ok (.getfield 231, 3) := by decide +kernel
theorem dX11_grown_10 : decode cX11_grown 10 = .ok (.iadd, 1) := by decide +kernel
theorem dX11_grown_11 : decode cX11_grown 11 = .ok (.iload_n 1, 1) := by decide +kernel
theorem dX11_grown_12 : decode cX11_grown 12 = .ok (.iastore, 1) := by decide +kernel
theorem dX11_grown_13 : decode cX11_grown 13 = .ok (.aload_n 0, 1) := by decide +kernel
theorem dX11_grown_14 : decode cX11_grown 14 = .ok (.getfield 69, 3) := by decide +kernel
theorem dX11_grown_17 : decode cX11_grown 17 = .ok (.bipush 64, 2) := by decide +kernel
theorem dX11_grown_19 : decode cX11_grown 19 = .ok (.aload_n 0, 1) := by decide +kernel
theorem dX11_grown_20 : decode cX11_grown 20 = .ok (.getfield 231, 3) := by decide +kernel
theorem dX11_grown_23 : decode cX11_grown 23 = .ok (.iadd, 1) := by decide +kernel
theorem dX11_grown_24 : decode cX11_grown 24 = .ok (.iload_n 2, 1) := by decide +kernel
theorem dX11_grown_25 : decode cX11_grown 25 = .ok (.iastore, 1) := by decide +kernel
theorem dX11_grown_26 : decode cX11_grown 26 = .ok (.aload_n 0, 1) := by decide +kernel
theorem dX11_grown_27 : decode cX11_grown 27 = .ok (.getfield 72, 3) := by decide +kernel
theorem dX11_grown_30 : decode cX11_grown 30 = .ok (.bipush 64, 2) := by decide +kernel
theorem dX11_grown_32 : decode cX11_grown 32 = .ok (.aload_n 0, 1) := by decide +kernel
theorem dX11_grown_33 : decode cX11_grown 33 = .ok (.getfield 231, 3) := by decide +kernel
theorem dX11_grown_36 : decode cX11_grown 36 = .ok (.iadd, 1) := by decide +kernel
theorem dX11_grown_37 : decode cX11_grown 37 = .ok (.iload_n 3, 1) := by decide +kernel
theorem dX11_grown_38 : decode cX11_grown 38 = .ok (.iastore, 1) := by decide +kernel
theorem dX11_grown_39 : decode cX11_grown 39 = .ok (.aload_n 0, 1) := by decide +kernel
theorem dX11_grown_40 : decode cX11_grown 40 = .ok (.getfield 78, 3) := by decide +kernel
theorem dX11_grown_43 : decode cX11_grown 43 = .ok (.aload_n 0, 1) := by decide +kernel
theorem dX11_grown_44 : decode cX11_grown 44 = .ok (.getfield 297, 3) := by decide +kernel
theorem dX11_grown_47 : decode cX11_grown 47 = .ok (.aload_n 0, 1) := by decide +kernel
theorem dX11_grown_48 : decode cX11_grown 48 = .ok (.getfield 231, 3) := by decide +kernel
theorem dX11_grown_51 : decode cX11_grown 51 = .ok (.iastore, 1) := by decide +kernel
theorem dX11_grown_52 : decode cX11_grown 52 = .ok (.aload_n 0, 1) := by decide +kernel
theorem dX11_grown_53 : decode cX11_grown 53 = .ok (.dup, 1) := by decide +kernel
theorem dX11_grown_54 : decode cX11_grown 54 = .ok (.getfield 297, 3) := by decide +kernel
theorem dX11_grown_57 : decode cX11_grown 57 = .ok (.iconst 1, 1) := by decide +kernel
theorem dX11_grown_58 : decode cX11_grown 58 = .ok (.iadd, 1) := by decide +kernel
theorem dX11_grown_59 : decode cX11_grown 59 = .ok (.putfield 297, 3) := by decide +kernel
theorem dX11_grown_62 : decode cX11_grown 62 = .ok (.aload_n 0, 1) := by decide +kernel
theorem dX11_grown_63 : decode cX11_grown 63 = .ok (.dup, 1) := by decide +kernel
theorem dX11_grown_64 : decode cX11_grown 64 = .ok (.getfield 231, 3) := by decide +kernel
theorem dX11_grown_67 : decode cX11_grown 67 = .ok (.iconst 1, 1) := by decide +kernel
theorem dX11_grown_68 : decode cX11_grown 68 = .ok (.iadd, 1) := by decide +kernel
theorem dX11_grown_69 : decode cX11_grown 69 = .ok (.putfield 231, 3) := by decide +kernel
theorem dX11_grown_72 : decode cX11_grown 72 = .ok (.return_, 1) := by decide +kernel
theorem dX11_dropHeld_0 : decode cX11_dropHeld 0 = .ok (.aload_n 0, 1) := by decide +kernel
theorem dX11_dropHeld_1 : decode cX11_dropHeld 1 = .ok (.dup, 1) := by decide +kernel
theorem dX11_dropHeld_2 : decode cX11_dropHeld 2 = .ok (.getfield 297, 3) := by decide +kernel
theorem dX11_dropHeld_5 : decode cX11_dropHeld 5 = .ok (.iconst 1, 1) := by decide +kernel
theorem dX11_dropHeld_6 : decode cX11_dropHeld 6 = .ok (.isub, 1) := by decide +kernel
theorem dX11_dropHeld_7 : decode cX11_dropHeld 7 = .ok (.putfield 297, 3) := by decide +kernel
theorem dX11_dropHeld_10 : decode cX11_dropHeld 10 = .ok (.aload_n 0, 1) := by decide +kernel
theorem dX11_dropHeld_11 : decode cX11_dropHeld 11 = .ok (.getfield 78, 3) := by decide +kernel
theorem dX11_dropHeld_14 : decode cX11_dropHeld 14 = .ok (.aload_n 0, 1) := by decide +kernel
theorem dX11_dropHeld_15 : decode cX11_dropHeld 15 = .ok (.getfield 297, 3) := by decide +kernel
theorem dX11_dropHeld_18 : decode cX11_dropHeld 18 = .ok (.iaload, 1) := by decide +kernel
theorem dX11_dropHeld_19 : decode cX11_dropHeld 19 = .ok (.ireturn, 1) := by decide +kernel
theorem dX11_bind_0 : decode cX11_bind 0 = .ok (.aload_n 0, 1) := by decide +kernel
theorem dX11_bind_1 : decode cX11_bind 1 = .ok (.getfield 300, 3) := by decide +kernel
theorem dX11_bind_4 : decode cX11_bind 4 = .ok (.ifCond .le 72, 3) := by decide +kernel
theorem dX11_bind_7 : decode cX11_bind 7 = .ok (.aload_n 0, 1) := by decide +kernel
theorem dX11_bind_8 : decode cX11_bind 8 = .ok (.getfield 75, 3) := by decide +kernel
theorem dX11_bind_11 : decode cX11_bind 11 = .ok (.aload_n 0, 1) := by decide +kernel
theorem dX11_bind_12 : decode cX11_bind 12 = .ok (.getfield 300, 3) := by decide +kernel
theorem dX11_bind_15 : decode cX11_bind 15 = .ok (.iconst 1, 1) := by decide +kernel
theorem dX11_bind_16 : decode cX11_bind 16 = .ok (.isub, 1) := by decide +kernel
theorem dX11_bind_17 : decode cX11_bind 17 = .ok (.iaload, 1) := by decide +kernel
theorem dX11_bind_18 : decode cX11_bind 18 = .ok (.invokestatic 303, 3) := by decide +kernel
theorem dX11_bind_21 : decode cX11_bind 21 = .ok (.iload_n 1, 1) := by decide +kernel
theorem dX11_bind_22 : decode cX11_bind 22 = .ok (.if_icmp .lt 54, 3) := by decide +kernel
theorem dX11_bind_25 : decode cX11_bind 25 = .ok (.aload_n 0, 1) := by decide +kernel
theorem dX11_bind_26 : decode cX11_bind 26 = .ok (.dup, 1) := by decide +kernel
theorem dX11_bind_27 : decode cX11_bind 27 = .ok (.getfield 300, 3) := by decide +kernel
theorem dX11_bind_30 : decode cX11_bind 30 = .ok (.iconst 1, 1) := by decide +kernel
theorem dX11_bind_31 : decode cX11_bind 31 = .ok (.isub, 1) := by decide +kernel
theorem dX11_bind_32 : decode cX11_bind 32 = .ok (.putfield 300, 3) := by decide +kernel
theorem dX11_bind_35 : decode cX11_bind 35 = .ok (.aload_n 0, 1) := by decide +kernel
theorem dX11_bind_36 : decode cX11_bind 36 = .ok (.getfield 75, 3) := by decide +kernel
theorem dX11_bind_39 : decode cX11_bind 39 = .ok (.aload_n 0, 1) := by decide +kernel
theorem dX11_bind_40 : decode cX11_bind 40 = .ok (.getfield 300, 3) := by decide +kernel
theorem dX11_bind_43 : decode cX11_bind 43 = .ok (.iaload, 1) := by decide +kernel
theorem dX11_bind_44 : decode cX11_bind 44 = .ok (.istore_n 2, 1) := by decide +kernel
theorem dX11_bind_45 : decode cX11_bind 45 = .ok (.iload_n 2, 1) := by decide +kernel
theorem dX11_bind_46 : decode cX11_bind 46 = .ok (.iconst 2, 1) := by decide +kernel
theorem dX11_bind_47 : decode cX11_bind 47 = .ok (.if_icmp .ne 7, 3) := by decide +kernel
theorem dX11_bind_50 : decode cX11_bind 50 = .ok (.iconst (-1), 1) := by decide +kernel
theorem dX11_bind_51 : decode cX11_bind 51 = .ok (.goto 7, 3) := by decide +kernel
theorem dX11_bind_54 : decode cX11_bind 54 = .ok (.aload_n 0, 1) := by decide +kernel
theorem dX11_bind_55 : decode cX11_bind 55 = .ok (.invokevirtual 307, 3) := by decide +kernel
theorem dX11_bind_58 : decode cX11_bind 58 = .ok (.istore_n 3, 1) := by decide +kernel
theorem dX11_bind_59 : decode cX11_bind 59 = .ok (.aload_n 0, 1) := by decide +kernel
theorem dX11_bind_60 : decode cX11_bind 60 = .ok (.invokevirtual 307, 3) := by decide +kernel
theorem dX11_bind_63 : decode cX11_bind 63 = .ok (.istore 4, 2) := by decide +kernel
theorem dX11_bind_65 : decode cX11_bind 65 = .ok (.aload_n 0, 1) := by decide +kernel
theorem dX11_bind_66 : decode cX11_bind 66 = .ok (.iload_n 2, 1) := by decide +kernel
theorem dX11_bind_67 : decode cX11_bind 67 = .ok (.iload 4, 2) := by decide +kernel
theorem dX11_bind_69 : decode cX11_bind 69 = .ok (.iload_n 3, 1) := by decide +kernel
theorem dX11_bind_70 : decode cX11_bind 70 = .ok (.invokevirtual 311, 3) := by decide +kernel
theorem dX11_bind_73 : decode cX11_bind 73 = .ok (.goto (-73), 3) := by decide +kernel
theorem dX11_bind_76 : decode cX11_bind 76 = .ok (.return_, 1) := by decide +kernel
theorem dX11_isCounted_0 : decode cX11_isCounted 0 = .ok (.aload_n 0, 1) := by decide +kernel
theorem dX11_isCounted_1 : decode cX11_isCounted 1 = .ok (.getfield 237, 3) := by decide +kernel
theorem dX11_isCounted_4 : decode cX11_isCounted 4 = .ok (.bipush 64, 2) := by decide +kernel
theorem dX11_isCounted_6 : decode cX11_isCounted 6 = .ok (.if_icmp .ne 9, 3) := by decide +kernel
theorem dX11_isCounted_9 : decode cX11_isCounted 9 = .ok (.aload_n 0, 1) := by decide +kernel
theorem dX11_isCounted_10 : decode cX11_isCounted 10 = .ok (.iconst 2, 1) := by decide +kernel
theorem dX11_isCounted_11 : decode cX11_isCounted 11 = .ok (.invokevirtual 202, 3) := by decide +kernel
theorem dX11_isCounted_14 : decode cX11_isCounted 14 = .ok (.ireturn, 1) := by decide +kernel
theorem dX11_isCounted_15 : decode cX11_isCounted 15 = .ok (.aload_n 0, 1) := by decide +kernel
theorem dX11_isCounted_16 : decode cX11_isCounted 16 = .ok (.dup, 1) := by decide +kernel
theorem dX11_isCounted_17 : decode cX11_isCounted 17 = .ok (.getfield 237, 3) := by decide +kernel
theorem dX11_isCounted_20 : decode cX11_isCounted 20 = .ok (.iconst 1, 1) := by decide +kernel
theorem dX11_isCounted_21 : decode cX11_isCounted 21 = .ok (.iadd, 1) := by decide +kernel
theorem dX11_isCounted_22 : decode cX11_isCounted 22 = .ok (.putfield 237, 3) := by decide +kernel
theorem dX11_isCounted_25 : decode cX11_isCounted 25 = .ok (.iconst 1, 1) := by decide +kernel
theorem dX11_isCounted_26 : decode cX11_isCounted 26 = .ok (.ireturn, 1) := by decide +kernel
theorem dX11_waitsFor_0 : decode cX11_waitsFor 0 = .ok (.aload_n 0, 1) := by decide +kernel
theorem dX11_waitsFor_1 : decode cX11_waitsFor 1 = .ok (.getfield 75, 3) := by decide +kernel
theorem dX11_waitsFor_4 : decode cX11_waitsFor 4 = .ok (.aload_n 0, 1) := by decide +kernel
theorem dX11_waitsFor_5 : decode cX11_waitsFor 5 = .ok (.getfield 300, 3) := by decide +kernel
theorem dX11_waitsFor_8 : decode cX11_waitsFor 8 = .ok (.iload_n 1, 1) := by decide +kernel
theorem dX11_waitsFor_9 : decode cX11_waitsFor 9 = .ok (.iastore, 1) := by decide +kernel
theorem dX11_waitsFor_10 : decode cX11_waitsFor 10 = .ok (.aload_n 0, 1) := by decide +kernel
theorem dX11_waitsFor_11 : decode cX11_waitsFor 11 = .ok (.dup, 1) := by decide +kernel
theorem dX11_waitsFor_12 : decode cX11_waitsFor 12 = .ok (.getfield 300, 3) := by decide +kernel
theorem dX11_waitsFor_15 : decode cX11_waitsFor 15 = .ok (.iconst 1, 1) := by decide +kernel
theorem dX11_waitsFor_16 : decode cX11_waitsFor 16 = .ok (.iadd, 1) := by decide +kernel
theorem dX11_waitsFor_17 : decode cX11_waitsFor 17 = .ok (.putfield 300, 3) := by decide +kernel
theorem dX11_waitsFor_20 : decode cX11_waitsFor 20 = .ok (.return_, 1) := by decide +kernel
theorem dX11_nameMet_0 : decode cX11_nameMet 0 = .ok (.aload_n 0, 1) := by decide +kernel
theorem dX11_nameMet_1 : decode cX11_nameMet 1 = .ok (.getfield 178, 3) := by decide +kernel
theorem dX11_nameMet_4 : decode cX11_nameMet 4 = .ok (.iconst 1, 1) := by decide +kernel
theorem dX11_nameMet_5 : decode cX11_nameMet 5 = .ok (.if_icmp .ne 22, 3) := by decide +kernel
theorem dX11_nameMet_8 : decode cX11_nameMet 8 = .ok (.aload_n 0, 1) := by decide +kernel
theorem dX11_nameMet_9 : decode cX11_nameMet 9 = .ok (.getfield 189, 3) := by decide +kernel
theorem dX11_nameMet_12 : decode cX11_nameMet 12 = .ok (.bipush 17, 2) := by decide +kernel
theorem dX11_nameMet_14 : decode cX11_nameMet 14 = .ok (.if_icmp .lt 13, 3) := by decide +kernel
theorem dX11_nameMet_17 : decode cX11_nameMet 17 = .ok (.aload_n 0, 1) := by decide +kernel
theorem dX11_nameMet_18 : decode cX11_nameMet 18 = .ok (.getfield 189, 3) := by decide +kernel
theorem dX11_nameMet_21 : decode cX11_nameMet 21 = .ok (.bipush 17, 2) := by decide +kernel
theorem dX11_nameMet_23 : decode cX11_nameMet 23 = .ok (.isub, 1) := by decide +kernel
theorem dX11_nameMet_24 : decode cX11_nameMet 24 = .ok (.goto 4, 3) := by decide +kernel
theorem dX11_nameMet_27 : decode cX11_nameMet 27 = .ok (.iconst (-1), 1) := by decide +kernel
theorem dX11_nameMet_28 : decode cX11_nameMet 28 = .ok (.ireturn, 1) := by decide +kernel
theorem dX11_leafRead_0 : decode cX11_leafRead 0 = .ok (.aload_n 0, 1) := by decide +kernel
theorem dX11_leafRead_1 : decode cX11_leafRead 1 = .ok (.bipush 40, 2) := by decide +kernel
theorem dX11_leafRead_3 : decode cX11_leafRead 3 = .ok (.invokevirtual 215, 3) := by decide +kernel
theorem dX11_leafRead_6 : decode cX11_leafRead 6 = .ok (.ifCond .eq 44, 3) := by decide +kernel
theorem dX11_leafRead_9 : decode cX11_leafRead 9 = .ok (.aload_n 0, 1) := by decide +kernel
theorem dX11_leafRead_10 : decode cX11_leafRead 10 = .ok (.getfield 315, 3) := by decide +kernel
theorem dX11_leafRead_13 : decode cX11_leafRead 13 = .ok (.bipush 8, 2) := by decide +kernel
theorem dX11_leafRead_15 : decode cX11_leafRead 15 = .ok (.if_icmp .ne 9, 3) := by decide +kernel
theorem dX11_leafRead_18 : decode cX11_leafRead 18 = .ok (.aload_n 0, 1) := by decide +kernel
theorem dX11_leafRead_19 : decode cX11_leafRead 19 = .ok (.iconst 2, 1) := by decide +kernel
theorem dX11_leafRead_20 : decode cX11_leafRead 20 = .ok (.invokevirtual 202, 3) := by decide +kernel
theorem dX11_leafRead_23 : decode cX11_leafRead 23 = .ok (.ireturn, 1) := by decide +kernel
theorem dX11_leafRead_24 : decode cX11_leafRead 24 = .ok (.aload_n 0, 1) := by decide +kernel
theorem dX11_leafRead_25 : decode cX11_leafRead 25 = .ok (.dup, 1) := by decide +kernel
theorem dX11_leafRead_26 : decode cX11_leafRead 26 = .ok (.getfield 315, 3) := by decide +kernel
theorem dX11_leafRead_29 : decode cX11_leafRead 29 = .ok (.iconst 1, 1) := by decide +kernel
theorem dX11_leafRead_30 : decode cX11_leafRead 30 = .ok (.iadd, 1) := by decide +kernel
theorem dX11_leafRead_31 : decode cX11_leafRead 31 = .ok (.putfield 315, 3) := by decide +kernel
theorem dX11_leafRead_34 : decode cX11_leafRead 34 = .ok (.aload_n 0, 1) := by decide +kernel
theorem dX11_leafRead_35 : decode cX11_leafRead 35 = .ok (.iconst 0, 1) := by decide +kernel
theorem dX11_leafRead_36 : decode cX11_leafRead 36 = .ok (.invokevirtual 318, 3) := by decide +kernel
theorem dX11_leafRead_39 : decode cX11_leafRead 39 = .ok (.aload_n 0, 1) := by decide +kernel
theorem dX11_leafRead_40 : decode cX11_leafRead 40 = .ok (.iconst 1, 1) := by decide +kernel
theorem dX11_leafRead_41 : decode cX11_leafRead 41 = .ok (.putfield 322, 3) := by decide +kernel
theorem dX11_leafRead_44 : decode cX11_leafRead 44 = .ok (.aload_n 0, 1) := by decide +kernel
theorem dX11_leafRead_45 : decode cX11_leafRead 45 = .ok (.invokevirtual 212, 3) := by decide +kernel
theorem dX11_leafRead_48 : decode cX11_leafRead 48 = .ok (.iconst 1, 1) := by decide +kernel
theorem dX11_leafRead_49 : decode cX11_leafRead 49 = .ok (.ireturn, 1) := by decide +kernel
theorem dX11_leafRead_50 : decode cX11_leafRead 50 = .ok (.aload_n 0, 1) := by decide +kernel
theorem dX11_leafRead_51 : decode cX11_leafRead 51 = .ok (.bipush 16, 2) := by decide +kernel
theorem dX11_leafRead_53 : decode cX11_leafRead 53 = .ok (.invokevirtual 326, 3) := by decide +kernel
theorem dX11_leafRead_56 : decode cX11_leafRead 56 = .ok (.ifCond .eq 30, 3) := by decide +kernel
theorem dX11_leafRead_59 : decode cX11_leafRead 59 = .ok (.aload_n 0, 1) := by decide +kernel
theorem dX11_leafRead_60 : decode cX11_leafRead 60 = .ok (.getfield 322, 3) := by decide +kernel
theorem dX11_leafRead_63 : decode cX11_leafRead 63 = .ok (.ifCond .eq 23, 3) := by decide +kernel
theorem dX11_leafRead_66 : decode cX11_leafRead 66 = .ok (.aload_n 0, 1) := by decide +kernel
theorem dX11_leafRead_67 : decode cX11_leafRead 67 = .ok (.invokevirtual 329, 3) := by decide +kernel
theorem dX11_leafRead_70 : decode cX11_leafRead 70 = .ok (.ifCond .ne 5, 3) := by decide +kernel
theorem dX11_leafRead_73 : decode cX11_leafRead 73 = .ok (.iconst 0, 1) := by decide +kernel
theorem dX11_leafRead_74 : decode cX11_leafRead 74 = .ok (.ireturn, 1) := by decide +kernel
theorem dX11_leafRead_75 : decode cX11_leafRead 75 = .ok (.aload_n 0, 1) := by decide +kernel
theorem dX11_leafRead_76 : decode cX11_leafRead 76 = .ok (.iconst 2, 1) := by decide +kernel
theorem dX11_leafRead_77 : decode cX11_leafRead 77 = .ok (.invokevirtual 318, 3) := by decide +kernel
theorem dX11_leafRead_80 : decode cX11_leafRead 80 = .ok (.aload_n 0, 1) := by decide +kernel
theorem dX11_leafRead_81 : decode cX11_leafRead 81 = .ok (.invokevirtual 212, 3) := by decide +kernel
theorem dX11_leafRead_84 : decode cX11_leafRead 84 = .ok (.iconst 1, 1) := by decide +kernel
theorem dX11_leafRead_85 : decode cX11_leafRead 85 = .ok (.ireturn, 1) := by decide +kernel
theorem dX11_leafRead_86 : decode cX11_leafRead 86 = .ok (.aload_n 0, 1) := by decide +kernel
theorem dX11_leafRead_87 : decode cX11_leafRead 87 = .ok (.invokevirtual 332, 3) := by decide +kernel
theorem dX11_leafRead_90 : decode cX11_leafRead 90 = .ok (.istore_n 1, 1) := by decide +kernel
theorem dX11_leafRead_91 : decode cX11_leafRead 91 = .ok (.iload_n 1, 1) := by decide +kernel
theorem dX11_leafRead_92 : decode cX11_leafRead 92 = .ok (.ifCond .ge 17, 3) := by decide +kernel
theorem dX11_leafRead_95 : decode cX11_leafRead 95 = .ok (.aload_n 0, 1) := by decide +kernel
theorem dX11_leafRead_96 : decode cX11_leafRead 96 = .ok (.getfield 178, 3) := by decide +kernel
theorem dX11_leafRead_99 : decode cX11_leafRead 99 = .ok (.iconst 3, 1) := by decide +kernel
theorem dX11_leafRead_100 : decode cX11_leafRead 100 = .ok (.if_icmp .eq 9, 3) := by decide +kernel
theorem dX11_leafRead_103 : decode cX11_leafRead 103 = .ok (.aload_n 0, 1) := by decide +kernel
theorem dX11_leafRead_104 : decode cX11_leafRead 104 = .ok (.iconst 1, 1) := by decide +kernel
theorem dX11_leafRead_105 : decode cX11_leafRead 105 = .ok (.invokevirtual 202, 3) := by decide +kernel
theorem dX11_leafRead_108 : decode cX11_leafRead 108 = .ok (.ireturn, 1) := by decide +kernel
theorem dX11_leafRead_109 : decode cX11_leafRead 109 = .ok (.iload_n 1, 1) := by decide +kernel
theorem dX11_leafRead_110 : decode cX11_leafRead 110 = .ok (.ifCond .ge 19, 3) := by decide +kernel
theorem dX11_leafRead_113 : decode cX11_leafRead 113 = .ok (.aload_n 0, 1) := by decide +kernel
theorem dX11_leafRead_114 : decode cX11_leafRead 114 = .ok (.getfield 189, 3) := by decide +kernel
theorem dX11_leafRead_117 : decode cX11_leafRead 117 = .ok (.sipush 9999, 3) := by decide +kernel
theorem dX11_leafRead_120 : decode cX11_leafRead 120 = .ok (.if_icmp .le 9, 3) := by decide +kernel
theorem dX11_leafRead_123 : decode cX11_leafRead 123 = .ok (.aload_n 0, 1) := by decide +kernel
theorem dX11_leafRead_124 : decode cX11_leafRead 124 = .ok (.iconst 2, 1) := by decide +kernel
theorem dX11_leafRead_125 : decode cX11_leafRead 125 = .ok (.invokevirtual 202, 3) := by decide +kernel
theorem dX11_leafRead_128 : decode cX11_leafRead 128 = .ok (.ireturn, 1) := by decide +kernel
theorem dX11_leafRead_129 : decode cX11_leafRead 129 = .ok (.aload_n 0, 1) := by decide +kernel
theorem dX11_leafRead_130 : decode cX11_leafRead 130 = .ok (.invokevirtual 329, 3) := by decide +kernel
theorem dX11_leafRead_133 : decode cX11_leafRead 133 = .ok (.ifCond .ne 5, 3) := by decide +kernel
theorem dX11_leafRead_136 : decode cX11_leafRead 136 = .ok (.iconst 0, 1) := by decide +kernel
theorem dX11_leafRead_137 : decode cX11_leafRead 137 = .ok (.ireturn, 1) := by decide +kernel
theorem dX11_leafRead_138 : decode cX11_leafRead 138 = .ok (.aload_n 0, 1) := by decide +kernel
theorem dX11_leafRead_139 : decode cX11_leafRead 139 = .ok (.iload_n 1, 1) := by decide +kernel
theorem dX11_leafRead_140 : decode cX11_leafRead 140 = .ok (.ifCond .lt 7, 3) := by decide +kernel
theorem dX11_leafRead_143 : decode cX11_leafRead 143 = .ok (.iconst 1, 1) := by decide +kernel
theorem dX11_leafRead_144 : decode cX11_leafRead 144 = .ok (.goto 4, 3) := by decide +kernel
theorem dX11_leafRead_147 : decode cX11_leafRead 147 = .ok (.iconst 0, 1) := by decide +kernel
theorem dX11_leafRead_148 : decode cX11_leafRead 148 = .ok (.iload_n 1, 1) := by decide +kernel
theorem dX11_leafRead_149 : decode cX11_leafRead 149 = .ok (.ifCond .lt 7, 3) := by decide +kernel
theorem dX11_leafRead_152 : decode cX11_leafRead 152 = .ok (.iload_n 1, 1) := by decide +kernel
theorem dX11_leafRead_153 : decode cX11_leafRead 153 = .ok (.goto 7, 3) := by decide +kernel
theorem dX11_leafRead_156 : decode cX11_leafRead 156 = .ok (.aload_n 0, 1) := by decide +kernel
theorem dX11_leafRead_157 : decode cX11_leafRead 157 = .ok (.getfield 189, 3) := by decide +kernel
theorem dX11_leafRead_160 : decode cX11_leafRead 160 = .ok (.iconst 0, 1) := by decide +kernel
theorem dX11_leafRead_161 : decode cX11_leafRead 161 = .ok (.invokevirtual 311, 3) := by decide +kernel
theorem dX11_leafRead_164 : decode cX11_leafRead 164 = .ok (.aload_n 0, 1) := by decide +kernel
theorem dX11_leafRead_165 : decode cX11_leafRead 165 = .ok (.iconst 0, 1) := by decide +kernel
theorem dX11_leafRead_166 : decode cX11_leafRead 166 = .ok (.putfield 335, 3) := by decide +kernel
theorem dX11_leafRead_169 : decode cX11_leafRead 169 = .ok (.aload_n 0, 1) := by decide +kernel
theorem dX11_leafRead_170 : decode cX11_leafRead 170 = .ok (.invokevirtual 212, 3) := by decide +kernel
theorem dX11_leafRead_173 : decode cX11_leafRead 173 = .ok (.iconst 1, 1) := by decide +kernel
theorem dX11_leafRead_174 : decode cX11_leafRead 174 = .ok (.ireturn, 1) := by decide +kernel
theorem dX11_signs_0 : decode cX11_signs 0 = .ok (.aload_n 0, 1) := by decide +kernel
theorem dX11_signs_1 : decode cX11_signs 1 = .ok (.bipush 41, 2) := by decide +kernel
theorem dX11_signs_3 : decode cX11_signs 3 = .ok (.invokevirtual 215, 3) := by decide +kernel
theorem dX11_signs_6 : decode cX11_signs 6 = .ok (.ifCond .eq 41, 3) := by decide +kernel
theorem dX11_signs_9 : decode cX11_signs 9 = .ok (.aload_n 0, 1) := by decide +kernel
theorem dX11_signs_10 : decode cX11_signs 10 = .ok (.getfield 315, 3) := by decide +kernel
theorem dX11_signs_13 : decode cX11_signs 13 = .ok (.ifCond .le 34, 3) := by decide +kernel
theorem dX11_signs_16 : decode cX11_signs 16 = .ok (.aload_n 0, 1) := by decide +kernel
theorem dX11_signs_17 : decode cX11_signs 17 = .ok (.iconst 1, 1) := by decide +kernel
theorem dX11_signs_18 : decode cX11_signs 18 = .ok (.invokevirtual 338, 3) := by decide +kernel
theorem dX11_signs_21 : decode cX11_signs 21 = .ok (.aload_n 0, 1) := by decide +kernel
theorem dX11_signs_22 : decode cX11_signs 22 = .ok (.dup, 1) := by decide +kernel
theorem dX11_signs_23 : decode cX11_signs 23 = .ok (.getfield 300, 3) := by decide +kernel
theorem dX11_signs_26 : decode cX11_signs 26 = .ok (.iconst 1, 1) := by decide +kernel
theorem dX11_signs_27 : decode cX11_signs 27 = .ok (.isub, 1) := by decide +kernel
theorem dX11_signs_28 : decode cX11_signs 28 = .ok (.putfield 300, 3) := by decide +kernel
theorem dX11_signs_31 : decode cX11_signs 31 = .ok (.aload_n 0, 1) := by decide +kernel
theorem dX11_signs_32 : decode cX11_signs 32 = .ok (.dup, 1) := by decide +kernel
theorem dX11_signs_33 : decode cX11_signs 33 = .ok (.getfield 315, 3) := by decide +kernel
theorem dX11_signs_36 : decode cX11_signs 36 = .ok (.iconst 1, 1) := by decide +kernel
theorem dX11_signs_37 : decode cX11_signs 37 = .ok (.isub, 1) := by decide +kernel
theorem dX11_signs_38 : decode cX11_signs 38 = .ok (.putfield 315, 3) := by decide +kernel
theorem dX11_signs_41 : decode cX11_signs 41 = .ok (.aload_n 0, 1) := by decide +kernel
theorem dX11_signs_42 : decode cX11_signs 42 = .ok (.invokevirtual 212, 3) := by decide +kernel
theorem dX11_signs_45 : decode cX11_signs 45 = .ok (.iconst 1, 1) := by decide +kernel
theorem dX11_signs_46 : decode cX11_signs 46 = .ok (.ireturn, 1) := by decide +kernel
theorem dX11_signs_47 : decode cX11_signs 47 = .ok (.aload_n 0, 1) := by decide +kernel
theorem dX11_signs_48 : decode cX11_signs 48 = .ok (.bipush 14, 2) := by decide +kernel
theorem dX11_signs_50 : decode cX11_signs 50 = .ok (.invokevirtual 326, 3) := by decide +kernel
theorem dX11_signs_53 : decode cX11_signs 53 = .ok (.ifCond .eq 7, 3) := by decide +kernel
theorem dX11_signs_56 : decode cX11_signs 56 = .ok (.iconst 3, 1) := by decide +kernel
theorem dX11_signs_57 : decode cX11_signs 57 = .ok (.goto 90, 3) := by decide +kernel
theorem dX11_signs_60 : decode cX11_signs 60 = .ok (.aload_n 0, 1) := by decide +kernel
theorem dX11_signs_61 : decode cX11_signs 61 = .ok (.bipush 15, 2) := by decide +kernel
theorem dX11_signs_63 : decode cX11_signs 63 = .ok (.invokevirtual 326, 3) := by decide +kernel
theorem dX11_signs_66 : decode cX11_signs 66 = .ok (.ifCond .eq 7, 3) := by decide +kernel
theorem dX11_signs_69 : decode cX11_signs 69 = .ok (.iconst 4, 1) := by decide +kernel
theorem dX11_signs_70 : decode cX11_signs 70 = .ok (.goto 77, 3) := by decide +kernel
theorem dX11_signs_73 : decode cX11_signs 73 = .ok (.aload_n 0, 1) := by decide +kernel
theorem dX11_signs_74 : decode cX11_signs 74 = .ok (.getfield 178, 3) := by decide +kernel
theorem dX11_signs_77 : decode cX11_signs 77 = .ok (.iconst 5, 1) := by decide +kernel
theorem dX11_signs_78 : decode cX11_signs 78 = .ok (.if_icmp .ne 12, 3) := by decide +kernel
theorem dX11_signs_81 : decode cX11_signs 81 = .ok (.iconst 5, 1) := by decide +kernel
theorem dX11_signs_82 : decode cX11_signs 82 = .ok (.aload_n 0, 1) := by decide +kernel
theorem dX11_signs_83 : decode cX11_signs 83 = .ok (.getfield 189, 3) := by decide +kernel
theorem dX11_signs_86 : decode cX11_signs 86 = .ok (.iadd, 1) := by decide +kernel
theorem dX11_signs_87 : decode cX11_signs 87 = .ok (.goto 60, 3) := by decide +kernel
theorem dX11_signs_90 : decode cX11_signs 90 = .ok (.aload_n 0, 1) := by decide +kernel
theorem dX11_signs_91 : decode cX11_signs 91 = .ok (.bipush 43, 2) := by decide +kernel
theorem dX11_signs_93 : decode cX11_signs 93 = .ok (.invokevirtual 215, 3) := by decide +kernel
theorem dX11_signs_96 : decode cX11_signs 96 = .ok (.ifCond .eq 8, 3) := by decide +kernel
theorem dX11_signs_99 : decode cX11_signs 99 = .ok (.bipush 11, 2) := by decide +kernel
theorem dX11_signs_101 : decode cX11_signs 101 = .ok (.goto 46, 3) := by decide +kernel
theorem dX11_signs_104 : decode cX11_signs 104 = .ok (.aload_n 0, 1) := by decide +kernel
theorem dX11_signs_105 : decode cX11_signs 105 = .ok (.bipush 45, 2) := by decide +kernel
theorem dX11_signs_107 : decode cX11_signs 107 = .ok (.invokevirtual 215, 3) := by decide +kernel
theorem dX11_signs_110 : decode cX11_signs 110 = .ok (.ifCond .eq 8, 3) := by decide +kernel
theorem dX11_signs_113 : decode cX11_signs 113 = .ok (.bipush 12, 2) := by decide +kernel
theorem dX11_signs_115 : decode cX11_signs 115 = .ok (.goto 32, 3) := by decide +kernel
theorem dX11_signs_118 : decode cX11_signs 118 = .ok (.aload_n 0, 1) := by decide +kernel
theorem dX11_signs_119 : decode cX11_signs 119 = .ok (.bipush 42, 2) := by decide +kernel
theorem dX11_signs_121 : decode cX11_signs 121 = .ok (.invokevirtual 215, 3) := by decide +kernel
theorem dX11_signs_124 : decode cX11_signs 124 = .ok (.ifCond .eq 8, 3) := by decide +kernel
theorem dX11_signs_127 : decode cX11_signs 127 = .ok (.bipush 13, 2) := by decide +kernel
theorem dX11_signs_129 : decode cX11_signs 129 = .ok (.goto 18, 3) := by decide +kernel
theorem dX11_signs_132 : decode cX11_signs 132 = .ok (.aload_n 0, 1) := by decide +kernel
theorem dX11_signs_133 : decode cX11_signs 133 = .ok (.bipush 47, 2) := by decide +kernel
theorem dX11_signs_135 : decode cX11_signs 135 = .ok (.invokevirtual 215, 3) := by decide +kernel
theorem dX11_signs_138 : decode cX11_signs 138 = .ok (.ifCond .eq 8, 3) := by decide +kernel
theorem dX11_signs_141 : decode cX11_signs 141 = .ok (.bipush 14, 2) := by decide +kernel
theorem dX11_signs_143 : decode cX11_signs 143 = .ok (.goto 4, 3) := by decide +kernel
theorem dX11_signs_146 : decode cX11_signs 146 = .ok (.iconst 0, 1) := by decide +kernel
theorem dX11_signs_147 : decode cX11_signs 147 = .ok (.istore_n 1, 1) := by decide +kernel
theorem dX11_signs_148 : decode cX11_signs 148 = .ok (.iload_n 1, 1) := by decide +kernel
theorem dX11_signs_149 : decode cX11_signs 149 = .ok (.ifCond .ne 9, 3) := by decide +kernel
theorem dX11_signs_152 : decode cX11_signs 152 = .ok (.aload_n 0, 1) := by decide +kernel
theorem dX11_signs_153 : decode cX11_signs 153 = .ok (.iconst 1, 1) := by decide +kernel
theorem dX11_signs_154 : decode cX11_signs 154 = .ok (.invokevirtual 202, 3) := by decide +kernel
theorem dX11_signs_157 : decode cX11_signs 157 = .ok (.ireturn, 1) := by decide +kernel
theorem dX11_signs_158 : decode cX11_signs 158 = .ok (.aload_n 0, 1) := by decide +kernel
theorem dX11_signs_159 : decode cX11_signs 159 = .ok (.iload_n 1, 1) := by decide +kernel
theorem dX11_signs_160 : decode cX11_signs 160 = .ok (.invokestatic 303, 3) := by decide +kernel
theorem dX11_signs_163 : decode cX11_signs 163 = .ok (.iconst 4, 1) := by decide +kernel
theorem dX11_signs_164 : decode cX11_signs 164 = .ok (.if_icmp .ne 7, 3) := by decide +kernel
theorem dX11_signs_167 : decode cX11_signs 167 = .ok (.iconst 5, 1) := by decide +kernel
theorem dX11_signs_168 : decode cX11_signs 168 = .ok (.goto 7, 3) := by decide +kernel
theorem dX11_signs_171 : decode cX11_signs 171 = .ok (.iload_n 1, 1) := by decide +kernel
theorem dX11_signs_172 : decode cX11_signs 172 = .ok (.invokestatic 303, 3) := by decide +kernel
theorem dX11_signs_175 : decode cX11_signs 175 = .ok (.invokevirtual 338, 3) := by decide +kernel
theorem dX11_signs_178 : decode cX11_signs 178 = .ok (.iload_n 1, 1) := by decide +kernel
theorem dX11_signs_179 : decode cX11_signs 179 = .ok (.invokestatic 303, 3) := by decide +kernel
theorem dX11_signs_182 : decode cX11_signs 182 = .ok (.iconst 4, 1) := by decide +kernel
theorem dX11_signs_183 : decode cX11_signs 183 = .ok (.if_icmp .ne 34, 3) := by decide +kernel
theorem dX11_signs_186 : decode cX11_signs 186 = .ok (.aload_n 0, 1) := by decide +kernel
theorem dX11_signs_187 : decode cX11_signs 187 = .ok (.getfield 300, 3) := by decide +kernel
theorem dX11_signs_190 : decode cX11_signs 190 = .ok (.ifCond .le 27, 3) := by decide +kernel
theorem dX11_signs_193 : decode cX11_signs 193 = .ok (.aload_n 0, 1) := by decide +kernel
theorem dX11_signs_194 : decode cX11_signs 194 = .ok (.getfield 75, 3) := by decide +kernel
theorem dX11_signs_197 : decode cX11_signs 197 = .ok (.aload_n 0, 1) := by decide +kernel
theorem dX11_signs_198 : decode cX11_signs 198 = .ok (.getfield 300, 3) := by decide +kernel
theorem dX11_signs_201 : decode cX11_signs 201 = .ok (.iconst 1, 1) := by decide +kernel
theorem dX11_signs_202 : decode cX11_signs 202 = .ok (.isub, 1) := by decide +kernel
theorem dX11_signs_203 : decode cX11_signs 203 = .ok (.iaload, 1) := by decide +kernel
theorem dX11_signs_204 : decode cX11_signs 204 = .ok (.invokestatic 303, 3) := by decide +kernel
theorem dX11_signs_207 : decode cX11_signs 207 = .ok (.iconst 4, 1) := by decide +kernel
theorem dX11_signs_208 : decode cX11_signs 208 = .ok (.if_icmp .ne 9, 3) := by decide +kernel
theorem dX11_signs_211 : decode cX11_signs 211 = .ok (.aload_n 0, 1) := by decide +kernel
theorem dX11_signs_212 : decode cX11_signs 212 = .ok (.iconst 1, 1) := by decide +kernel
theorem dX11_signs_213 : decode cX11_signs 213 = .ok (.invokevirtual 202, 3) := by decide +kernel
theorem dX11_signs_216 : decode cX11_signs 216 = .ok (.ireturn, 1) := by decide +kernel
theorem dX11_signs_217 : decode cX11_signs 217 = .ok (.aload_n 0, 1) := by decide +kernel
theorem dX11_signs_218 : decode cX11_signs 218 = .ok (.invokevirtual 329, 3) := by decide +kernel
theorem dX11_signs_221 : decode cX11_signs 221 = .ok (.ifCond .ne 5, 3) := by decide +kernel
theorem dX11_signs_224 : decode cX11_signs 224 = .ok (.iconst 0, 1) := by decide +kernel
theorem dX11_signs_225 : decode cX11_signs 225 = .ok (.ireturn, 1) := by decide +kernel
theorem dX11_signs_226 : decode cX11_signs 226 = .ok (.aload_n 0, 1) := by decide +kernel
theorem dX11_signs_227 : decode cX11_signs 227 = .ok (.iload_n 1, 1) := by decide +kernel
theorem dX11_signs_228 : decode cX11_signs 228 = .ok (.invokevirtual 318, 3) := by decide +kernel
theorem dX11_signs_231 : decode cX11_signs 231 = .ok (.aload_n 0, 1) := by decide +kernel
theorem dX11_signs_232 : decode cX11_signs 232 = .ok (.iconst 1, 1) := by decide +kernel
theorem dX11_signs_233 : decode cX11_signs 233 = .ok (.putfield 335, 3) := by decide +kernel
theorem dX11_signs_236 : decode cX11_signs 236 = .ok (.aload_n 0, 1) := by decide +kernel
theorem dX11_signs_237 : decode cX11_signs 237 = .ok (.iload_n 1, 1) := by decide +kernel
theorem dX11_signs_238 : decode cX11_signs 238 = .ok (.invokestatic 303, 3) := by decide +kernel
theorem dX11_signs_241 : decode cX11_signs 241 = .ok (.iconst 3, 1) := by decide +kernel
theorem dX11_signs_242 : decode cX11_signs 242 = .ok (.if_icmp .ge 7, 3) := by decide +kernel
theorem dX11_signs_245 : decode cX11_signs 245 = .ok (.iconst 1, 1) := by decide +kernel
theorem dX11_signs_246 : decode cX11_signs 246 = .ok (.goto 4, 3) := by decide +kernel
theorem dX11_signs_249 : decode cX11_signs 249 = .ok (.iconst 0, 1) := by decide +kernel
theorem dX11_signs_250 : decode cX11_signs 250 = .ok (.putfield 322, 3) := by decide +kernel
theorem dX11_signs_253 : decode cX11_signs 253 = .ok (.aload_n 0, 1) := by decide +kernel
theorem dX11_signs_254 : decode cX11_signs 254 = .ok (.invokevirtual 212, 3) := by decide +kernel
theorem dX11_signs_257 : decode cX11_signs 257 = .ok (.iconst 1, 1) := by decide +kernel
theorem dX11_signs_258 : decode cX11_signs 258 = .ok (.ireturn, 1) := by decide +kernel
theorem dX11_sumRead_0 : decode cX11_sumRead 0 = .ok (.aload_n 0, 1) := by decide +kernel
theorem dX11_sumRead_1 : decode cX11_sumRead 1 = .ok (.iconst 0, 1) := by decide +kernel
theorem dX11_sumRead_2 : decode cX11_sumRead 2 = .ok (.putfield 300, 3) := by decide +kernel
theorem dX11_sumRead_5 : decode cX11_sumRead 5 = .ok (.aload_n 0, 1) := by decide +kernel
theorem dX11_sumRead_6 : decode cX11_sumRead 6 = .ok (.iconst 0, 1) := by decide +kernel
theorem dX11_sumRead_7 : decode cX11_sumRead 7 = .ok (.putfield 297, 3) := by decide +kernel
theorem dX11_sumRead_10 : decode cX11_sumRead 10 = .ok (.aload_n 0, 1) := by decide +kernel
theorem dX11_sumRead_11 : decode cX11_sumRead 11 = .ok (.iconst 0, 1) := by decide +kernel
theorem dX11_sumRead_12 : decode cX11_sumRead 12 = .ok (.putfield 315, 3) := by decide +kernel
theorem dX11_sumRead_15 : decode cX11_sumRead 15 = .ok (.aload_n 0, 1) := by decide +kernel
theorem dX11_sumRead_16 : decode cX11_sumRead 16 = .ok (.iconst 1, 1) := by decide +kernel
theorem dX11_sumRead_17 : decode cX11_sumRead 17 = .ok (.putfield 335, 3) := by decide +kernel
theorem dX11_sumRead_20 : decode cX11_sumRead 20 = .ok (.aload_n 0, 1) := by decide +kernel
theorem dX11_sumRead_21 : decode cX11_sumRead 21 = .ok (.iconst 1, 1) := by decide +kernel
theorem dX11_sumRead_22 : decode cX11_sumRead 22 = .ok (.putfield 322, 3) := by decide +kernel
theorem dX11_sumRead_25 : decode cX11_sumRead 25 = .ok (.aload_n 0, 1) := by decide +kernel
theorem dX11_sumRead_26 : decode cX11_sumRead 26 = .ok (.bipush 59, 2) := by decide +kernel
theorem dX11_sumRead_28 : decode cX11_sumRead 28 = .ok (.invokevirtual 215, 3) := by decide +kernel
theorem dX11_sumRead_31 : decode cX11_sumRead 31 = .ok (.ifCond .eq 17, 3) := by decide +kernel
theorem dX11_sumRead_34 : decode cX11_sumRead 34 = .ok (.aload_n 0, 1) := by decide +kernel
theorem dX11_sumRead_35 : decode cX11_sumRead 35 = .ok (.getfield 335, 3) := by decide +kernel
theorem dX11_sumRead_38 : decode cX11_sumRead 38 = .ok (.ifCond .ne 10, 3) := by decide +kernel
theorem dX11_sumRead_41 : decode cX11_sumRead 41 = .ok (.aload_n 0, 1) := by decide +kernel
theorem dX11_sumRead_42 : decode cX11_sumRead 42 = .ok (.getfield 315, 3) := by decide +kernel
theorem dX11_sumRead_45 : decode cX11_sumRead 45 = .ok (.ifCond .le 29, 3) := by decide +kernel
theorem dX11_sumRead_48 : decode cX11_sumRead 48 = .ok (.aload_n 0, 1) := by decide +kernel
theorem dX11_sumRead_49 : decode cX11_sumRead 49 = .ok (.getfield 335, 3) := by decide +kernel
theorem dX11_sumRead_52 : decode cX11_sumRead 52 = .ok (.ifCond .eq 13, 3) := by decide +kernel
theorem dX11_sumRead_55 : decode cX11_sumRead 55 = .ok (.aload_n 0, 1) := by decide +kernel
theorem dX11_sumRead_56 : decode cX11_sumRead 56 = .ok (.invokevirtual 341, 3) := by decide +kernel
theorem dX11_sumRead_59 : decode cX11_sumRead 59 = .ok (.ifCond .eq 13, 3) := by decide +kernel
theorem dX11_sumRead_62 : decode cX11_sumRead 62 = .ok (.goto (-37), 3) := by decide +kernel
theorem dX11_sumRead_65 : decode cX11_sumRead 65 = .ok (.aload_n 0, 1) := by decide +kernel
theorem dX11_sumRead_66 : decode cX11_sumRead 66 = .ok (.invokevirtual 344, 3) := by decide +kernel
theorem dX11_sumRead_69 : decode cX11_sumRead 69 = .ok (.ifCond .ne (-44), 3) := by decide +kernel
theorem dX11_sumRead_72 : decode cX11_sumRead 72 = .ok (.iconst 0, 1) := by decide +kernel
theorem dX11_sumRead_73 : decode cX11_sumRead 73 = .ok (.ireturn, 1) := by decide +kernel
theorem dX11_sumRead_74 : decode cX11_sumRead 74 = .ok (.aload_n 0, 1) := by decide +kernel
theorem dX11_sumRead_75 : decode cX11_sumRead 75 = .ok (.iconst 1, 1) := by decide +kernel
theorem dX11_sumRead_76 : decode cX11_sumRead 76 = .ok (.invokevirtual 338, 3) := by decide +kernel
theorem dX11_sumRead_79 : decode cX11_sumRead 79 = .ok (.iconst 1, 1) := by decide +kernel
theorem dX11_sumRead_80 : decode cX11_sumRead 80 = .ok (.ireturn, 1) := by decide +kernel
theorem dX11_bounded_0 : decode cX11_bounded 0 = .ok (.aload_n 0, 1) := by decide +kernel
theorem dX11_bounded_1 : decode cX11_bounded 1 = .ok (.aload_n 0, 1) := by decide +kernel
theorem dX11_bounded_2 : decode cX11_bounded 2 = .ok (.getfield 347, 3) := by decide +kernel
theorem dX11_bounded_5 : decode cX11_bounded 5 = .ok (.ifCond .ne 19, 3) := by decide +kernel
theorem dX11_bounded_8 : decode cX11_bounded 8 = .ok (.lload_n 1, 1) := by decide +kernel
theorem dX11_bounded_9 : decode cX11_bounded 9 = .ok (.ldc2_w 350, 3) := by decide +kernel
theorem dX11_bounded_12 : decode cX11_bounded 12 = .ok (.lcmp, 1) := by decide +kernel
theorem dX11_bounded_13 : decode cX11_bounded 13 = .ok (.ifCond .gt 11, 3) := by decide +kernel
theorem dX11_bounded_16 : decode cX11_bounded 16 = .ok (.lload_n 1, 1) := by decide +kernel
theorem dX11_bounded_17 : decode cX11_bounded 17 = .ok (.ldc2_w 352, 3) := by decide +kernel
theorem dX11_bounded_20 : decode cX11_bounded 20 = .ok (.lcmp, 1) := by decide +kernel
theorem dX11_bounded_21 : decode cX11_bounded 21 = .ok (.ifCond .ge 7, 3) := by decide +kernel
theorem dX11_bounded_24 : decode cX11_bounded 24 = .ok (.iconst 1, 1) := by decide +kernel
theorem dX11_bounded_25 : decode cX11_bounded 25 = .ok (.goto 4, 3) := by decide +kernel
theorem dX11_bounded_28 : decode cX11_bounded 28 = .ok (.iconst 0, 1) := by decide +kernel
theorem dX11_bounded_29 : decode cX11_bounded 29 = .ok (.putfield 347, 3) := by decide +kernel
theorem dX11_bounded_32 : decode cX11_bounded 32 = .ok (.aload_n 0, 1) := by decide +kernel
theorem dX11_bounded_33 : decode cX11_bounded 33 = .ok (.getfield 347, 3) := by decide +kernel
theorem dX11_bounded_36 : decode cX11_bounded 36 = .ok (.ifCond .eq 7, 3) := by decide +kernel
theorem dX11_bounded_39 : decode cX11_bounded 39 = .ok (.lconst 0, 1) := by decide +kernel
theorem dX11_bounded_40 : decode cX11_bounded 40 = .ok (.goto 4, 3) := by decide +kernel
theorem dX11_bounded_43 : decode cX11_bounded 43 = .ok (.lload_n 1, 1) := by decide +kernel
theorem dX11_bounded_44 : decode cX11_bounded 44 = .ok (.lreturn, 1) := by decide +kernel
theorem dX11_compares_0 : decode cX11_compares 0 = .ok (.iload_n 0, 1) := by decide +kernel
theorem dX11_compares_1 : decode cX11_compares 1 = .ok (.tableswitch 95 5 9 #[35, 47, 59, 71, 83], 35) := by decide +kernel
theorem dX11_compares_36 : decode cX11_compares 36 = .ok (.lload_n 1, 1) := by decide +kernel
theorem dX11_compares_37 : decode cX11_compares 37 = .ok (.lload_n 3, 1) := by decide +kernel
theorem dX11_compares_38 : decode cX11_compares 38 = .ok (.lcmp, 1) := by decide +kernel
theorem dX11_compares_39 : decode cX11_compares 39 = .ok (.ifCond .ge 7, 3) := by decide +kernel
theorem dX11_compares_42 : decode cX11_compares 42 = .ok (.iconst 1, 1) := by decide +kernel
theorem dX11_compares_43 : decode cX11_compares 43 = .ok (.goto 4, 3) := by decide +kernel
theorem dX11_compares_46 : decode cX11_compares 46 = .ok (.iconst 0, 1) := by decide +kernel
theorem dX11_compares_47 : decode cX11_compares 47 = .ok (.ireturn, 1) := by decide +kernel
theorem dX11_compares_48 : decode cX11_compares 48 = .ok (.lload_n 1, 1) := by decide +kernel
theorem dX11_compares_49 : decode cX11_compares 49 = .ok (.lload_n 3, 1) := by decide +kernel
theorem dX11_compares_50 : decode cX11_compares 50 = .ok (.lcmp, 1) := by decide +kernel
theorem dX11_compares_51 : decode cX11_compares 51 = .ok (.ifCond .gt 7, 3) := by decide +kernel
theorem dX11_compares_54 : decode cX11_compares 54 = .ok (.iconst 1, 1) := by decide +kernel
theorem dX11_compares_55 : decode cX11_compares 55 = .ok (.goto 4, 3) := by decide +kernel
theorem dX11_compares_58 : decode cX11_compares 58 = .ok (.iconst 0, 1) := by decide +kernel
theorem dX11_compares_59 : decode cX11_compares 59 = .ok (.ireturn, 1) := by decide +kernel
theorem dX11_compares_60 : decode cX11_compares 60 = .ok (.lload_n 1, 1) := by decide +kernel
theorem dX11_compares_61 : decode cX11_compares 61 = .ok (.lload_n 3, 1) := by decide +kernel
theorem dX11_compares_62 : decode cX11_compares 62 = .ok (.lcmp, 1) := by decide +kernel
theorem dX11_compares_63 : decode cX11_compares 63 = .ok (.ifCond .ne 7, 3) := by decide +kernel
theorem dX11_compares_66 : decode cX11_compares 66 = .ok (.iconst 1, 1) := by decide +kernel
theorem dX11_compares_67 : decode cX11_compares 67 = .ok (.goto 4, 3) := by decide +kernel
theorem dX11_compares_70 : decode cX11_compares 70 = .ok (.iconst 0, 1) := by decide +kernel
theorem dX11_compares_71 : decode cX11_compares 71 = .ok (.ireturn, 1) := by decide +kernel
theorem dX11_compares_72 : decode cX11_compares 72 = .ok (.lload_n 1, 1) := by decide +kernel
theorem dX11_compares_73 : decode cX11_compares 73 = .ok (.lload_n 3, 1) := by decide +kernel
theorem dX11_compares_74 : decode cX11_compares 74 = .ok (.lcmp, 1) := by decide +kernel
theorem dX11_compares_75 : decode cX11_compares 75 = .ok (.ifCond .eq 7, 3) := by decide +kernel
theorem dX11_compares_78 : decode cX11_compares 78 = .ok (.iconst 1, 1) := by decide +kernel
theorem dX11_compares_79 : decode cX11_compares 79 = .ok (.goto 4, 3) := by decide +kernel
theorem dX11_compares_82 : decode cX11_compares 82 = .ok (.iconst 0, 1) := by decide +kernel
theorem dX11_compares_83 : decode cX11_compares 83 = .ok (.ireturn, 1) := by decide +kernel
theorem dX11_compares_84 : decode cX11_compares 84 = .ok (.lload_n 1, 1) := by decide +kernel
theorem dX11_compares_85 : decode cX11_compares 85 = .ok (.lload_n 3, 1) := by decide +kernel
theorem dX11_compares_86 : decode cX11_compares 86 = .ok (.lcmp, 1) := by decide +kernel
theorem dX11_compares_87 : decode cX11_compares 87 = .ok (.ifCond .lt 7, 3) := by decide +kernel
theorem dX11_compares_90 : decode cX11_compares 90 = .ok (.iconst 1, 1) := by decide +kernel
theorem dX11_compares_91 : decode cX11_compares 91 = .ok (.goto 4, 3) := by decide +kernel
theorem dX11_compares_94 : decode cX11_compares 94 = .ok (.iconst 0, 1) := by decide +kernel
theorem dX11_compares_95 : decode cX11_compares 95 = .ok (.ireturn, 1) := by decide +kernel
theorem dX11_compares_96 : decode cX11_compares 96 = .ok (.lload_n 1, 1) := by decide +kernel
theorem dX11_compares_97 : decode cX11_compares 97 = .ok (.lload_n 3, 1) := by decide +kernel
theorem dX11_compares_98 : decode cX11_compares 98 = .ok (.lcmp, 1) := by decide +kernel
theorem dX11_compares_99 : decode cX11_compares 99 = .ok (.ifCond .le 7, 3) := by decide +kernel
theorem dX11_compares_102 : decode cX11_compares 102 = .ok (.iconst 1, 1) := by decide +kernel
theorem dX11_compares_103 : decode cX11_compares 103 = .ok (.goto 4, 3) := by decide +kernel
theorem dX11_compares_106 : decode cX11_compares 106 = .ok (.iconst 0, 1) := by decide +kernel
theorem dX11_compares_107 : decode cX11_compares 107 = .ok (.ireturn, 1) := by decide +kernel
theorem dX11_times_0 : decode cX11_times 0 = .ok (.lload_n 1, 1) := by decide +kernel
theorem dX11_times_1 : decode cX11_times 1 = .ok (.lconst 0, 1) := by decide +kernel
theorem dX11_times_2 : decode cX11_times 2 = .ok (.lcmp, 1) := by decide +kernel
theorem dX11_times_3 : decode cX11_times 3 = .ok (.ifCond .eq 45, 3) := by decide +kernel
theorem dX11_times_6 : decode cX11_times 6 = .ok (.lload_n 3, 1) := by decide +kernel
theorem dX11_times_7 : decode cX11_times 7 = .ok (.lconst 0, 1) := by decide +kernel
theorem dX11_times_8 : decode cX11_times 8 = .ok (.lcmp, 1) := by decide +kernel
theorem dX11_times_9 : decode cX11_times 9 = .ok (.ifCond .eq 39, 3) := by decide +kernel
theorem dX11_times_12 : decode cX11_times 12 = .ok (.lload_n 3, 1) := by decide +kernel
theorem dX11_times_13 : decode cX11_times 13 = .ok (.lconst 0, 1) := by decide +kernel
theorem dX11_times_14 : decode cX11_times 14 = .ok (.lcmp, 1) := by decide +kernel
theorem dX11_times_15 : decode cX11_times 15 = .ok (.ifCond .ge 8, 3) := by decide +kernel
theorem dX11_times_18 : decode cX11_times 18 = .ok (.lload_n 3, 1) := by decide +kernel
theorem dX11_times_19 : decode cX11_times 19 = .ok (.lneg, 1) := by decide +kernel
theorem dX11_times_20 : decode cX11_times 20 = .ok (.goto 4, 3) := by decide +kernel
theorem dX11_times_23 : decode cX11_times 23 = .ok (.lload_n 3, 1) := by decide +kernel
theorem dX11_times_24 : decode cX11_times 24 = .ok (.ldc2_w 350, 3) := by decide +kernel
theorem dX11_times_27 : decode cX11_times 27 = .ok (.lload_n 1, 1) := by decide +kernel
theorem dX11_times_28 : decode cX11_times 28 = .ok (.lconst 0, 1) := by decide +kernel
theorem dX11_times_29 : decode cX11_times 29 = .ok (.lcmp, 1) := by decide +kernel
theorem dX11_times_30 : decode cX11_times 30 = .ok (.ifCond .ge 8, 3) := by decide +kernel
theorem dX11_times_33 : decode cX11_times 33 = .ok (.lload_n 1, 1) := by decide +kernel
theorem dX11_times_34 : decode cX11_times 34 = .ok (.lneg, 1) := by decide +kernel
theorem dX11_times_35 : decode cX11_times 35 = .ok (.goto 4, 3) := by decide +kernel
theorem dX11_times_38 : decode cX11_times 38 = .ok (.lload_n 1, 1) := by decide +kernel
theorem dX11_times_39 : decode cX11_times 39 = .ok (.ldiv, 1) := by decide +kernel
theorem dX11_times_40 : decode cX11_times 40 = .ok (.lcmp, 1) := by decide +kernel
theorem dX11_times_41 : decode cX11_times 41 = .ok (.ifCond .le 7, 3) := by decide +kernel
theorem dX11_times_44 : decode cX11_times 44 = .ok (.iconst 1, 1) := by decide +kernel
theorem dX11_times_45 : decode cX11_times 45 = .ok (.goto 4, 3) := by decide +kernel
theorem dX11_times_48 : decode cX11_times 48 = .ok (.iconst 0, 1) := by decide +kernel
theorem dX11_times_49 : decode cX11_times 49 = .ok (.istore 5, 2) := by decide +kernel
theorem dX11_times_51 : decode cX11_times 51 = .ok (.aload_n 0, 1) := by decide +kernel
theorem dX11_times_52 : decode cX11_times 52 = .ok (.aload_n 0, 1) := by decide +kernel
theorem dX11_times_53 : decode cX11_times 53 = .ok (.getfield 347, 3) := by decide +kernel
theorem dX11_times_56 : decode cX11_times 56 = .ok (.ifCond .ne 8, 3) := by decide +kernel
theorem dX11_times_59 : decode cX11_times 59 = .ok (.iload 5, 2) := by decide +kernel
theorem dX11_times_61 : decode cX11_times 61 = .ok (.ifCond .eq 7, 3) := by decide +kernel
theorem dX11_times_64 : decode cX11_times 64 = .ok (.iconst 1, 1) := by decide +kernel
theorem dX11_times_65 : decode cX11_times 65 = .ok (.goto 4, 3) := by decide +kernel
theorem dX11_times_68 : decode cX11_times 68 = .ok (.iconst 0, 1) := by decide +kernel
theorem dX11_times_69 : decode cX11_times 69 = .ok (.putfield 347, 3) := by decide +kernel
theorem dX11_times_72 : decode cX11_times 72 = .ok (.aload_n 0, 1) := by decide +kernel
theorem dX11_times_73 : decode cX11_times 73 = .ok (.getfield 347, 3) := by decide +kernel
theorem dX11_times_76 : decode cX11_times 76 = .ok (.ifCond .eq 7, 3) := by decide +kernel
theorem dX11_times_79 : decode cX11_times 79 = .ok (.lconst 0, 1) := by decide +kernel
theorem dX11_times_80 : decode cX11_times 80 = .ok (.goto 6, 3) := by decide +kernel
theorem dX11_times_83 : decode cX11_times 83 = .ok (.lload_n 1, 1) := by decide +kernel
theorem dX11_times_84 : decode cX11_times 84 = .ok (.lload_n 3, 1) := by decide +kernel
theorem dX11_times_85 : decode cX11_times 85 = .ok (.lmul, 1) := by decide +kernel
theorem dX11_times_86 : decode cX11_times 86 = .ok (.lreturn, 1) := by decide +kernel
theorem dX11_valueOf_0 : decode cX11_valueOf 0 = .ok (.aload_n 0, 1) := by decide +kernel
theorem dX11_valueOf_1 : decode cX11_valueOf 1 = .ok (.getfield 66, 3) := by decide +kernel
theorem dX11_valueOf_4 : decode cX11_valueOf 4 = .ok (.iload_n 1, 1) := by decide +kernel
theorem dX11_valueOf_5 : decode cX11_valueOf 5 = .ok (.iaload, 1) := by decide +kernel
theorem dX11_valueOf_6 : decode cX11_valueOf 6 = .ok (.ifCond .ne 11, 3) := by decide +kernel
theorem dX11_valueOf_9 : decode cX11_valueOf 9 = .ok (.aload_n 0, 1) := by decide +kernel
theorem dX11_valueOf_10 : decode cX11_valueOf 10 = .ok (.getfield 69, 3) := by decide +kernel
theorem dX11_valueOf_13 : decode cX11_valueOf 13 = .ok (.iload_n 1, 1) := by decide +kernel
theorem dX11_valueOf_14 : decode cX11_valueOf 14 = .ok (.iaload, 1) := by decide +kernel
theorem dX11_valueOf_15 : decode cX11_valueOf 15 = .ok (.i2l, 1) := by decide +kernel
theorem dX11_valueOf_16 : decode cX11_valueOf 16 = .ok (.lreturn, 1) := by decide +kernel
theorem dX11_valueOf_17 : decode cX11_valueOf 17 = .ok (.aload_n 0, 1) := by decide +kernel
theorem dX11_valueOf_18 : decode cX11_valueOf 18 = .ok (.getfield 66, 3) := by decide +kernel
theorem dX11_valueOf_21 : decode cX11_valueOf 21 = .ok (.iload_n 1, 1) := by decide +kernel
theorem dX11_valueOf_22 : decode cX11_valueOf 22 = .ok (.iaload, 1) := by decide +kernel
theorem dX11_valueOf_23 : decode cX11_valueOf 23 = .ok (.iconst 1, 1) := by decide +kernel
theorem dX11_valueOf_24 : decode cX11_valueOf 24 = .ok (.if_icmp .ne 15, 3) := by decide +kernel
theorem dX11_valueOf_27 : decode cX11_valueOf 27 = .ok (.aload_n 0, 1) := by decide +kernel
theorem dX11_valueOf_28 : decode cX11_valueOf 28 = .ok (.getfield 81, 3) := by decide +kernel
theorem dX11_valueOf_31 : decode cX11_valueOf 31 = .ok (.aload_n 0, 1) := by decide +kernel
theorem dX11_valueOf_32 : decode cX11_valueOf 32 = .ok (.getfield 69, 3) := by decide +kernel
theorem dX11_valueOf_35 : decode cX11_valueOf 35 = .ok (.iload_n 1, 1) := by decide +kernel
theorem dX11_valueOf_36 : decode cX11_valueOf 36 = .ok (.iaload, 1) := by decide +kernel
theorem dX11_valueOf_37 : decode cX11_valueOf 37 = .ok (.laload, 1) := by decide +kernel
theorem dX11_valueOf_38 : decode cX11_valueOf 38 = .ok (.lreturn, 1) := by decide +kernel
theorem dX11_valueOf_39 : decode cX11_valueOf 39 = .ok (.aload_n 0, 1) := by decide +kernel
theorem dX11_valueOf_40 : decode cX11_valueOf 40 = .ok (.getfield 85, 3) := by decide +kernel
theorem dX11_valueOf_43 : decode cX11_valueOf 43 = .ok (.aload_n 0, 1) := by decide +kernel
theorem dX11_valueOf_44 : decode cX11_valueOf 44 = .ok (.getfield 69, 3) := by decide +kernel
theorem dX11_valueOf_47 : decode cX11_valueOf 47 = .ok (.iload_n 1, 1) := by decide +kernel
theorem dX11_valueOf_48 : decode cX11_valueOf 48 = .ok (.iaload, 1) := by decide +kernel
theorem dX11_valueOf_49 : decode cX11_valueOf 49 = .ok (.laload, 1) := by decide +kernel
theorem dX11_valueOf_50 : decode cX11_valueOf 50 = .ok (.lstore_n 2, 1) := by decide +kernel
theorem dX11_valueOf_51 : decode cX11_valueOf 51 = .ok (.aload_n 0, 1) := by decide +kernel
theorem dX11_valueOf_52 : decode cX11_valueOf 52 = .ok (.getfield 66, 3) := by decide +kernel
theorem dX11_valueOf_55 : decode cX11_valueOf 55 = .ok (.iload_n 1, 1) := by decide +kernel
theorem dX11_valueOf_56 : decode cX11_valueOf 56 = .ok (.iaload, 1) := by decide +kernel
theorem dX11_valueOf_57 : decode cX11_valueOf 57 = .ok (.iconst 2, 1) := by decide +kernel
theorem dX11_valueOf_58 : decode cX11_valueOf 58 = .ok (.if_icmp .ne 15, 3) := by decide +kernel
theorem dX11_valueOf_61 : decode cX11_valueOf 61 = .ok (.lload_n 2, 1) := by decide +kernel
theorem dX11_valueOf_62 : decode cX11_valueOf 62 = .ok (.lconst 0, 1) := by decide +kernel
theorem dX11_valueOf_63 : decode cX11_valueOf 63 = .ok (.lcmp, 1) := by decide +kernel
theorem dX11_valueOf_64 : decode cX11_valueOf 64 = .ok (.ifCond .ne 7, 3) := by decide +kernel
theorem dX11_valueOf_67 : decode cX11_valueOf 67 = .ok (.lconst 1, 1) := by decide +kernel
theorem dX11_valueOf_68 : decode cX11_valueOf 68 = .ok (.goto 4, 3) := by decide +kernel
theorem dX11_valueOf_71 : decode cX11_valueOf 71 = .ok (.lconst 0, 1) := by decide +kernel
theorem dX11_valueOf_72 : decode cX11_valueOf 72 = .ok (.lreturn, 1) := by decide +kernel
theorem dX11_valueOf_73 : decode cX11_valueOf 73 = .ok (.aload_n 0, 1) := by decide +kernel
theorem dX11_valueOf_74 : decode cX11_valueOf 74 = .ok (.getfield 85, 3) := by decide +kernel
theorem dX11_valueOf_77 : decode cX11_valueOf 77 = .ok (.aload_n 0, 1) := by decide +kernel
theorem dX11_valueOf_78 : decode cX11_valueOf 78 = .ok (.getfield 72, 3) := by decide +kernel
theorem dX11_valueOf_81 : decode cX11_valueOf 81 = .ok (.iload_n 1, 1) := by decide +kernel
theorem dX11_valueOf_82 : decode cX11_valueOf 82 = .ok (.iaload, 1) := by decide +kernel
theorem dX11_valueOf_83 : decode cX11_valueOf 83 = .ok (.laload, 1) := by decide +kernel
theorem dX11_valueOf_84 : decode cX11_valueOf 84 = .ok (.lstore 4, 2) := by decide +kernel
theorem dX11_valueOf_86 : decode cX11_valueOf 86 = .ok (.aload_n 0, 1) := by decide +kernel
theorem dX11_valueOf_87 : decode cX11_valueOf 87 = .ok (.getfield 66, 3) := by decide +kernel
theorem dX11_valueOf_90 : decode cX11_valueOf 90 = .ok (.iload_n 1, 1) := by decide +kernel
theorem dX11_valueOf_91 : decode cX11_valueOf 91 = .ok (.iaload, 1) := by decide +kernel
theorem dX11_valueOf_92 : decode cX11_valueOf 92 = .ok (.tableswitch 167 3 14 #[64, 83, 167, 167, 167, 167, 167, 167, 102, 111, 120, 128], 64) := by decide +kernel
theorem dX11_valueOf_156 : decode cX11_valueOf 156 = .ok (.lload_n 2, 1) := by decide +kernel
theorem dX11_valueOf_157 : decode cX11_valueOf 157 = .ok (.lconst 0, 1) := by decide +kernel
theorem dX11_valueOf_158 : decode cX11_valueOf 158 = .ok (.lcmp, 1) := by decide +kernel
theorem dX11_valueOf_159 : decode cX11_valueOf 159 = .ok (.ifCond .eq 14, 3) := by decide +kernel
theorem dX11_valueOf_162 : decode cX11_valueOf 162 = .ok (.lload 4, 2) := by decide +kernel
theorem dX11_valueOf_164 : decode cX11_valueOf 164 = .ok (.lconst 0, 1) := by decide +kernel
theorem dX11_valueOf_165 : decode cX11_valueOf 165 = .ok (.lcmp, 1) := by decide +kernel
theorem dX11_valueOf_166 : decode cX11_valueOf 166 = .ok (.ifCond .eq 7, 3) := by decide +kernel
theorem dX11_valueOf_169 : decode cX11_valueOf 169 = .ok (.lconst 1, 1) := by decide +kernel
theorem dX11_valueOf_170 : decode cX11_valueOf 170 = .ok (.goto 4, 3) := by decide +kernel
theorem dX11_valueOf_173 : decode cX11_valueOf 173 = .ok (.lconst 0, 1) := by decide +kernel
theorem dX11_valueOf_174 : decode cX11_valueOf 174 = .ok (.lreturn, 1) := by decide +kernel
theorem dX11_valueOf_175 : decode cX11_valueOf 175 = .ok (.lload_n 2, 1) := by decide +kernel
theorem dX11_valueOf_176 : decode cX11_valueOf 176 = .ok (.lconst 0, 1) := by decide +kernel
theorem dX11_valueOf_177 : decode cX11_valueOf 177 = .ok (.lcmp, 1) := by decide +kernel
theorem dX11_valueOf_178 : decode cX11_valueOf 178 = .ok (.ifCond .ne 10, 3) := by decide +kernel
theorem dX11_valueOf_181 : decode cX11_valueOf 181 = .ok (.lload 4, 2) := by decide +kernel
theorem dX11_valueOf_183 : decode cX11_valueOf 183 = .ok (.lconst 0, 1) := by decide +kernel
theorem dX11_valueOf_184 : decode cX11_valueOf 184 = .ok (.lcmp, 1) := by decide +kernel
theorem dX11_valueOf_185 : decode cX11_valueOf 185 = .ok (.ifCond .eq 7, 3) := by decide +kernel
theorem dX11_valueOf_188 : decode cX11_valueOf 188 = .ok (.lconst 1, 1) := by decide +kernel
theorem dX11_valueOf_189 : decode cX11_valueOf 189 = .ok (.goto 4, 3) := by decide +kernel
theorem dX11_valueOf_192 : decode cX11_valueOf 192 = .ok (.lconst 0, 1) := by decide +kernel
theorem dX11_valueOf_193 : decode cX11_valueOf 193 = .ok (.lreturn, 1) := by decide +kernel
theorem dX11_valueOf_194 : decode cX11_valueOf 194 = .ok (.aload_n 0, 1) := by decide +kernel
theorem dX11_valueOf_195 : decode cX11_valueOf 195 = .ok (.lload_n 2, 1) := by decide +kernel
theorem dX11_valueOf_196 : decode cX11_valueOf 196 = .ok (.lload 4, 2) := by decide +kernel
theorem dX11_valueOf_198 : decode cX11_valueOf 198 = .ok (.ladd, 1) := by decide +kernel
theorem dX11_valueOf_199 : decode cX11_valueOf 199 = .ok (.invokevirtual 354, 3) := by decide +kernel
theorem dX11_valueOf_202 : decode cX11_valueOf 202 = .ok (.lreturn, 1) := by decide +kernel
theorem dX11_valueOf_203 : decode cX11_valueOf 203 = .ok (.aload_n 0, 1) := by decide +kernel
theorem dX11_valueOf_204 : decode cX11_valueOf 204 = .ok (.lload_n 2, 1) := by decide +kernel
theorem dX11_valueOf_205 : decode cX11_valueOf 205 = .ok (.lload 4, 2) := by decide +kernel
theorem dX11_valueOf_207 : decode cX11_valueOf 207 = .ok (.lsub, 1) := by decide +kernel
theorem dX11_valueOf_208 : decode cX11_valueOf 208 = .ok (.invokevirtual 354, 3) := by decide +kernel
theorem dX11_valueOf_211 : decode cX11_valueOf 211 = .ok (.lreturn, 1) := by decide +kernel
theorem dX11_valueOf_212 : decode cX11_valueOf 212 = .ok (.aload_n 0, 1) := by decide +kernel
theorem dX11_valueOf_213 : decode cX11_valueOf 213 = .ok (.lload_n 2, 1) := by decide +kernel
theorem dX11_valueOf_214 : decode cX11_valueOf 214 = .ok (.lload 4, 2) := by decide +kernel
theorem dX11_valueOf_216 : decode cX11_valueOf 216 = .ok (.invokevirtual 358, 3) := by decide +kernel
theorem dX11_valueOf_219 : decode cX11_valueOf 219 = .ok (.lreturn, 1) := by decide +kernel
theorem dX11_valueOf_220 : decode cX11_valueOf 220 = .ok (.aload_n 0, 1) := by decide +kernel
theorem dX11_valueOf_221 : decode cX11_valueOf 221 = .ok (.aload_n 0, 1) := by decide +kernel
theorem dX11_valueOf_222 : decode cX11_valueOf 222 = .ok (.getfield 347, 3) := by decide +kernel
theorem dX11_valueOf_225 : decode cX11_valueOf 225 = .ok (.ifCond .ne 10, 3) := by decide +kernel
theorem dX11_valueOf_228 : decode cX11_valueOf 228 = .ok (.lload 4, 2) := by decide +kernel
theorem dX11_valueOf_230 : decode cX11_valueOf 230 = .ok (.lconst 0, 1) := by decide +kernel
theorem dX11_valueOf_231 : decode cX11_valueOf 231 = .ok (.lcmp, 1) := by decide +kernel
theorem dX11_valueOf_232 : decode cX11_valueOf 232 = .ok (.ifCond .ne 7, 3) := by decide +kernel
theorem dX11_valueOf_235 : decode cX11_valueOf 235 = .ok (.iconst 1, 1) := by decide +kernel
theorem dX11_valueOf_236 : decode cX11_valueOf 236 = .ok (.goto 4, 3) := by decide +kernel
theorem dX11_valueOf_239 : decode cX11_valueOf 239 = .ok (.iconst 0, 1) := by decide +kernel
theorem dX11_valueOf_240 : decode cX11_valueOf 240 = .ok (.putfield 347, 3) := by decide +kernel
theorem dX11_valueOf_243 : decode cX11_valueOf 243 = .ok (.aload_n 0, 1) := by decide +kernel
theorem dX11_valueOf_244 : decode cX11_valueOf 244 = .ok (.getfield 347, 3) := by decide +kernel
theorem dX11_valueOf_247 : decode cX11_valueOf 247 = .ok (.ifCond .eq 7, 3) := by decide +kernel
theorem dX11_valueOf_250 : decode cX11_valueOf 250 = .ok (.lconst 0, 1) := by decide +kernel
theorem dX11_valueOf_251 : decode cX11_valueOf 251 = .ok (.goto 7, 3) := by decide +kernel
theorem dX11_valueOf_254 : decode cX11_valueOf 254 = .ok (.lload_n 2, 1) := by decide +kernel
theorem dX11_valueOf_255 : decode cX11_valueOf 255 = .ok (.lload 4, 2) := by decide +kernel
theorem dX11_valueOf_257 : decode cX11_valueOf 257 = .ok (.ldiv, 1) := by decide +kernel
theorem dX11_valueOf_258 : decode cX11_valueOf 258 = .ok (.lreturn, 1) := by decide +kernel
theorem dX11_valueOf_259 : decode cX11_valueOf 259 = .ok (.aload_n 0, 1) := by decide +kernel
theorem dX11_valueOf_260 : decode cX11_valueOf 260 = .ok (.getfield 66, 3) := by decide +kernel
theorem dX11_valueOf_263 : decode cX11_valueOf 263 = .ok (.iload_n 1, 1) := by decide +kernel
theorem dX11_valueOf_264 : decode cX11_valueOf 264 = .ok (.iaload, 1) := by decide +kernel
theorem dX11_valueOf_265 : decode cX11_valueOf 265 = .ok (.lload_n 2, 1) := by decide +kernel
theorem dX11_valueOf_266 : decode cX11_valueOf 266 = .ok (.lload 4, 2) := by decide +kernel
theorem dX11_valueOf_268 : decode cX11_valueOf 268 = .ok (.invokestatic 362, 3) := by decide +kernel
theorem dX11_valueOf_271 : decode cX11_valueOf 271 = .ok (.ifCond .eq 7, 3) := by decide +kernel
theorem dX11_valueOf_274 : decode cX11_valueOf 274 = .ok (.lconst 1, 1) := by decide +kernel
theorem dX11_valueOf_275 : decode cX11_valueOf 275 = .ok (.goto 4, 3) := by decide +kernel
theorem dX11_valueOf_278 : decode cX11_valueOf 278 = .ok (.lconst 0, 1) := by decide +kernel
theorem dX11_valueOf_279 : decode cX11_valueOf 279 = .ok (.lreturn, 1) := by decide +kernel
theorem dX11_waitsBy_0 : decode cX11_waitsBy 0 = .ok (.iload_n 0, 1) := by decide +kernel
theorem dX11_waitsBy_1 : decode cX11_waitsBy 1 = .ok (.bipush 16, 2) := by decide +kernel
theorem dX11_waitsBy_3 : decode cX11_waitsBy 3 = .ok (.if_icmp .ne 7, 3) := by decide +kernel
theorem dX11_waitsBy_6 : decode cX11_waitsBy 6 = .ok (.iconst 3, 1) := by decide +kernel
theorem dX11_waitsBy_7 : decode cX11_waitsBy 7 = .ok (.goto 24, 3) := by decide +kernel
theorem dX11_waitsBy_10 : decode cX11_waitsBy 10 = .ok (.iload_n 0, 1) := by decide +kernel
theorem dX11_waitsBy_11 : decode cX11_waitsBy 11 = .ok (.bipush 14, 2) := by decide +kernel
theorem dX11_waitsBy_13 : decode cX11_waitsBy 13 = .ok (.if_icmp .ne 7, 3) := by decide +kernel
theorem dX11_waitsBy_16 : decode cX11_waitsBy 16 = .ok (.iconst 2, 1) := by decide +kernel
theorem dX11_waitsBy_17 : decode cX11_waitsBy 17 = .ok (.goto 14, 3) := by decide +kernel
theorem dX11_waitsBy_20 : decode cX11_waitsBy 20 = .ok (.iload_n 0, 1) := by decide +kernel
theorem dX11_waitsBy_21 : decode cX11_waitsBy 21 = .ok (.bipush 15, 2) := by decide +kernel
theorem dX11_waitsBy_23 : decode cX11_waitsBy 23 = .ok (.if_icmp .ne 7, 3) := by decide +kernel
theorem dX11_waitsBy_26 : decode cX11_waitsBy 26 = .ok (.iconst 1, 1) := by decide +kernel
theorem dX11_waitsBy_27 : decode cX11_waitsBy 27 = .ok (.goto 4, 3) := by decide +kernel
theorem dX11_waitsBy_30 : decode cX11_waitsBy 30 = .ok (.iconst 0, 1) := by decide +kernel
theorem dX11_waitsBy_31 : decode cX11_waitsBy 31 = .ok (.ireturn, 1) := by decide +kernel
theorem dX11_leans_0 : decode cX11_leans 0 = .ok (.aload_n 0, 1) := by decide +kernel
theorem dX11_leans_1 : decode cX11_leans 1 = .ok (.getfield 48, 3) := by decide +kernel
theorem dX11_leans_4 : decode cX11_leans 4 = .ok (.bipush 64, 2) := by decide +kernel
theorem dX11_leans_6 : decode cX11_leans 6 = .ok (.aload_n 0, 1) := by decide +kernel
theorem dX11_leans_7 : decode cX11_leans 7 = .ok (.getfield 234, 3) := by decide +kernel
theorem dX11_leans_10 : decode cX11_leans 10 = .ok (.iadd, 1) := by decide +kernel
theorem dX11_leans_11 : decode cX11_leans 11 = .ok (.iload_n 1, 1) := by decide +kernel
theorem dX11_leans_12 : decode cX11_leans 12 = .ok (.iastore, 1) := by decide +kernel
theorem dX11_leans_13 : decode cX11_leans 13 = .ok (.aload_n 0, 1) := by decide +kernel
theorem dX11_leans_14 : decode cX11_leans 14 = .ok (.getfield 51, 3) := by decide +kernel
theorem dX11_leans_17 : decode cX11_leans 17 = .ok (.bipush 64, 2) := by decide +kernel
theorem dX11_leans_19 : decode cX11_leans 19 = .ok (.aload_n 0, 1) := by decide +kernel
theorem dX11_leans_20 : decode cX11_leans 20 = .ok (.getfield 234, 3) := by decide +kernel
theorem dX11_leans_23 : decode cX11_leans 23 = .ok (.iadd, 1) := by decide +kernel
theorem dX11_leans_24 : decode cX11_leans 24 = .ok (.iload_n 2, 1) := by decide +kernel
theorem dX11_leans_25 : decode cX11_leans 25 = .ok (.iastore, 1) := by decide +kernel
theorem dX11_leans_26 : decode cX11_leans 26 = .ok (.aload_n 0, 1) := by decide +kernel
theorem dX11_leans_27 : decode cX11_leans 27 = .ok (.getfield 54, 3) := by decide +kernel
theorem dX11_leans_30 : decode cX11_leans 30 = .ok (.bipush 64, 2) := by decide +kernel
theorem dX11_leans_32 : decode cX11_leans 32 = .ok (.aload_n 0, 1) := by decide +kernel
theorem dX11_leans_33 : decode cX11_leans 33 = .ok (.getfield 234, 3) := by decide +kernel
theorem dX11_leans_36 : decode cX11_leans 36 = .ok (.iadd, 1) := by decide +kernel
theorem dX11_leans_37 : decode cX11_leans 37 = .ok (.iload_n 3, 1) := by decide +kernel
theorem dX11_leans_38 : decode cX11_leans 38 = .ok (.iastore, 1) := by decide +kernel
theorem dX11_leans_39 : decode cX11_leans 39 = .ok (.aload_n 0, 1) := by decide +kernel
theorem dX11_leans_40 : decode cX11_leans 40 = .ok (.getfield 78, 3) := by decide +kernel
theorem dX11_leans_43 : decode cX11_leans 43 = .ok (.aload_n 0, 1) := by decide +kernel
theorem dX11_leans_44 : decode cX11_leans 44 = .ok (.getfield 297, 3) := by decide +kernel
theorem dX11_leans_47 : decode cX11_leans 47 = .ok (.aload_n 0, 1) := by decide +kernel
theorem dX11_leans_48 : decode cX11_leans 48 = .ok (.getfield 234, 3) := by decide +kernel
theorem dX11_leans_51 : decode cX11_leans 51 = .ok (.iastore, 1) := by decide +kernel
theorem dX11_leans_52 : decode cX11_leans 52 = .ok (.aload_n 0, 1) := by decide +kernel
theorem dX11_leans_53 : decode cX11_leans 53 = .ok (.dup, 1) := by decide +kernel
theorem dX11_leans_54 : decode cX11_leans 54 = .ok (.getfield 297, 3) := by decide +kernel
theorem dX11_leans_57 : decode cX11_leans 57 = .ok (.iconst 1, 1) := by decide +kernel
theorem dX11_leans_58 : decode cX11_leans 58 = .ok (.iadd, 1) := by decide +kernel
theorem dX11_leans_59 : decode cX11_leans 59 = .ok (.putfield 297, 3) := by decide +kernel
theorem dX11_leans_62 : decode cX11_leans 62 = .ok (.aload_n 0, 1) := by decide +kernel
theorem dX11_leans_63 : decode cX11_leans 63 = .ok (.dup, 1) := by decide +kernel
theorem dX11_leans_64 : decode cX11_leans 64 = .ok (.getfield 234, 3) := by decide +kernel
theorem dX11_leans_67 : decode cX11_leans 67 = .ok (.iconst 1, 1) := by decide +kernel
theorem dX11_leans_68 : decode cX11_leans 68 = .ok (.iadd, 1) := by decide +kernel
theorem dX11_leans_69 : decode cX11_leans 69 = .ok (.putfield 234, 3) := by decide +kernel
theorem dX11_leans_72 : decode cX11_leans 72 = .ok (.return_, 1) := by decide +kernel
theorem dX11_binds_0 : decode cX11_binds 0 = .ok (.aload_n 0, 1) := by decide +kernel
theorem dX11_binds_1 : decode cX11_binds 1 = .ok (.getfield 300, 3) := by decide +kernel
theorem dX11_binds_4 : decode cX11_binds 4 = .ok (.ifCond .le 94, 3) := by decide +kernel
theorem dX11_binds_7 : decode cX11_binds 7 = .ok (.aload_n 0, 1) := by decide +kernel
theorem dX11_binds_8 : decode cX11_binds 8 = .ok (.getfield 75, 3) := by decide +kernel
theorem dX11_binds_11 : decode cX11_binds 11 = .ok (.aload_n 0, 1) := by decide +kernel
theorem dX11_binds_12 : decode cX11_binds 12 = .ok (.getfield 300, 3) := by decide +kernel
theorem dX11_binds_15 : decode cX11_binds 15 = .ok (.iconst 1, 1) := by decide +kernel
theorem dX11_binds_16 : decode cX11_binds 16 = .ok (.isub, 1) := by decide +kernel
theorem dX11_binds_17 : decode cX11_binds 17 = .ok (.iaload, 1) := by decide +kernel
theorem dX11_binds_18 : decode cX11_binds 18 = .ok (.invokestatic 366, 3) := by decide +kernel
theorem dX11_binds_21 : decode cX11_binds 21 = .ok (.iload_n 1, 1) := by decide +kernel
theorem dX11_binds_22 : decode cX11_binds 22 = .ok (.if_icmp .lt 76, 3) := by decide +kernel
theorem dX11_binds_25 : decode cX11_binds 25 = .ok (.aload_n 0, 1) := by decide +kernel
theorem dX11_binds_26 : decode cX11_binds 26 = .ok (.dup, 1) := by decide +kernel
theorem dX11_binds_27 : decode cX11_binds 27 = .ok (.getfield 300, 3) := by decide +kernel
theorem dX11_binds_30 : decode cX11_binds 30 = .ok (.iconst 1, 1) := by decide +kernel
theorem dX11_binds_31 : decode cX11_binds 31 = .ok (.isub, 1) := by decide +kernel
theorem dX11_binds_32 : decode cX11_binds 32 = .ok (.putfield 300, 3) := by decide +kernel
theorem dX11_binds_35 : decode cX11_binds 35 = .ok (.aload_n 0, 1) := by decide +kernel
theorem dX11_binds_36 : decode cX11_binds 36 = .ok (.getfield 75, 3) := by decide +kernel
theorem dX11_binds_39 : decode cX11_binds 39 = .ok (.aload_n 0, 1) := by decide +kernel
theorem dX11_binds_40 : decode cX11_binds 40 = .ok (.getfield 300, 3) := by decide +kernel
theorem dX11_binds_43 : decode cX11_binds 43 = .ok (.iaload, 1) := by decide +kernel
theorem dX11_binds_44 : decode cX11_binds 44 = .ok (.istore_n 2, 1) := by decide +kernel
theorem dX11_binds_45 : decode cX11_binds 45 = .ok (.iload_n 2, 1) := by decide +kernel
theorem dX11_binds_46 : decode cX11_binds 46 = .ok (.bipush 16, 2) := by decide +kernel
theorem dX11_binds_48 : decode cX11_binds 48 = .ok (.if_icmp .ne 7, 3) := by decide +kernel
theorem dX11_binds_51 : decode cX11_binds 51 = .ok (.iconst (-1), 1) := by decide +kernel
theorem dX11_binds_52 : decode cX11_binds 52 = .ok (.goto 7, 3) := by decide +kernel
theorem dX11_binds_55 : decode cX11_binds 55 = .ok (.aload_n 0, 1) := by decide +kernel
theorem dX11_binds_56 : decode cX11_binds 56 = .ok (.invokevirtual 307, 3) := by decide +kernel
theorem dX11_binds_59 : decode cX11_binds 59 = .ok (.istore_n 3, 1) := by decide +kernel
theorem dX11_binds_60 : decode cX11_binds 60 = .ok (.aload_n 0, 1) := by decide +kernel
theorem dX11_binds_61 : decode cX11_binds 61 = .ok (.invokevirtual 307, 3) := by decide +kernel
theorem dX11_binds_64 : decode cX11_binds 64 = .ok (.istore 4, 2) := by decide +kernel
theorem dX11_binds_66 : decode cX11_binds 66 = .ok (.aload_n 0, 1) := by decide +kernel
theorem dX11_binds_67 : decode cX11_binds 67 = .ok (.iload_n 2, 1) := by decide +kernel
theorem dX11_binds_68 : decode cX11_binds 68 = .ok (.bipush 16, 2) := by decide +kernel
theorem dX11_binds_70 : decode cX11_binds 70 = .ok (.if_icmp .ne 7, 3) := by decide +kernel
theorem dX11_binds_73 : decode cX11_binds 73 = .ok (.iconst 4, 1) := by decide +kernel
theorem dX11_binds_74 : decode cX11_binds 74 = .ok (.goto 15, 3) := by decide +kernel
theorem dX11_binds_77 : decode cX11_binds 77 = .ok (.iload_n 2, 1) := by decide +kernel
theorem dX11_binds_78 : decode cX11_binds 78 = .ok (.bipush 14, 2) := by decide +kernel
theorem dX11_binds_80 : decode cX11_binds 80 = .ok (.if_icmp .ne 7, 3) := by decide +kernel
theorem dX11_binds_83 : decode cX11_binds 83 = .ok (.iconst 5, 1) := by decide +kernel
theorem dX11_binds_84 : decode cX11_binds 84 = .ok (.goto 5, 3) := by decide +kernel
theorem dX11_binds_87 : decode cX11_binds 87 = .ok (.bipush 6, 2) := by decide +kernel
theorem dX11_binds_89 : decode cX11_binds 89 = .ok (.iload 4, 2) := by decide +kernel
theorem dX11_binds_91 : decode cX11_binds 91 = .ok (.iload_n 3, 1) := by decide +kernel
theorem dX11_binds_92 : decode cX11_binds 92 = .ok (.invokevirtual 369, 3) := by decide +kernel
theorem dX11_binds_95 : decode cX11_binds 95 = .ok (.goto (-95), 3) := by decide +kernel
theorem dX11_binds_98 : decode cX11_binds 98 = .ok (.return_, 1) := by decide +kernel
theorem dX11_simpleRead_0 : decode cX11_simpleRead 0 = .ok (.aload_n 0, 1) := by decide +kernel
theorem dX11_simpleRead_1 : decode cX11_simpleRead 1 = .ok (.getfield 189, 3) := by decide +kernel
theorem dX11_simpleRead_4 : decode cX11_simpleRead 4 = .ok (.bipush 10, 2) := by decide +kernel
theorem dX11_simpleRead_6 : decode cX11_simpleRead 6 = .ok (.isub, 1) := by decide +kernel
theorem dX11_simpleRead_7 : decode cX11_simpleRead 7 = .ok (.istore_n 2, 1) := by decide +kernel
theorem dX11_simpleRead_8 : decode cX11_simpleRead 8 = .ok (.aload_n 0, 1) := by decide +kernel
theorem dX11_simpleRead_9 : decode cX11_simpleRead 9 = .ok (.invokevirtual 329, 3) := by decide +kernel
theorem dX11_simpleRead_12 : decode cX11_simpleRead 12 = .ok (.ifCond .ne 5, 3) := by decide +kernel
theorem dX11_simpleRead_15 : decode cX11_simpleRead 15 = .ok (.iconst 0, 1) := by decide +kernel
theorem dX11_simpleRead_16 : decode cX11_simpleRead 16 = .ok (.ireturn, 1) := by decide +kernel
theorem dX11_simpleRead_17 : decode cX11_simpleRead 17 = .ok (.aload_n 0, 1) := by decide +kernel
theorem dX11_simpleRead_18 : decode cX11_simpleRead 18 = .ok (.invokevirtual 212, 3) := by decide +kernel
theorem dX11_simpleRead_21 : decode cX11_simpleRead 21 = .ok (.iload_n 2, 1) := by decide +kernel
theorem dX11_simpleRead_22 : decode cX11_simpleRead 22 = .ok (.iconst 2, 1) := by decide +kernel
theorem dX11_simpleRead_23 : decode cX11_simpleRead 23 = .ok (.if_icmp .ne 27, 3) := by decide +kernel
theorem dX11_simpleRead_26 : decode cX11_simpleRead 26 = .ok (.aload_n 0, 1) := by decide +kernel
theorem dX11_simpleRead_27 : decode cX11_simpleRead 27 = .ok (.iconst 0, 1) := by decide +kernel
theorem dX11_simpleRead_28 : decode cX11_simpleRead 28 = .ok (.bipush 8, 2) := by decide +kernel
theorem dX11_simpleRead_30 : decode cX11_simpleRead 30 = .ok (.invokevirtual 218, 3) := by decide +kernel
theorem dX11_simpleRead_33 : decode cX11_simpleRead 33 = .ok (.ifCond .ne 5, 3) := by decide +kernel
theorem dX11_simpleRead_36 : decode cX11_simpleRead 36 = .ok (.iconst 0, 1) := by decide +kernel
theorem dX11_simpleRead_37 : decode cX11_simpleRead 37 = .ok (.ireturn, 1) := by decide +kernel
theorem dX11_simpleRead_38 : decode cX11_simpleRead 38 = .ok (.aload_n 0, 1) := by decide +kernel
theorem dX11_simpleRead_39 : decode cX11_simpleRead 39 = .ok (.iconst 2, 1) := by decide +kernel
theorem dX11_simpleRead_40 : decode cX11_simpleRead 40 = .ok (.aload_n 0, 1) := by decide +kernel
theorem dX11_simpleRead_41 : decode cX11_simpleRead 41 = .ok (.getfield 209, 3) := by decide +kernel
theorem dX11_simpleRead_44 : decode cX11_simpleRead 44 = .ok (.iconst (-1), 1) := by decide +kernel
theorem dX11_simpleRead_45 : decode cX11_simpleRead 45 = .ok (.invokevirtual 369, 3) := by decide +kernel
theorem dX11_simpleRead_48 : decode cX11_simpleRead 48 = .ok (.iconst 1, 1) := by decide +kernel
theorem dX11_simpleRead_49 : decode cX11_simpleRead 49 = .ok (.ireturn, 1) := by decide +kernel
theorem dX11_simpleRead_50 : decode cX11_simpleRead 50 = .ok (.aload_n 0, 1) := by decide +kernel
theorem dX11_simpleRead_51 : decode cX11_simpleRead 51 = .ok (.getfield 169, 3) := by decide +kernel
theorem dX11_simpleRead_54 : decode cX11_simpleRead 54 = .ok (.istore_n 3, 1) := by decide +kernel
theorem dX11_simpleRead_55 : decode cX11_simpleRead 55 = .ok (.aload_n 0, 1) := by decide +kernel
theorem dX11_simpleRead_56 : decode cX11_simpleRead 56 = .ok (.invokevirtual 269, 3) := by decide +kernel
theorem dX11_simpleRead_59 : decode cX11_simpleRead 59 = .ok (.ifCond .ne 5, 3) := by decide +kernel
theorem dX11_simpleRead_62 : decode cX11_simpleRead 62 = .ok (.iconst 0, 1) := by decide +kernel
theorem dX11_simpleRead_63 : decode cX11_simpleRead 63 = .ok (.ireturn, 1) := by decide +kernel
theorem dX11_simpleRead_64 : decode cX11_simpleRead 64 = .ok (.bipush 8, 2) := by decide +kernel
theorem dX11_simpleRead_66 : decode cX11_simpleRead 66 = .ok (.aload_n 0, 1) := by decide +kernel
theorem dX11_simpleRead_67 : decode cX11_simpleRead 67 = .ok (.getfield 209, 3) := by decide +kernel
theorem dX11_simpleRead_70 : decode cX11_simpleRead 70 = .ok (.iadd, 1) := by decide +kernel
theorem dX11_simpleRead_71 : decode cX11_simpleRead 71 = .ok (.istore 4, 2) := by decide +kernel
theorem dX11_simpleRead_73 : decode cX11_simpleRead 73 = .ok (.iload_n 2, 1) := by decide +kernel
theorem dX11_simpleRead_74 : decode cX11_simpleRead 74 = .ok (.iconst 2, 1) := by decide +kernel
theorem dX11_simpleRead_75 : decode cX11_simpleRead 75 = .ok (.if_icmp .ge 19, 3) := by decide +kernel
theorem dX11_simpleRead_78 : decode cX11_simpleRead 78 = .ok (.aload_n 0, 1) := by decide +kernel
theorem dX11_simpleRead_79 : decode cX11_simpleRead 79 = .ok (.getfield 209, 3) := by decide +kernel
theorem dX11_simpleRead_82 : decode cX11_simpleRead 82 = .ok (.iload_n 1, 1) := by decide +kernel
theorem dX11_simpleRead_83 : decode cX11_simpleRead 83 = .ok (.if_icmp .ne 7, 3) := by decide +kernel
theorem dX11_simpleRead_86 : decode cX11_simpleRead 86 = .ok (.iconst 5, 1) := by decide +kernel
theorem dX11_simpleRead_87 : decode cX11_simpleRead 87 = .ok (.goto 40, 3) := by decide +kernel
theorem dX11_simpleRead_90 : decode cX11_simpleRead 90 = .ok (.iconst 0, 1) := by decide +kernel
theorem dX11_simpleRead_91 : decode cX11_simpleRead 91 = .ok (.goto 36, 3) := by decide +kernel
theorem dX11_simpleRead_94 : decode cX11_simpleRead 94 = .ok (.aload_n 0, 1) := by decide +kernel
theorem dX11_simpleRead_95 : decode cX11_simpleRead 95 = .ok (.getfield 33, 3) := by decide +kernel
theorem dX11_simpleRead_98 : decode cX11_simpleRead 98 = .ok (.iload 4, 2) := by decide +kernel
theorem dX11_simpleRead_100 : decode cX11_simpleRead 100 = .ok (.iaload, 1) := by decide +kernel
theorem dX11_simpleRead_101 : decode cX11_simpleRead 101 = .ok (.ifCond .ge 7, 3) := by decide +kernel
theorem dX11_simpleRead_104 : decode cX11_simpleRead 104 = .ok (.iconst 4, 1) := by decide +kernel
theorem dX11_simpleRead_105 : decode cX11_simpleRead 105 = .ok (.goto 22, 3) := by decide +kernel
theorem dX11_simpleRead_108 : decode cX11_simpleRead 108 = .ok (.aload_n 0, 1) := by decide +kernel
theorem dX11_simpleRead_109 : decode cX11_simpleRead 109 = .ok (.getfield 36, 3) := by decide +kernel
theorem dX11_simpleRead_112 : decode cX11_simpleRead 112 = .ok (.iload 4, 2) := by decide +kernel
theorem dX11_simpleRead_114 : decode cX11_simpleRead 114 = .ok (.iaload, 1) := by decide +kernel
theorem dX11_simpleRead_115 : decode cX11_simpleRead 115 = .ok (.iload_n 1, 1) := by decide +kernel
theorem dX11_simpleRead_116 : decode cX11_simpleRead 116 = .ok (.invokestatic 372, 3) := by decide +kernel
theorem dX11_simpleRead_119 : decode cX11_simpleRead 119 = .ok (.ifCond .eq 7, 3) := by decide +kernel
theorem dX11_simpleRead_122 : decode cX11_simpleRead 122 = .ok (.iconst 5, 1) := by decide +kernel
theorem dX11_simpleRead_123 : decode cX11_simpleRead 123 = .ok (.goto 4, 3) := by decide +kernel
theorem dX11_simpleRead_126 : decode cX11_simpleRead 126 = .ok (.iconst 0, 1) := by decide +kernel
theorem dX11_simpleRead_127 : decode cX11_simpleRead 127 = .ok (.istore 5, 2) := by decide +kernel
theorem dX11_simpleRead_129 : decode cX11_simpleRead 129 = .ok (.iload 5, 2) := by decide +kernel
theorem dX11_simpleRead_131 : decode cX11_simpleRead 131 = .ok (.ifCond .le 15, 3) := by decide +kernel
theorem dX11_simpleRead_134 : decode cX11_simpleRead 134 = .ok (.aload_n 0, 1) := by decide +kernel
theorem dX11_simpleRead_135 : decode cX11_simpleRead 135 = .ok (.iload_n 3, 1) := by decide +kernel
theorem dX11_simpleRead_136 : decode cX11_simpleRead 136 = .ok (.putfield 169, 3) := by decide +kernel
theorem dX11_simpleRead_139 : decode cX11_simpleRead 139 = .ok (.aload_n 0, 1) := by decide +kernel
theorem dX11_simpleRead_140 : decode cX11_simpleRead 140 = .ok (.iload 5, 2) := by decide +kernel
theorem dX11_simpleRead_142 : decode cX11_simpleRead 142 = .ok (.invokevirtual 202, 3) := by decide +kernel
theorem dX11_simpleRead_145 : decode cX11_simpleRead 145 = .ok (.ireturn, 1) := by decide +kernel
theorem dX11_simpleRead_146 : decode cX11_simpleRead 146 = .ok (.aload_n 0, 1) := by decide +kernel
theorem dX11_simpleRead_147 : decode cX11_simpleRead 147 = .ok (.getfield 36, 3) := by decide +kernel
theorem dX11_simpleRead_150 : decode cX11_simpleRead 150 = .ok (.bipush 8, 2) := by decide +kernel
theorem dX11_simpleRead_152 : decode cX11_simpleRead 152 = .ok (.iload_n 1, 1) := by decide +kernel
theorem dX11_simpleRead_153 : decode cX11_simpleRead 153 = .ok (.iadd, 1) := by decide +kernel
theorem dX11_simpleRead_154 : decode cX11_simpleRead 154 = .ok (.dup2, 1) := by decide +kernel
theorem dX11_simpleRead_155 : decode cX11_simpleRead 155 = .ok (.iaload, 1) := by decide +kernel
theorem dX11_simpleRead_156 : decode cX11_simpleRead 156 = .ok (.iload_n 2, 1) := by decide +kernel
theorem dX11_simpleRead_157 : decode cX11_simpleRead 157 = .ok (.iconst 2, 1) := by decide +kernel
theorem dX11_simpleRead_158 : decode cX11_simpleRead 158 = .ok (.if_icmp .ge 12, 3) := by decide +kernel
theorem dX11_simpleRead_161 : decode cX11_simpleRead 161 = .ok (.iconst 1, 1) := by decide +kernel
theorem dX11_simpleRead_162 : decode cX11_simpleRead 162 = .ok (.aload_n 0, 1) := by decide +kernel
theorem dX11_simpleRead_163 : decode cX11_simpleRead 163 = .ok (.getfield 209, 3) := by decide +kernel
theorem dX11_simpleRead_166 : decode cX11_simpleRead 166 = .ok (.ishl, 1) := by decide +kernel
theorem dX11_simpleRead_167 : decode cX11_simpleRead 167 = .ok (.goto 10, 3) := by decide +kernel
theorem dX11_simpleRead_170 : decode cX11_simpleRead 170 = .ok (.aload_n 0, 1) := by decide +kernel
theorem dX11_simpleRead_171 : decode cX11_simpleRead 171 = .ok (.getfield 36, 3) := by decide +kernel
theorem dX11_simpleRead_174 : decode cX11_simpleRead 174 = .ok (.iload 4, 2) := by decide +kernel
theorem dX11_simpleRead_176 : decode cX11_simpleRead 176 = .ok (.iaload, 1) := by decide +kernel
theorem dX11_simpleRead_177 : decode cX11_simpleRead 177 = .ok (.ior, 1) := by decide +kernel
theorem dX11_simpleRead_178 : decode cX11_simpleRead 178 = .ok (.iastore, 1) := by decide +kernel
theorem dX11_simpleRead_179 : decode cX11_simpleRead 179 = .ok (.aload_n 0, 1) := by decide +kernel
theorem dX11_simpleRead_180 : decode cX11_simpleRead 180 = .ok (.iload_n 2, 1) := by decide +kernel
theorem dX11_simpleRead_181 : decode cX11_simpleRead 181 = .ok (.iload_n 2, 1) := by decide +kernel
theorem dX11_simpleRead_182 : decode cX11_simpleRead 182 = .ok (.iconst 2, 1) := by decide +kernel
theorem dX11_simpleRead_183 : decode cX11_simpleRead 183 = .ok (.if_icmp .ge 10, 3) := by decide +kernel
theorem dX11_simpleRead_186 : decode cX11_simpleRead 186 = .ok (.aload_n 0, 1) := by decide +kernel
theorem dX11_simpleRead_187 : decode cX11_simpleRead 187 = .ok (.getfield 209, 3) := by decide +kernel
theorem dX11_simpleRead_190 : decode cX11_simpleRead 190 = .ok (.goto 10, 3) := by decide +kernel
theorem dX11_simpleRead_193 : decode cX11_simpleRead 193 = .ok (.aload_n 0, 1) := by decide +kernel
theorem dX11_simpleRead_194 : decode cX11_simpleRead 194 = .ok (.getfield 33, 3) := by decide +kernel
theorem dX11_simpleRead_197 : decode cX11_simpleRead 197 = .ok (.iload 4, 2) := by decide +kernel
theorem dX11_simpleRead_199 : decode cX11_simpleRead 199 = .ok (.iaload, 1) := by decide +kernel
theorem dX11_simpleRead_200 : decode cX11_simpleRead 200 = .ok (.iconst (-1), 1) := by decide +kernel
theorem dX11_simpleRead_201 : decode cX11_simpleRead 201 = .ok (.invokevirtual 369, 3) := by decide +kernel
