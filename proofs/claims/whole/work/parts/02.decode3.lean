/-! decode rows (by program) -/
theorem dd_Mo_die_60 : decode prog_9_method_16_code 60 = .ok (.iadd, 1) := by decide +kernel
theorem dd_Mo_die_61 : decode prog_9_method_16_code 61 = .ok (.invokevirtual 109, 3) := by decide +kernel
theorem dd_Mo_die_64 : decode prog_9_method_16_code 64 = .ok (.ifCond .eq 7, 3) := by decide +kernel
theorem dd_Mo_die_67 : decode prog_9_method_16_code 67 = .ok (.iconst 1, 1) := by decide +kernel
theorem dd_Mo_die_68 : decode prog_9_method_16_code 68 = .ok (.goto 4, 3) := by decide +kernel
theorem dd_Mo_die_71 : decode prog_9_method_16_code 71 = .ok (.iconst 0, 1) := by decide +kernel
theorem dd_Mo_die_72 : decode prog_9_method_16_code 72 = .ok (.bastore, 1) := by decide +kernel
theorem dd_Mo_die_73 : decode prog_9_method_16_code 73 = .ok (.iinc 2 1, 3) := by decide +kernel
theorem dd_Mo_die_76 : decode prog_9_method_16_code 76 = .ok (.goto (-67), 3) := by decide +kernel
theorem dd_Mo_die_79 : decode prog_9_method_16_code 79 = .ok (.aload_n 0, 1) := by decide +kernel
theorem dd_Mo_die_80 : decode prog_9_method_16_code 80 = .ok (.iload_n 1, 1) := by decide +kernel
theorem dd_Mo_die_81 : decode prog_9_method_16_code 81 = .ok (.invokevirtual 121, 3) := by decide +kernel
theorem dd_Mo_die_84 : decode prog_9_method_16_code 84 = .ok (.iconst 0, 1) := by decide +kernel
theorem dd_Mo_die_85 : decode prog_9_method_16_code 85 = .ok (.istore_n 2, 1) := by decide +kernel
theorem dd_Mo_die_86 : decode prog_9_method_16_code 86 = .ok (.iload_n 2, 1) := by decide +kernel
theorem dd_Mo_die_87 : decode prog_9_method_16_code 87 = .ok (.iconst 4, 1) := by decide +kernel
theorem dd_Mo_die_88 : decode prog_9_method_16_code 88 = .ok (.if_icmp .ge 44, 3) := by decide +kernel
theorem dd_Mo_die_91 : decode prog_9_method_16_code 91 = .ok (.aload_n 0, 1) := by decide +kernel
theorem dd_Mo_die_92 : decode prog_9_method_16_code 92 = .ok (.getfield 50, 3) := by decide +kernel
theorem dd_Mo_die_95 : decode prog_9_method_16_code 95 = .ok (.iload_n 2, 1) := by decide +kernel
theorem dd_Mo_die_96 : decode prog_9_method_16_code 96 = .ok (.iaload, 1) := by decide +kernel
theorem dd_Mo_die_97 : decode prog_9_method_16_code 97 = .ok (.iconst 1, 1) := by decide +kernel
theorem dd_Mo_die_98 : decode prog_9_method_16_code 98 = .ok (.if_icmp .ne 28, 3) := by decide +kernel
theorem dd_Mo_die_101 : decode prog_9_method_16_code 101 = .ok (.aload_n 0, 1) := by decide +kernel
theorem dd_Mo_die_102 : decode prog_9_method_16_code 102 = .ok (.getfield 53, 3) := by decide +kernel
theorem dd_Mo_die_105 : decode prog_9_method_16_code 105 = .ok (.iload_n 2, 1) := by decide +kernel
theorem dd_Mo_die_106 : decode prog_9_method_16_code 106 = .ok (.iaload, 1) := by decide +kernel
theorem dd_Mo_die_107 : decode prog_9_method_16_code 107 = .ok (.iload_n 1, 1) := by decide +kernel
theorem dd_Mo_die_108 : decode prog_9_method_16_code 108 = .ok (.if_icmp .ne 18, 3) := by decide +kernel
theorem dd_Mo_die_111 : decode prog_9_method_16_code 111 = .ok (.aload_n 0, 1) := by decide +kernel
theorem dd_Mo_die_112 : decode prog_9_method_16_code 112 = .ok (.bipush 9, 2) := by decide +kernel
theorem dd_Mo_die_114 : decode prog_9_method_16_code 114 = .ok (.iload_n 2, 1) := by decide +kernel
theorem dd_Mo_die_115 : decode prog_9_method_16_code 115 = .ok (.iadd, 1) := by decide +kernel
theorem dd_Mo_die_116 : decode prog_9_method_16_code 116 = .ok (.invokevirtual 121, 3) := by decide +kernel
theorem dd_Mo_die_119 : decode prog_9_method_16_code 119 = .ok (.aload_n 0, 1) := by decide +kernel
theorem dd_Mo_die_120 : decode prog_9_method_16_code 120 = .ok (.getfield 50, 3) := by decide +kernel
theorem dd_Mo_die_123 : decode prog_9_method_16_code 123 = .ok (.iload_n 2, 1) := by decide +kernel
theorem dd_Mo_die_124 : decode prog_9_method_16_code 124 = .ok (.iconst 3, 1) := by decide +kernel
theorem dd_Mo_die_125 : decode prog_9_method_16_code 125 = .ok (.iastore, 1) := by decide +kernel
theorem dd_Mo_die_126 : decode prog_9_method_16_code 126 = .ok (.iinc 2 1, 3) := by decide +kernel
theorem dd_Mo_die_129 : decode prog_9_method_16_code 129 = .ok (.goto (-43), 3) := by decide +kernel
theorem dd_Mo_die_132 : decode prog_9_method_16_code 132 = .ok (.iconst 0, 1) := by decide +kernel
theorem dd_Mo_die_133 : decode prog_9_method_16_code 133 = .ok (.istore_n 2, 1) := by decide +kernel
theorem dd_Mo_die_134 : decode prog_9_method_16_code 134 = .ok (.iload_n 2, 1) := by decide +kernel
theorem dd_Mo_die_135 : decode prog_9_method_16_code 135 = .ok (.bipush 60, 2) := by decide +kernel
theorem dd_Mo_die_137 : decode prog_9_method_16_code 137 = .ok (.if_icmp .ge 93, 3) := by decide +kernel
theorem dd_Mo_die_140 : decode prog_9_method_16_code 140 = .ok (.aload_n 0, 1) := by decide +kernel
theorem dd_Mo_die_141 : decode prog_9_method_16_code 141 = .ok (.getfield 65, 3) := by decide +kernel
theorem dd_Mo_die_144 : decode prog_9_method_16_code 144 = .ok (.bipush 60, 2) := by decide +kernel
theorem dd_Mo_die_146 : decode prog_9_method_16_code 146 = .ok (.iload_n 1, 1) := by decide +kernel
theorem dd_Mo_die_147 : decode prog_9_method_16_code 147 = .ok (.imul, 1) := by decide +kernel
theorem dd_Mo_die_148 : decode prog_9_method_16_code 148 = .ok (.iload_n 2, 1) := by decide +kernel
theorem dd_Mo_die_149 : decode prog_9_method_16_code 149 = .ok (.iadd, 1) := by decide +kernel
theorem dd_Mo_die_150 : decode prog_9_method_16_code 150 = .ok (.baload, 1) := by decide +kernel
theorem dd_Mo_die_151 : decode prog_9_method_16_code 151 = .ok (.ifCond .ne 16, 3) := by decide +kernel
theorem dd_Mo_die_154 : decode prog_9_method_16_code 154 = .ok (.aload_n 0, 1) := by decide +kernel
theorem dd_Mo_die_155 : decode prog_9_method_16_code 155 = .ok (.getfield 65, 3) := by decide +kernel
theorem dd_Mo_die_158 : decode prog_9_method_16_code 158 = .ok (.sipush 480, 3) := by decide +kernel
theorem dd_Mo_die_161 : decode prog_9_method_16_code 161 = .ok (.iload_n 2, 1) := by decide +kernel
theorem dd_Mo_die_162 : decode prog_9_method_16_code 162 = .ok (.iadd, 1) := by decide +kernel
theorem dd_Mo_die_163 : decode prog_9_method_16_code 163 = .ok (.baload, 1) := by decide +kernel
theorem dd_Mo_die_164 : decode prog_9_method_16_code 164 = .ok (.ifCond .eq 7, 3) := by decide +kernel
theorem dd_Mo_die_167 : decode prog_9_method_16_code 167 = .ok (.iconst 1, 1) := by decide +kernel
theorem dd_Mo_die_168 : decode prog_9_method_16_code 168 = .ok (.goto 4, 3) := by decide +kernel
theorem dd_Mo_die_171 : decode prog_9_method_16_code 171 = .ok (.iconst 0, 1) := by decide +kernel
theorem dd_Mo_die_172 : decode prog_9_method_16_code 172 = .ok (.istore_n 3, 1) := by decide +kernel
theorem dd_Mo_die_173 : decode prog_9_method_16_code 173 = .ok (.aload_n 0, 1) := by decide +kernel
theorem dd_Mo_die_174 : decode prog_9_method_16_code 174 = .ok (.getfield 65, 3) := by decide +kernel
theorem dd_Mo_die_177 : decode prog_9_method_16_code 177 = .ok (.sipush 480, 3) := by decide +kernel
theorem dd_Mo_die_180 : decode prog_9_method_16_code 180 = .ok (.iload_n 2, 1) := by decide +kernel
theorem dd_Mo_die_181 : decode prog_9_method_16_code 181 = .ok (.iadd, 1) := by decide +kernel
theorem dd_Mo_die_182 : decode prog_9_method_16_code 182 = .ok (.iload_n 3, 1) := by decide +kernel
theorem dd_Mo_die_183 : decode prog_9_method_16_code 183 = .ok (.ifCond .eq 27, 3) := by decide +kernel
theorem dd_Mo_die_186 : decode prog_9_method_16_code 186 = .ok (.aload_n 0, 1) := by decide +kernel
theorem dd_Mo_die_187 : decode prog_9_method_16_code 187 = .ok (.getfield 26, 3) := by decide +kernel
theorem dd_Mo_die_190 : decode prog_9_method_16_code 190 = .ok (.iload_n 2, 1) := by decide +kernel
theorem dd_Mo_die_191 : decode prog_9_method_16_code 191 = .ok (.iaload, 1) := by decide +kernel
theorem dd_Mo_die_192 : decode prog_9_method_16_code 192 = .ok (.ifCond .le 18, 3) := by decide +kernel
theorem dd_Mo_die_195 : decode prog_9_method_16_code 195 = .ok (.aload_n 0, 1) := by decide +kernel
theorem dd_Mo_die_196 : decode prog_9_method_16_code 196 = .ok (.getfield 26, 3) := by decide +kernel
theorem dd_Mo_die_199 : decode prog_9_method_16_code 199 = .ok (.iload_n 2, 1) := by decide +kernel
theorem dd_Mo_die_200 : decode prog_9_method_16_code 200 = .ok (.iaload, 1) := by decide +kernel
theorem dd_Mo_die_201 : decode prog_9_method_16_code 201 = .ok (.bipush 9, 2) := by decide +kernel
theorem dd_Mo_die_203 : decode prog_9_method_16_code 203 = .ok (.if_icmp .eq 7, 3) := by decide +kernel
theorem dd_Mo_die_206 : decode prog_9_method_16_code 206 = .ok (.iconst 1, 1) := by decide +kernel
theorem dd_Mo_die_207 : decode prog_9_method_16_code 207 = .ok (.goto 4, 3) := by decide +kernel
theorem dd_Mo_die_210 : decode prog_9_method_16_code 210 = .ok (.iconst 0, 1) := by decide +kernel
theorem dd_Mo_die_211 : decode prog_9_method_16_code 211 = .ok (.bastore, 1) := by decide +kernel
theorem dd_Mo_die_212 : decode prog_9_method_16_code 212 = .ok (.aload_n 0, 1) := by decide +kernel
theorem dd_Mo_die_213 : decode prog_9_method_16_code 213 = .ok (.getfield 65, 3) := by decide +kernel
theorem dd_Mo_die_216 : decode prog_9_method_16_code 216 = .ok (.bipush 60, 2) := by decide +kernel
theorem dd_Mo_die_218 : decode prog_9_method_16_code 218 = .ok (.iload_n 1, 1) := by decide +kernel
theorem dd_Mo_die_219 : decode prog_9_method_16_code 219 = .ok (.imul, 1) := by decide +kernel
theorem dd_Mo_die_220 : decode prog_9_method_16_code 220 = .ok (.iload_n 2, 1) := by decide +kernel
theorem dd_Mo_die_221 : decode prog_9_method_16_code 221 = .ok (.iadd, 1) := by decide +kernel
theorem dd_Mo_die_222 : decode prog_9_method_16_code 222 = .ok (.iconst 0, 1) := by decide +kernel
theorem dd_Mo_die_223 : decode prog_9_method_16_code 223 = .ok (.bastore, 1) := by decide +kernel
theorem dd_Mo_die_224 : decode prog_9_method_16_code 224 = .ok (.iinc 2 1, 3) := by decide +kernel
theorem dd_Mo_die_227 : decode prog_9_method_16_code 227 = .ok (.goto (-93), 3) := by decide +kernel
theorem dd_Mo_die_230 : decode prog_9_method_16_code 230 = .ok (.aload_n 0, 1) := by decide +kernel
theorem dd_Mo_die_231 : decode prog_9_method_16_code 231 = .ok (.invokevirtual 115, 3) := by decide +kernel
theorem dd_Mo_die_234 : decode prog_9_method_16_code 234 = .ok (.return_, 1) := by decide +kernel
theorem dd_Mo_names_0 : decode prog_9_method_8_code 0 = .ok (.iconst 0, 1) := by decide +kernel
theorem dd_Mo_names_1 : decode prog_9_method_8_code 1 = .ok (.istore_n 3, 1) := by decide +kernel
theorem dd_Mo_names_2 : decode prog_9_method_8_code 2 = .ok (.iconst 0, 1) := by decide +kernel
theorem dd_Mo_names_3 : decode prog_9_method_8_code 3 = .ok (.istore 4, 2) := by decide +kernel
theorem dd_Mo_names_5 : decode prog_9_method_8_code 5 = .ok (.iload 4, 2) := by decide +kernel
theorem dd_Mo_names_7 : decode prog_9_method_8_code 7 = .ok (.bipush 60, 2) := by decide +kernel
theorem dd_Mo_names_9 : decode prog_9_method_8_code 9 = .ok (.if_icmp .ge 47, 3) := by decide +kernel
theorem dd_Mo_names_12 : decode prog_9_method_8_code 12 = .ok (.iload_n 3, 1) := by decide +kernel
theorem dd_Mo_names_13 : decode prog_9_method_8_code 13 = .ok (.ifCond .ne 31, 3) := by decide +kernel
theorem dd_Mo_names_16 : decode prog_9_method_8_code 16 = .ok (.aload_n 0, 1) := by decide +kernel
theorem dd_Mo_names_17 : decode prog_9_method_8_code 17 = .ok (.getfield 65, 3) := by decide +kernel
theorem dd_Mo_names_20 : decode prog_9_method_8_code 20 = .ok (.bipush 60, 2) := by decide +kernel
theorem dd_Mo_names_22 : decode prog_9_method_8_code 22 = .ok (.iload_n 1, 1) := by decide +kernel
theorem dd_Mo_names_23 : decode prog_9_method_8_code 23 = .ok (.imul, 1) := by decide +kernel
theorem dd_Mo_names_24 : decode prog_9_method_8_code 24 = .ok (.iload 4, 2) := by decide +kernel
theorem dd_Mo_names_26 : decode prog_9_method_8_code 26 = .ok (.iadd, 1) := by decide +kernel
theorem dd_Mo_names_27 : decode prog_9_method_8_code 27 = .ok (.baload, 1) := by decide +kernel
theorem dd_Mo_names_28 : decode prog_9_method_8_code 28 = .ok (.ifCond .eq 20, 3) := by decide +kernel
theorem dd_Mo_names_31 : decode prog_9_method_8_code 31 = .ok (.aload_n 0, 1) := by decide +kernel
theorem dd_Mo_names_32 : decode prog_9_method_8_code 32 = .ok (.getfield 26, 3) := by decide +kernel
theorem dd_Mo_names_35 : decode prog_9_method_8_code 35 = .ok (.iload 4, 2) := by decide +kernel
theorem dd_Mo_names_37 : decode prog_9_method_8_code 37 = .ok (.iaload, 1) := by decide +kernel
theorem dd_Mo_names_38 : decode prog_9_method_8_code 38 = .ok (.iload_n 2, 1) := by decide +kernel
theorem dd_Mo_names_39 : decode prog_9_method_8_code 39 = .ok (.iconst 1, 1) := by decide +kernel
theorem dd_Mo_names_40 : decode prog_9_method_8_code 40 = .ok (.iadd, 1) := by decide +kernel
theorem dd_Mo_names_41 : decode prog_9_method_8_code 41 = .ok (.if_icmp .ne 7, 3) := by decide +kernel
theorem dd_Mo_names_44 : decode prog_9_method_8_code 44 = .ok (.iconst 1, 1) := by decide +kernel
theorem dd_Mo_names_45 : decode prog_9_method_8_code 45 = .ok (.goto 4, 3) := by decide +kernel
theorem dd_Mo_names_48 : decode prog_9_method_8_code 48 = .ok (.iconst 0, 1) := by decide +kernel
theorem dd_Mo_names_49 : decode prog_9_method_8_code 49 = .ok (.istore_n 3, 1) := by decide +kernel
theorem dd_Mo_names_50 : decode prog_9_method_8_code 50 = .ok (.iinc 4 1, 3) := by decide +kernel
theorem dd_Mo_names_53 : decode prog_9_method_8_code 53 = .ok (.goto (-48), 3) := by decide +kernel
theorem dd_Mo_names_56 : decode prog_9_method_8_code 56 = .ok (.iload_n 3, 1) := by decide +kernel
theorem dd_Mo_names_57 : decode prog_9_method_8_code 57 = .ok (.ireturn, 1) := by decide +kernel
theorem dd_Mo_merge_0 : decode prog_9_method_15_code 0 = .ok (.iconst 0, 1) := by decide +kernel
theorem dd_Mo_merge_1 : decode prog_9_method_15_code 1 = .ok (.istore_n 2, 1) := by decide +kernel
theorem dd_Mo_merge_2 : decode prog_9_method_15_code 2 = .ok (.iload_n 2, 1) := by decide +kernel
theorem dd_Mo_merge_3 : decode prog_9_method_15_code 3 = .ok (.bipush 24, 2) := by decide +kernel
theorem dd_Mo_merge_5 : decode prog_9_method_15_code 5 = .ok (.if_icmp .ge 95, 3) := by decide +kernel
theorem dd_Mo_merge_8 : decode prog_9_method_15_code 8 = .ok (.iconst (-1), 1) := by decide +kernel
theorem dd_Mo_merge_9 : decode prog_9_method_15_code 9 = .ok (.istore_n 3, 1) := by decide +kernel
theorem dd_Mo_merge_10 : decode prog_9_method_15_code 10 = .ok (.iconst 0, 1) := by decide +kernel
theorem dd_Mo_merge_11 : decode prog_9_method_15_code 11 = .ok (.istore 4, 2) := by decide +kernel
theorem dd_Mo_merge_13 : decode prog_9_method_15_code 13 = .ok (.iload 4, 2) := by decide +kernel
theorem dd_Mo_merge_15 : decode prog_9_method_15_code 15 = .ok (.bipush 24, 2) := by decide +kernel
theorem dd_Mo_merge_17 : decode prog_9_method_15_code 17 = .ok (.if_icmp .ge 45, 3) := by decide +kernel
theorem dd_Mo_merge_20 : decode prog_9_method_15_code 20 = .ok (.aload_n 0, 1) := by decide +kernel
theorem dd_Mo_merge_21 : decode prog_9_method_15_code 21 = .ok (.getfield 41, 3) := by decide +kernel
theorem dd_Mo_merge_24 : decode prog_9_method_15_code 24 = .ok (.iload 4, 2) := by decide +kernel
theorem dd_Mo_merge_26 : decode prog_9_method_15_code 26 = .ok (.iaload, 1) := by decide +kernel
theorem dd_Mo_merge_27 : decode prog_9_method_15_code 27 = .ok (.iload_n 1, 1) := by decide +kernel
theorem dd_Mo_merge_28 : decode prog_9_method_15_code 28 = .ok (.iconst 1, 1) := by decide +kernel
theorem dd_Mo_merge_29 : decode prog_9_method_15_code 29 = .ok (.iadd, 1) := by decide +kernel
theorem dd_Mo_merge_30 : decode prog_9_method_15_code 30 = .ok (.if_icmp .ne 26, 3) := by decide +kernel
theorem dd_Mo_merge_33 : decode prog_9_method_15_code 33 = .ok (.iload_n 3, 1) := by decide +kernel
theorem dd_Mo_merge_34 : decode prog_9_method_15_code 34 = .ok (.ifCond .lt 19, 3) := by decide +kernel
theorem dd_Mo_merge_37 : decode prog_9_method_15_code 37 = .ok (.aload_n 0, 1) := by decide +kernel
theorem dd_Mo_merge_38 : decode prog_9_method_15_code 38 = .ok (.getfield 47, 3) := by decide +kernel
theorem dd_Mo_merge_41 : decode prog_9_method_15_code 41 = .ok (.iload 4, 2) := by decide +kernel
theorem dd_Mo_merge_43 : decode prog_9_method_15_code 43 = .ok (.iaload, 1) := by decide +kernel
theorem dd_Mo_merge_44 : decode prog_9_method_15_code 44 = .ok (.aload_n 0, 1) := by decide +kernel
theorem dd_Mo_merge_45 : decode prog_9_method_15_code 45 = .ok (.getfield 47, 3) := by decide +kernel
theorem dd_Mo_merge_48 : decode prog_9_method_15_code 48 = .ok (.iload_n 3, 1) := by decide +kernel
theorem dd_Mo_merge_49 : decode prog_9_method_15_code 49 = .ok (.iaload, 1) := by decide +kernel
theorem dd_Mo_merge_50 : decode prog_9_method_15_code 50 = .ok (.if_icmp .ge 6, 3) := by decide +kernel
theorem dd_Mo_merge_53 : decode prog_9_method_15_code 53 = .ok (.iload 4, 2) := by decide +kernel
theorem dd_Mo_merge_55 : decode prog_9_method_15_code 55 = .ok (.istore_n 3, 1) := by decide +kernel
theorem dd_Mo_merge_56 : decode prog_9_method_15_code 56 = .ok (.iinc 4 1, 3) := by decide +kernel
theorem dd_Mo_merge_59 : decode prog_9_method_15_code 59 = .ok (.goto (-46), 3) := by decide +kernel
theorem dd_Mo_merge_62 : decode prog_9_method_15_code 62 = .ok (.iload_n 3, 1) := by decide +kernel
theorem dd_Mo_merge_63 : decode prog_9_method_15_code 63 = .ok (.ifCond .lt 31, 3) := by decide +kernel
theorem dd_Mo_merge_66 : decode prog_9_method_15_code 66 = .ok (.aload_n 0, 1) := by decide +kernel
theorem dd_Mo_merge_67 : decode prog_9_method_15_code 67 = .ok (.getfield 41, 3) := by decide +kernel
theorem dd_Mo_merge_70 : decode prog_9_method_15_code 70 = .ok (.iload_n 3, 1) := by decide +kernel
theorem dd_Mo_merge_71 : decode prog_9_method_15_code 71 = .ok (.bipush 9, 2) := by decide +kernel
theorem dd_Mo_merge_73 : decode prog_9_method_15_code 73 = .ok (.iastore, 1) := by decide +kernel
theorem dd_Mo_merge_74 : decode prog_9_method_15_code 74 = .ok (.aload_n 0, 1) := by decide +kernel
theorem dd_Mo_merge_75 : decode prog_9_method_15_code 75 = .ok (.dup, 1) := by decide +kernel
theorem dd_Mo_merge_76 : decode prog_9_method_15_code 76 = .ok (.getfield 118, 3) := by decide +kernel
theorem dd_Mo_merge_79 : decode prog_9_method_15_code 79 = .ok (.iconst 1, 1) := by decide +kernel
theorem dd_Mo_merge_80 : decode prog_9_method_15_code 80 = .ok (.iadd, 1) := by decide +kernel
theorem dd_Mo_merge_81 : decode prog_9_method_15_code 81 = .ok (.putfield 118, 3) := by decide +kernel
theorem dd_Mo_merge_84 : decode prog_9_method_15_code 84 = .ok (.aload_n 0, 1) := by decide +kernel
theorem dd_Mo_merge_85 : decode prog_9_method_15_code 85 = .ok (.getfield 47, 3) := by decide +kernel
theorem dd_Mo_merge_88 : decode prog_9_method_15_code 88 = .ok (.iload_n 3, 1) := by decide +kernel
theorem dd_Mo_merge_89 : decode prog_9_method_15_code 89 = .ok (.aload_n 0, 1) := by decide +kernel
theorem dd_Mo_merge_90 : decode prog_9_method_15_code 90 = .ok (.getfield 118, 3) := by decide +kernel
theorem dd_Mo_merge_93 : decode prog_9_method_15_code 93 = .ok (.iastore, 1) := by decide +kernel
theorem dd_Mo_merge_94 : decode prog_9_method_15_code 94 = .ok (.iinc 2 1, 3) := by decide +kernel
theorem dd_Mo_merge_97 : decode prog_9_method_15_code 97 = .ok (.goto (-95), 3) := by decide +kernel
theorem dd_Mo_merge_100 : decode prog_9_method_15_code 100 = .ok (.iconst 0, 1) := by decide +kernel
theorem dd_Mo_merge_101 : decode prog_9_method_15_code 101 = .ok (.istore_n 2, 1) := by decide +kernel
theorem dd_Mo_merge_102 : decode prog_9_method_15_code 102 = .ok (.iload_n 2, 1) := by decide +kernel
theorem dd_Mo_merge_103 : decode prog_9_method_15_code 103 = .ok (.bipush 60, 2) := by decide +kernel
theorem dd_Mo_merge_105 : decode prog_9_method_15_code 105 = .ok (.if_icmp .ge 38, 3) := by decide +kernel
theorem dd_Mo_merge_108 : decode prog_9_method_15_code 108 = .ok (.aload_n 0, 1) := by decide +kernel
theorem dd_Mo_merge_109 : decode prog_9_method_15_code 109 = .ok (.getfield 26, 3) := by decide +kernel
theorem dd_Mo_merge_112 : decode prog_9_method_15_code 112 = .ok (.iload_n 2, 1) := by decide +kernel
theorem dd_Mo_merge_113 : decode prog_9_method_15_code 113 = .ok (.aload_n 0, 1) := by decide +kernel
theorem dd_Mo_merge_114 : decode prog_9_method_15_code 114 = .ok (.getfield 26, 3) := by decide +kernel
theorem dd_Mo_merge_117 : decode prog_9_method_15_code 117 = .ok (.iload_n 2, 1) := by decide +kernel
theorem dd_Mo_merge_118 : decode prog_9_method_15_code 118 = .ok (.iaload, 1) := by decide +kernel
theorem dd_Mo_merge_119 : decode prog_9_method_15_code 119 = .ok (.iload_n 1, 1) := by decide +kernel
theorem dd_Mo_merge_120 : decode prog_9_method_15_code 120 = .ok (.iconst 1, 1) := by decide +kernel
theorem dd_Mo_merge_121 : decode prog_9_method_15_code 121 = .ok (.iadd, 1) := by decide +kernel
theorem dd_Mo_merge_122 : decode prog_9_method_15_code 122 = .ok (.if_icmp .ne 8, 3) := by decide +kernel
theorem dd_Mo_merge_125 : decode prog_9_method_15_code 125 = .ok (.bipush 9, 2) := by decide +kernel
theorem dd_Mo_merge_127 : decode prog_9_method_15_code 127 = .ok (.goto 9, 3) := by decide +kernel
theorem dd_Mo_merge_130 : decode prog_9_method_15_code 130 = .ok (.aload_n 0, 1) := by decide +kernel
theorem dd_Mo_merge_131 : decode prog_9_method_15_code 131 = .ok (.getfield 26, 3) := by decide +kernel
theorem dd_Mo_merge_134 : decode prog_9_method_15_code 134 = .ok (.iload_n 2, 1) := by decide +kernel
theorem dd_Mo_merge_135 : decode prog_9_method_15_code 135 = .ok (.iaload, 1) := by decide +kernel
theorem dd_Mo_merge_136 : decode prog_9_method_15_code 136 = .ok (.iastore, 1) := by decide +kernel
theorem dd_Mo_merge_137 : decode prog_9_method_15_code 137 = .ok (.iinc 2 1, 3) := by decide +kernel
theorem dd_Mo_merge_140 : decode prog_9_method_15_code 140 = .ok (.goto (-38), 3) := by decide +kernel
theorem dd_Mo_merge_143 : decode prog_9_method_15_code 143 = .ok (.return_, 1) := by decide +kernel
theorem dd_Mo_vanish_0 : decode prog_9_method_14_code 0 = .ok (.iconst 0, 1) := by decide +kernel
theorem dd_Mo_vanish_1 : decode prog_9_method_14_code 1 = .ok (.istore_n 1, 1) := by decide +kernel
theorem dd_Mo_vanish_2 : decode prog_9_method_14_code 2 = .ok (.iload_n 1, 1) := by decide +kernel
theorem dd_Mo_vanish_3 : decode prog_9_method_14_code 3 = .ok (.iconst 4, 1) := by decide +kernel
theorem dd_Mo_vanish_4 : decode prog_9_method_14_code 4 = .ok (.if_icmp .ge 143, 3) := by decide +kernel
theorem dd_Mo_vanish_7 : decode prog_9_method_14_code 7 = .ok (.aload_n 0, 1) := by decide +kernel
theorem dd_Mo_vanish_8 : decode prog_9_method_14_code 8 = .ok (.bipush 8, 2) := by decide +kernel
theorem dd_Mo_vanish_10 : decode prog_9_method_14_code 10 = .ok (.bipush 9, 2) := by decide +kernel
theorem dd_Mo_vanish_12 : decode prog_9_method_14_code 12 = .ok (.iload_n 1, 1) := by decide +kernel
theorem dd_Mo_vanish_13 : decode prog_9_method_14_code 13 = .ok (.iadd, 1) := by decide +kernel
theorem dd_Mo_vanish_14 : decode prog_9_method_14_code 14 = .ok (.invokevirtual 109, 3) := by decide +kernel
theorem dd_Mo_vanish_17 : decode prog_9_method_14_code 17 = .ok (.istore_n 2, 1) := by decide +kernel
theorem dd_Mo_vanish_18 : decode prog_9_method_14_code 18 = .ok (.iconst 0, 1) := by decide +kernel
theorem dd_Mo_vanish_19 : decode prog_9_method_14_code 19 = .ok (.istore_n 3, 1) := by decide +kernel
theorem dd_Mo_vanish_20 : decode prog_9_method_14_code 20 = .ok (.iload_n 3, 1) := by decide +kernel
theorem dd_Mo_vanish_21 : decode prog_9_method_14_code 21 = .ok (.bipush 8, 2) := by decide +kernel
theorem dd_Mo_vanish_23 : decode prog_9_method_14_code 23 = .ok (.if_icmp .ge 40, 3) := by decide +kernel
theorem dd_Mo_vanish_26 : decode prog_9_method_14_code 26 = .ok (.iload_n 2, 1) := by decide +kernel
theorem dd_Mo_vanish_27 : decode prog_9_method_14_code 27 = .ok (.ifCond .ne 24, 3) := by decide +kernel
theorem dd_Mo_vanish_30 : decode prog_9_method_14_code 30 = .ok (.aload_n 0, 1) := by decide +kernel
theorem dd_Mo_vanish_31 : decode prog_9_method_14_code 31 = .ok (.iload_n 3, 1) := by decide +kernel
theorem dd_Mo_vanish_32 : decode prog_9_method_14_code 32 = .ok (.invokevirtual 89, 3) := by decide +kernel
theorem dd_Mo_vanish_35 : decode prog_9_method_14_code 35 = .ok (.ifCond .eq 20, 3) := by decide +kernel
theorem dd_Mo_vanish_38 : decode prog_9_method_14_code 38 = .ok (.aload_n 0, 1) := by decide +kernel
theorem dd_Mo_vanish_39 : decode prog_9_method_14_code 39 = .ok (.getfield 59, 3) := by decide +kernel
theorem dd_Mo_vanish_42 : decode prog_9_method_14_code 42 = .ok (.iconst 4, 1) := by decide +kernel
theorem dd_Mo_vanish_43 : decode prog_9_method_14_code 43 = .ok (.iload_n 3, 1) := by decide +kernel
theorem dd_Mo_vanish_44 : decode prog_9_method_14_code 44 = .ok (.imul, 1) := by decide +kernel
theorem dd_Mo_vanish_45 : decode prog_9_method_14_code 45 = .ok (.iload_n 1, 1) := by decide +kernel
theorem dd_Mo_vanish_46 : decode prog_9_method_14_code 46 = .ok (.iadd, 1) := by decide +kernel
theorem dd_Mo_vanish_47 : decode prog_9_method_14_code 47 = .ok (.baload, 1) := by decide +kernel
theorem dd_Mo_vanish_48 : decode prog_9_method_14_code 48 = .ok (.ifCond .eq 7, 3) := by decide +kernel
theorem dd_Mo_vanish_51 : decode prog_9_method_14_code 51 = .ok (.iconst 1, 1) := by decide +kernel
theorem dd_Mo_vanish_52 : decode prog_9_method_14_code 52 = .ok (.goto 4, 3) := by decide +kernel
theorem dd_Mo_vanish_55 : decode prog_9_method_14_code 55 = .ok (.iconst 0, 1) := by decide +kernel
theorem dd_Mo_vanish_56 : decode prog_9_method_14_code 56 = .ok (.istore_n 2, 1) := by decide +kernel
theorem dd_Mo_vanish_57 : decode prog_9_method_14_code 57 = .ok (.iinc 3 1, 3) := by decide +kernel
theorem dd_Mo_vanish_60 : decode prog_9_method_14_code 60 = .ok (.goto (-40), 3) := by decide +kernel
theorem dd_Mo_vanish_63 : decode prog_9_method_14_code 63 = .ok (.aload_n 0, 1) := by decide +kernel
theorem dd_Mo_vanish_64 : decode prog_9_method_14_code 64 = .ok (.getfield 50, 3) := by decide +kernel
theorem dd_Mo_vanish_67 : decode prog_9_method_14_code 67 = .ok (.iload_n 1, 1) := by decide +kernel
theorem dd_Mo_vanish_68 : decode prog_9_method_14_code 68 = .ok (.iaload, 1) := by decide +kernel
theorem dd_Mo_vanish_69 : decode prog_9_method_14_code 69 = .ok (.iconst 2, 1) := by decide +kernel
theorem dd_Mo_vanish_70 : decode prog_9_method_14_code 70 = .ok (.if_icmp .ne 71, 3) := by decide +kernel
theorem dd_Mo_vanish_73 : decode prog_9_method_14_code 73 = .ok (.iload_n 2, 1) := by decide +kernel
theorem dd_Mo_vanish_74 : decode prog_9_method_14_code 74 = .ok (.ifCond .ne 67, 3) := by decide +kernel
theorem dd_Mo_vanish_77 : decode prog_9_method_14_code 77 = .ok (.iconst 0, 1) := by decide +kernel
theorem dd_Mo_vanish_78 : decode prog_9_method_14_code 78 = .ok (.istore_n 3, 1) := by decide +kernel
theorem dd_Mo_vanish_79 : decode prog_9_method_14_code 79 = .ok (.iload_n 3, 1) := by decide +kernel
theorem dd_Mo_vanish_80 : decode prog_9_method_14_code 80 = .ok (.bipush 60, 2) := by decide +kernel
theorem dd_Mo_vanish_82 : decode prog_9_method_14_code 82 = .ok (.if_icmp .ge 27, 3) := by decide +kernel
theorem dd_Mo_vanish_85 : decode prog_9_method_14_code 85 = .ok (.aload_n 0, 1) := by decide +kernel
theorem dd_Mo_vanish_86 : decode prog_9_method_14_code 86 = .ok (.getfield 26, 3) := by decide +kernel
theorem dd_Mo_vanish_89 : decode prog_9_method_14_code 89 = .ok (.iload_n 3, 1) := by decide +kernel
theorem dd_Mo_vanish_90 : decode prog_9_method_14_code 90 = .ok (.iaload, 1) := by decide +kernel
theorem dd_Mo_vanish_91 : decode prog_9_method_14_code 91 = .ok (.bipush 10, 2) := by decide +kernel
theorem dd_Mo_vanish_93 : decode prog_9_method_14_code 93 = .ok (.iload_n 1, 1) := by decide +kernel
theorem dd_Mo_vanish_94 : decode prog_9_method_14_code 94 = .ok (.iadd, 1) := by decide +kernel
theorem dd_Mo_vanish_95 : decode prog_9_method_14_code 95 = .ok (.if_icmp .ne 8, 3) := by decide +kernel
theorem dd_Mo_vanish_98 : decode prog_9_method_14_code 98 = .ok (.aload_n 0, 1) := by decide +kernel
theorem dd_Mo_vanish_99 : decode prog_9_method_14_code 99 = .ok (.iload_n 3, 1) := by decide +kernel
theorem dd_Mo_vanish_100 : decode prog_9_method_14_code 100 = .ok (.invokevirtual 103, 3) := by decide +kernel
theorem dd_Mo_vanish_103 : decode prog_9_method_14_code 103 = .ok (.iinc 3 1, 3) := by decide +kernel
theorem dd_Mo_vanish_106 : decode prog_9_method_14_code 106 = .ok (.goto (-27), 3) := by decide +kernel
theorem dd_Mo_vanish_109 : decode prog_9_method_14_code 109 = .ok (.iconst 0, 1) := by decide +kernel
theorem dd_Mo_vanish_110 : decode prog_9_method_14_code 110 = .ok (.istore_n 3, 1) := by decide +kernel
theorem dd_Mo_vanish_111 : decode prog_9_method_14_code 111 = .ok (.iload_n 3, 1) := by decide +kernel
theorem dd_Mo_vanish_112 : decode prog_9_method_14_code 112 = .ok (.bipush 8, 2) := by decide +kernel
theorem dd_Mo_vanish_114 : decode prog_9_method_14_code 114 = .ok (.if_icmp .ge 20, 3) := by decide +kernel
theorem dd_Mo_vanish_117 : decode prog_9_method_14_code 117 = .ok (.aload_n 0, 1) := by decide +kernel
theorem dd_Mo_vanish_118 : decode prog_9_method_14_code 118 = .ok (.getfield 62, 3) := by decide +kernel
theorem dd_Mo_vanish_121 : decode prog_9_method_14_code 121 = .ok (.iconst 4, 1) := by decide +kernel
theorem dd_Mo_vanish_122 : decode prog_9_method_14_code 122 = .ok (.iload_n 3, 1) := by decide +kernel
theorem dd_Mo_vanish_123 : decode prog_9_method_14_code 123 = .ok (.imul, 1) := by decide +kernel
theorem dd_Mo_vanish_124 : decode prog_9_method_14_code 124 = .ok (.iload_n 1, 1) := by decide +kernel
theorem dd_Mo_vanish_125 : decode prog_9_method_14_code 125 = .ok (.iadd, 1) := by decide +kernel
theorem dd_Mo_vanish_126 : decode prog_9_method_14_code 126 = .ok (.iconst 0, 1) := by decide +kernel
theorem dd_Mo_vanish_127 : decode prog_9_method_14_code 127 = .ok (.bastore, 1) := by decide +kernel
theorem dd_Mo_vanish_128 : decode prog_9_method_14_code 128 = .ok (.iinc 3 1, 3) := by decide +kernel
theorem dd_Mo_vanish_131 : decode prog_9_method_14_code 131 = .ok (.goto (-20), 3) := by decide +kernel
theorem dd_Mo_vanish_134 : decode prog_9_method_14_code 134 = .ok (.aload_n 0, 1) := by decide +kernel
theorem dd_Mo_vanish_135 : decode prog_9_method_14_code 135 = .ok (.getfield 50, 3) := by decide +kernel
theorem dd_Mo_vanish_138 : decode prog_9_method_14_code 138 = .ok (.iload_n 1, 1) := by decide +kernel
theorem dd_Mo_vanish_139 : decode prog_9_method_14_code 139 = .ok (.iconst 3, 1) := by decide +kernel
theorem dd_Mo_vanish_140 : decode prog_9_method_14_code 140 = .ok (.iastore, 1) := by decide +kernel
theorem dd_Mo_vanish_141 : decode prog_9_method_14_code 141 = .ok (.iinc 1 1, 3) := by decide +kernel
theorem dd_Mo_vanish_144 : decode prog_9_method_14_code 144 = .ok (.goto (-142), 3) := by decide +kernel
theorem dd_Mo_vanish_147 : decode prog_9_method_14_code 147 = .ok (.return_, 1) := by decide +kernel
theorem dd_Mo_free_0 : decode prog_9_method_7_code 0 = .ok (.aload_n 0, 1) := by decide +kernel
theorem dd_Mo_free_1 : decode prog_9_method_7_code 1 = .ok (.getfield 35, 3) := by decide +kernel
theorem dd_Mo_free_4 : decode prog_9_method_7_code 4 = .ok (.iload_n 1, 1) := by decide +kernel
theorem dd_Mo_free_5 : decode prog_9_method_7_code 5 = .ok (.iaload, 1) := by decide +kernel
theorem dd_Mo_free_6 : decode prog_9_method_7_code 6 = .ok (.istore_n 2, 1) := by decide +kernel
theorem dd_Mo_free_7 : decode prog_9_method_7_code 7 = .ok (.aload_n 0, 1) := by decide +kernel
theorem dd_Mo_free_8 : decode prog_9_method_7_code 8 = .ok (.getfield 26, 3) := by decide +kernel
theorem dd_Mo_free_11 : decode prog_9_method_7_code 11 = .ok (.iload_n 1, 1) := by decide +kernel
theorem dd_Mo_free_12 : decode prog_9_method_7_code 12 = .ok (.iconst 0, 1) := by decide +kernel
theorem dd_Mo_free_13 : decode prog_9_method_7_code 13 = .ok (.iastore, 1) := by decide +kernel
theorem dd_Mo_free_14 : decode prog_9_method_7_code 14 = .ok (.iconst 1, 1) := by decide +kernel
theorem dd_Mo_free_15 : decode prog_9_method_7_code 15 = .ok (.istore_n 3, 1) := by decide +kernel
theorem dd_Mo_free_16 : decode prog_9_method_7_code 16 = .ok (.iconst 0, 1) := by decide +kernel
theorem dd_Mo_free_17 : decode prog_9_method_7_code 17 = .ok (.istore 4, 2) := by decide +kernel
theorem dd_Mo_free_19 : decode prog_9_method_7_code 19 = .ok (.iload 4, 2) := by decide +kernel
theorem dd_Mo_free_21 : decode prog_9_method_7_code 21 = .ok (.bipush 60, 2) := by decide +kernel
theorem dd_Mo_free_23 : decode prog_9_method_7_code 23 = .ok (.if_icmp .ge 40, 3) := by decide +kernel
theorem dd_Mo_free_26 : decode prog_9_method_7_code 26 = .ok (.iload_n 3, 1) := by decide +kernel
theorem dd_Mo_free_27 : decode prog_9_method_7_code 27 = .ok (.ifCond .eq 28, 3) := by decide +kernel
theorem dd_Mo_free_30 : decode prog_9_method_7_code 30 = .ok (.aload_n 0, 1) := by decide +kernel
theorem dd_Mo_free_31 : decode prog_9_method_7_code 31 = .ok (.getfield 26, 3) := by decide +kernel
theorem dd_Mo_free_34 : decode prog_9_method_7_code 34 = .ok (.iload 4, 2) := by decide +kernel
theorem dd_Mo_free_36 : decode prog_9_method_7_code 36 = .ok (.iaload, 1) := by decide +kernel
theorem dd_Mo_free_37 : decode prog_9_method_7_code 37 = .ok (.ifCond .le 14, 3) := by decide +kernel
theorem dd_Mo_free_40 : decode prog_9_method_7_code 40 = .ok (.aload_n 0, 1) := by decide +kernel
theorem dd_Mo_free_41 : decode prog_9_method_7_code 41 = .ok (.getfield 35, 3) := by decide +kernel
theorem dd_Mo_free_44 : decode prog_9_method_7_code 44 = .ok (.iload 4, 2) := by decide +kernel
theorem dd_Mo_free_46 : decode prog_9_method_7_code 46 = .ok (.iaload, 1) := by decide +kernel
theorem dd_Mo_free_47 : decode prog_9_method_7_code 47 = .ok (.iload_n 2, 1) := by decide +kernel
theorem dd_Mo_free_48 : decode prog_9_method_7_code 48 = .ok (.if_icmp .eq 7, 3) := by decide +kernel
theorem dd_Mo_free_51 : decode prog_9_method_7_code 51 = .ok (.iconst 1, 1) := by decide +kernel
theorem dd_Mo_free_52 : decode prog_9_method_7_code 52 = .ok (.goto 4, 3) := by decide +kernel
theorem dd_Mo_free_55 : decode prog_9_method_7_code 55 = .ok (.iconst 0, 1) := by decide +kernel
theorem dd_Mo_free_56 : decode prog_9_method_7_code 56 = .ok (.istore_n 3, 1) := by decide +kernel
theorem dd_Mo_free_57 : decode prog_9_method_7_code 57 = .ok (.iinc 4 1, 3) := by decide +kernel
theorem dd_Mo_free_60 : decode prog_9_method_7_code 60 = .ok (.goto (-41), 3) := by decide +kernel
theorem dd_Mo_free_63 : decode prog_9_method_7_code 63 = .ok (.iload_n 3, 1) := by decide +kernel
theorem dd_Mo_free_64 : decode prog_9_method_7_code 64 = .ok (.ifCond .eq 10, 3) := by decide +kernel
theorem dd_Mo_free_67 : decode prog_9_method_7_code 67 = .ok (.aload_n 0, 1) := by decide +kernel
theorem dd_Mo_free_68 : decode prog_9_method_7_code 68 = .ok (.getfield 41, 3) := by decide +kernel
theorem dd_Mo_free_71 : decode prog_9_method_7_code 71 = .ok (.iload_n 2, 1) := by decide +kernel
theorem dd_Mo_free_72 : decode prog_9_method_7_code 72 = .ok (.iconst 0, 1) := by decide +kernel
theorem dd_Mo_free_73 : decode prog_9_method_7_code 73 = .ok (.iastore, 1) := by decide +kernel
theorem dd_Mo_free_74 : decode prog_9_method_7_code 74 = .ok (.iconst 0, 1) := by decide +kernel
theorem dd_Mo_free_75 : decode prog_9_method_7_code 75 = .ok (.istore 4, 2) := by decide +kernel
theorem dd_Mo_free_77 : decode prog_9_method_7_code 77 = .ok (.iload 4, 2) := by decide +kernel
theorem dd_Mo_free_79 : decode prog_9_method_7_code 79 = .ok (.bipush 13, 2) := by decide +kernel
theorem dd_Mo_free_81 : decode prog_9_method_7_code 81 = .ok (.if_icmp .ge 22, 3) := by decide +kernel
theorem dd_Mo_free_84 : decode prog_9_method_7_code 84 = .ok (.aload_n 0, 1) := by decide +kernel
theorem dd_Mo_free_85 : decode prog_9_method_7_code 85 = .ok (.getfield 65, 3) := by decide +kernel
theorem dd_Mo_free_88 : decode prog_9_method_7_code 88 = .ok (.bipush 60, 2) := by decide +kernel
theorem dd_Mo_free_90 : decode prog_9_method_7_code 90 = .ok (.iload 4, 2) := by decide +kernel
theorem dd_Mo_free_92 : decode prog_9_method_7_code 92 = .ok (.imul, 1) := by decide +kernel
theorem dd_Mo_free_93 : decode prog_9_method_7_code 93 = .ok (.iload_n 1, 1) := by decide +kernel
theorem dd_Mo_free_94 : decode prog_9_method_7_code 94 = .ok (.iadd, 1) := by decide +kernel
theorem dd_Mo_free_95 : decode prog_9_method_7_code 95 = .ok (.iconst 0, 1) := by decide +kernel
theorem dd_Mo_free_96 : decode prog_9_method_7_code 96 = .ok (.bastore, 1) := by decide +kernel
theorem dd_Mo_free_97 : decode prog_9_method_7_code 97 = .ok (.iinc 4 1, 3) := by decide +kernel
theorem dd_Mo_free_100 : decode prog_9_method_7_code 100 = .ok (.goto (-23), 3) := by decide +kernel
theorem dd_Mo_free_103 : decode prog_9_method_7_code 103 = .ok (.return_, 1) := by decide +kernel
theorem dd_Mo_mode_0 : decode prog_9_method_19_code 0 = .ok (.aload_n 0, 1) := by decide +kernel
theorem dd_Mo_mode_1 : decode prog_9_method_19_code 1 = .ok (.iload_n 1, 1) := by decide +kernel
theorem dd_Mo_mode_2 : decode prog_9_method_19_code 2 = .ok (.invokevirtual 89, 3) := by decide +kernel
theorem dd_Mo_mode_5 : decode prog_9_method_19_code 5 = .ok (.ifCond .eq 22, 3) := by decide +kernel
theorem dd_Mo_mode_8 : decode prog_9_method_19_code 8 = .ok (.iload_n 2, 1) := by decide +kernel
theorem dd_Mo_mode_9 : decode prog_9_method_19_code 9 = .ok (.aload_n 0, 1) := by decide +kernel
theorem dd_Mo_mode_10 : decode prog_9_method_19_code 10 = .ok (.getfield 7, 3) := by decide +kernel
theorem dd_Mo_mode_13 : decode prog_9_method_19_code 13 = .ok (.iload_n 1, 1) := by decide +kernel
theorem dd_Mo_mode_14 : decode prog_9_method_19_code 14 = .ok (.iaload, 1) := by decide +kernel
theorem dd_Mo_mode_15 : decode prog_9_method_19_code 15 = .ok (.iconst 2, 1) := by decide +kernel
theorem dd_Mo_mode_16 : decode prog_9_method_19_code 16 = .ok (.if_icmp .lt 7, 3) := by decide +kernel
theorem dd_Mo_mode_19 : decode prog_9_method_19_code 19 = .ok (.iconst 1, 1) := by decide +kernel
theorem dd_Mo_mode_20 : decode prog_9_method_19_code 20 = .ok (.goto 4, 3) := by decide +kernel
theorem dd_Mo_mode_23 : decode prog_9_method_19_code 23 = .ok (.iconst 0, 1) := by decide +kernel
theorem dd_Mo_mode_24 : decode prog_9_method_19_code 24 = .ok (.if_icmp .ne 5, 3) := by decide +kernel
theorem dd_Mo_mode_27 : decode prog_9_method_19_code 27 = .ok (.iconst 0, 1) := by decide +kernel
theorem dd_Mo_mode_28 : decode prog_9_method_19_code 28 = .ok (.ireturn, 1) := by decide +kernel
theorem dd_Mo_mode_29 : decode prog_9_method_19_code 29 = .ok (.aload_n 0, 1) := by decide +kernel
theorem dd_Mo_mode_30 : decode prog_9_method_19_code 30 = .ok (.getfield 7, 3) := by decide +kernel
theorem dd_Mo_mode_33 : decode prog_9_method_19_code 33 = .ok (.iload_n 1, 1) := by decide +kernel
theorem dd_Mo_mode_34 : decode prog_9_method_19_code 34 = .ok (.iaload, 1) := by decide +kernel
theorem dd_Mo_mode_35 : decode prog_9_method_19_code 35 = .ok (.iconst 3, 1) := by decide +kernel
theorem dd_Mo_mode_36 : decode prog_9_method_19_code 36 = .ok (.if_icmp .ne 11, 3) := by decide +kernel
theorem dd_Mo_mode_39 : decode prog_9_method_19_code 39 = .ok (.aload_n 0, 1) := by decide +kernel
theorem dd_Mo_mode_40 : decode prog_9_method_19_code 40 = .ok (.iload_n 1, 1) := by decide +kernel
theorem dd_Mo_mode_41 : decode prog_9_method_19_code 41 = .ok (.invokevirtual 127, 3) := by decide +kernel
theorem dd_Mo_mode_44 : decode prog_9_method_19_code 44 = .ok (.goto 18, 3) := by decide +kernel
theorem dd_Mo_mode_47 : decode prog_9_method_19_code 47 = .ok (.aload_n 0, 1) := by decide +kernel
theorem dd_Mo_mode_48 : decode prog_9_method_19_code 48 = .ok (.getfield 7, 3) := by decide +kernel
theorem dd_Mo_mode_51 : decode prog_9_method_19_code 51 = .ok (.iload_n 1, 1) := by decide +kernel
theorem dd_Mo_mode_52 : decode prog_9_method_19_code 52 = .ok (.iload_n 2, 1) := by decide +kernel
theorem dd_Mo_mode_53 : decode prog_9_method_19_code 53 = .ok (.ifCond .eq 7, 3) := by decide +kernel
theorem dd_Mo_mode_56 : decode prog_9_method_19_code 56 = .ok (.iconst 2, 1) := by decide +kernel
theorem dd_Mo_mode_57 : decode prog_9_method_19_code 57 = .ok (.goto 4, 3) := by decide +kernel
theorem dd_Mo_mode_60 : decode prog_9_method_19_code 60 = .ok (.iconst 1, 1) := by decide +kernel
theorem dd_Mo_mode_61 : decode prog_9_method_19_code 61 = .ok (.iastore, 1) := by decide +kernel
theorem dd_Mo_mode_62 : decode prog_9_method_19_code 62 = .ok (.iconst 1, 1) := by decide +kernel
theorem dd_Mo_mode_63 : decode prog_9_method_19_code 63 = .ok (.ireturn, 1) := by decide +kernel
theorem dd_Mo_make_0 : decode prog_9_method_22_code 0 = .ok (.aload_n 0, 1) := by decide +kernel
theorem dd_Mo_make_1 : decode prog_9_method_22_code 1 = .ok (.iload_n 1, 1) := by decide +kernel
theorem dd_Mo_make_2 : decode prog_9_method_22_code 2 = .ok (.invokevirtual 89, 3) := by decide +kernel
theorem dd_Mo_make_5 : decode prog_9_method_22_code 5 = .ok (.ifCond .eq 21, 3) := by decide +kernel
theorem dd_Mo_make_8 : decode prog_9_method_22_code 8 = .ok (.iload_n 2, 1) := by decide +kernel
theorem dd_Mo_make_9 : decode prog_9_method_22_code 9 = .ok (.invokestatic 134, 3) := by decide +kernel
theorem dd_Mo_make_12 : decode prog_9_method_22_code 12 = .ok (.ifCond .eq 14, 3) := by decide +kernel
theorem dd_Mo_make_15 : decode prog_9_method_22_code 15 = .ok (.iload_n 3, 1) := by decide +kernel
theorem dd_Mo_make_16 : decode prog_9_method_22_code 16 = .ok (.iconst 1, 1) := by decide +kernel
theorem dd_Mo_make_17 : decode prog_9_method_22_code 17 = .ok (.if_icmp .lt 9, 3) := by decide +kernel
theorem dd_Mo_make_20 : decode prog_9_method_22_code 20 = .ok (.iload_n 3, 1) := by decide +kernel
theorem dd_Mo_make_21 : decode prog_9_method_22_code 21 = .ok (.bipush 16, 2) := by decide +kernel
theorem dd_Mo_make_23 : decode prog_9_method_22_code 23 = .ok (.if_icmp .le 5, 3) := by decide +kernel
theorem dd_Mo_make_26 : decode prog_9_method_22_code 26 = .ok (.iconst (-1), 1) := by decide +kernel
theorem dd_Mo_make_27 : decode prog_9_method_22_code 27 = .ok (.ireturn, 1) := by decide +kernel
theorem dd_Mo_make_28 : decode prog_9_method_22_code 28 = .ok (.iconst 0, 1) := by decide +kernel
theorem dd_Mo_make_29 : decode prog_9_method_22_code 29 = .ok (.istore 5, 2) := by decide +kernel
theorem dd_Mo_make_31 : decode prog_9_method_22_code 31 = .ok (.iload 5, 2) := by decide +kernel
theorem dd_Mo_make_33 : decode prog_9_method_22_code 33 = .ok (.bipush 60, 2) := by decide +kernel
theorem dd_Mo_make_35 : decode prog_9_method_22_code 35 = .ok (.if_icmp .ge 19, 3) := by decide +kernel
theorem dd_Mo_make_38 : decode prog_9_method_22_code 38 = .ok (.aload_n 0, 1) := by decide +kernel
theorem dd_Mo_make_39 : decode prog_9_method_22_code 39 = .ok (.getfield 26, 3) := by decide +kernel
theorem dd_Mo_make_42 : decode prog_9_method_22_code 42 = .ok (.iload 5, 2) := by decide +kernel
theorem dd_Mo_make_44 : decode prog_9_method_22_code 44 = .ok (.iaload, 1) := by decide +kernel
theorem dd_Mo_make_45 : decode prog_9_method_22_code 45 = .ok (.ifCond .le 9, 3) := by decide +kernel
theorem dd_Mo_make_48 : decode prog_9_method_22_code 48 = .ok (.iinc 5 1, 3) := by decide +kernel
theorem dd_Mo_make_51 : decode prog_9_method_22_code 51 = .ok (.goto (-20), 3) := by decide +kernel
theorem dd_Mo_make_54 : decode prog_9_method_22_code 54 = .ok (.iload 5, 2) := by decide +kernel
theorem dd_Mo_make_56 : decode prog_9_method_22_code 56 = .ok (.bipush 60, 2) := by decide +kernel
theorem dd_Mo_make_58 : decode prog_9_method_22_code 58 = .ok (.if_icmp .ne 6, 3) := by decide +kernel
theorem dd_Mo_make_61 : decode prog_9_method_22_code 61 = .ok (.bipush (-4), 2) := by decide +kernel
theorem dd_Mo_make_63 : decode prog_9_method_22_code 63 = .ok (.ireturn, 1) := by decide +kernel
theorem dd_Mo_make_64 : decode prog_9_method_22_code 64 = .ok (.aload_n 0, 1) := by decide +kernel
theorem dd_Mo_make_65 : decode prog_9_method_22_code 65 = .ok (.getfield 7, 3) := by decide +kernel
theorem dd_Mo_make_68 : decode prog_9_method_22_code 68 = .ok (.iload_n 1, 1) := by decide +kernel
theorem dd_Mo_make_69 : decode prog_9_method_22_code 69 = .ok (.iaload, 1) := by decide +kernel
theorem dd_Mo_make_70 : decode prog_9_method_22_code 70 = .ok (.iconst 2, 1) := by decide +kernel
theorem dd_Mo_make_71 : decode prog_9_method_22_code 71 = .ok (.if_icmp .lt 7, 3) := by decide +kernel
theorem dd_Mo_make_74 : decode prog_9_method_22_code 74 = .ok (.iconst 1, 1) := by decide +kernel
theorem dd_Mo_make_75 : decode prog_9_method_22_code 75 = .ok (.goto 4, 3) := by decide +kernel
theorem dd_Mo_make_78 : decode prog_9_method_22_code 78 = .ok (.iconst 0, 1) := by decide +kernel
theorem dd_Mo_make_79 : decode prog_9_method_22_code 79 = .ok (.istore 6, 2) := by decide +kernel
theorem dd_Mo_make_81 : decode prog_9_method_22_code 81 = .ok (.iload 6, 2) := by decide +kernel
theorem dd_Mo_make_83 : decode prog_9_method_22_code 83 = .ok (.ifCond .eq 8, 3) := by decide +kernel
theorem dd_Mo_make_86 : decode prog_9_method_22_code 86 = .ok (.bipush 8, 2) := by decide +kernel
theorem dd_Mo_make_88 : decode prog_9_method_22_code 88 = .ok (.goto 4, 3) := by decide +kernel
theorem dd_Mo_make_91 : decode prog_9_method_22_code 91 = .ok (.iload_n 1, 1) := by decide +kernel
theorem dd_Mo_make_92 : decode prog_9_method_22_code 92 = .ok (.istore 7, 2) := by decide +kernel
theorem dd_Mo_make_94 : decode prog_9_method_22_code 94 = .ok (.iconst 0, 1) := by decide +kernel
theorem dd_Mo_make_95 : decode prog_9_method_22_code 95 = .ok (.istore 8, 2) := by decide +kernel
theorem dd_Mo_make_97 : decode prog_9_method_22_code 97 = .ok (.iload 8, 2) := by decide +kernel
theorem dd_Mo_make_99 : decode prog_9_method_22_code 99 = .ok (.iconst 4, 1) := by decide +kernel
theorem dd_Mo_make_100 : decode prog_9_method_22_code 100 = .ok (.if_icmp .ge 48, 3) := by decide +kernel
theorem dd_Mo_make_103 : decode prog_9_method_22_code 103 = .ok (.iload 6, 2) := by decide +kernel
theorem dd_Mo_make_105 : decode prog_9_method_22_code 105 = .ok (.ifCond .ne 33, 3) := by decide +kernel
theorem dd_Mo_make_108 : decode prog_9_method_22_code 108 = .ok (.aload_n 0, 1) := by decide +kernel
theorem dd_Mo_make_109 : decode prog_9_method_22_code 109 = .ok (.getfield 50, 3) := by decide +kernel
theorem dd_Mo_make_112 : decode prog_9_method_22_code 112 = .ok (.iload 8, 2) := by decide +kernel
theorem dd_Mo_make_114 : decode prog_9_method_22_code 114 = .ok (.iaload, 1) := by decide +kernel
theorem dd_Mo_make_115 : decode prog_9_method_22_code 115 = .ok (.iconst 1, 1) := by decide +kernel
theorem dd_Mo_make_116 : decode prog_9_method_22_code 116 = .ok (.if_icmp .ne 22, 3) := by decide +kernel
theorem dd_Mo_make_119 : decode prog_9_method_22_code 119 = .ok (.aload_n 0, 1) := by decide +kernel
theorem dd_Mo_make_120 : decode prog_9_method_22_code 120 = .ok (.getfield 53, 3) := by decide +kernel
theorem dd_Mo_make_123 : decode prog_9_method_22_code 123 = .ok (.iload 8, 2) := by decide +kernel
theorem dd_Mo_make_125 : decode prog_9_method_22_code 125 = .ok (.iaload, 1) := by decide +kernel
theorem dd_Mo_make_126 : decode prog_9_method_22_code 126 = .ok (.iload_n 1, 1) := by decide +kernel
theorem dd_Mo_make_127 : decode prog_9_method_22_code 127 = .ok (.if_icmp .ne 11, 3) := by decide +kernel
theorem dd_Mo_make_130 : decode prog_9_method_22_code 130 = .ok (.bipush 9, 2) := by decide +kernel
theorem dd_Mo_make_132 : decode prog_9_method_22_code 132 = .ok (.iload 8, 2) := by decide +kernel
theorem dd_Mo_make_134 : decode prog_9_method_22_code 134 = .ok (.iadd, 1) := by decide +kernel
theorem dd_Mo_make_135 : decode prog_9_method_22_code 135 = .ok (.goto 5, 3) := by decide +kernel
theorem dd_Mo_make_138 : decode prog_9_method_22_code 138 = .ok (.iload 7, 2) := by decide +kernel
theorem dd_Mo_make_140 : decode prog_9_method_22_code 140 = .ok (.istore 7, 2) := by decide +kernel
theorem dd_Mo_make_142 : decode prog_9_method_22_code 142 = .ok (.iinc 8 1, 3) := by decide +kernel
theorem dd_Mo_make_145 : decode prog_9_method_22_code 145 = .ok (.goto (-48), 3) := by decide +kernel
theorem dd_Mo_make_148 : decode prog_9_method_22_code 148 = .ok (.iload 6, 2) := by decide +kernel
theorem dd_Mo_make_150 : decode prog_9_method_22_code 150 = .ok (.ifCond .eq 7, 3) := by decide +kernel
theorem dd_Mo_make_153 : decode prog_9_method_22_code 153 = .ok (.iconst 0, 1) := by decide +kernel
theorem dd_Mo_make_154 : decode prog_9_method_22_code 154 = .ok (.goto 4, 3) := by decide +kernel
theorem dd_Mo_make_157 : decode prog_9_method_22_code 157 = .ok (.iload_n 1, 1) := by decide +kernel
theorem dd_Mo_make_158 : decode prog_9_method_22_code 158 = .ok (.istore 8, 2) := by decide +kernel
theorem dd_Mo_make_160 : decode prog_9_method_22_code 160 = .ok (.aload_n 0, 1) := by decide +kernel
theorem dd_Mo_make_161 : decode prog_9_method_22_code 161 = .ok (.iload 7, 2) := by decide +kernel
theorem dd_Mo_make_163 : decode prog_9_method_22_code 163 = .ok (.iload 8, 2) := by decide +kernel
theorem dd_Mo_make_165 : decode prog_9_method_22_code 165 = .ok (.iload_n 3, 1) := by decide +kernel
theorem dd_Mo_make_166 : decode prog_9_method_22_code 166 = .ok (.invokevirtual 137, 3) := by decide +kernel
theorem dd_Mo_make_169 : decode prog_9_method_22_code 169 = .ok (.istore 9, 2) := by decide +kernel
theorem dd_Mo_make_171 : decode prog_9_method_22_code 171 = .ok (.iload 9, 2) := by decide +kernel
theorem dd_Mo_make_173 : decode prog_9_method_22_code 173 = .ok (.ifCond .ge 30, 3) := by decide +kernel
theorem dd_Mo_make_176 : decode prog_9_method_22_code 176 = .ok (.aload_n 0, 1) := by decide +kernel
theorem dd_Mo_make_177 : decode prog_9_method_22_code 177 = .ok (.iload 6, 2) := by decide +kernel
theorem dd_Mo_make_179 : decode prog_9_method_22_code 179 = .ok (.ifCond .eq 8, 3) := by decide +kernel
theorem dd_Mo_make_182 : decode prog_9_method_22_code 182 = .ok (.bipush 8, 2) := by decide +kernel
theorem dd_Mo_make_184 : decode prog_9_method_22_code 184 = .ok (.goto 4, 3) := by decide +kernel
theorem dd_Mo_make_187 : decode prog_9_method_22_code 187 = .ok (.iload_n 1, 1) := by decide +kernel
theorem dd_Mo_make_188 : decode prog_9_method_22_code 188 = .ok (.invokevirtual 141, 3) := by decide +kernel
theorem dd_Mo_make_191 : decode prog_9_method_22_code 191 = .ok (.pop, 1) := by decide +kernel
theorem dd_Mo_make_192 : decode prog_9_method_22_code 192 = .ok (.aload_n 0, 1) := by decide +kernel
theorem dd_Mo_make_193 : decode prog_9_method_22_code 193 = .ok (.iload 7, 2) := by decide +kernel
theorem dd_Mo_make_195 : decode prog_9_method_22_code 195 = .ok (.iload 8, 2) := by decide +kernel
theorem dd_Mo_make_197 : decode prog_9_method_22_code 197 = .ok (.iload_n 3, 1) := by decide +kernel
theorem dd_Mo_make_198 : decode prog_9_method_22_code 198 = .ok (.invokevirtual 137, 3) := by decide +kernel
theorem dd_Mo_make_201 : decode prog_9_method_22_code 201 = .ok (.istore 9, 2) := by decide +kernel
theorem dd_Mo_make_203 : decode prog_9_method_22_code 203 = .ok (.iload 9, 2) := by decide +kernel
theorem dd_Mo_make_205 : decode prog_9_method_22_code 205 = .ok (.ifCond .ge 6, 3) := by decide +kernel
theorem dd_Mo_make_208 : decode prog_9_method_22_code 208 = .ok (.bipush (-5), 2) := by decide +kernel
theorem dd_Mo_make_210 : decode prog_9_method_22_code 210 = .ok (.ireturn, 1) := by decide +kernel
theorem dd_Mo_make_211 : decode prog_9_method_22_code 211 = .ok (.iconst 0, 1) := by decide +kernel
theorem dd_Mo_make_212 : decode prog_9_method_22_code 212 = .ok (.istore 5, 2) := by decide +kernel
theorem dd_Mo_make_214 : decode prog_9_method_22_code 214 = .ok (.iload 5, 2) := by decide +kernel
theorem dd_Mo_make_216 : decode prog_9_method_22_code 216 = .ok (.bipush 59, 2) := by decide +kernel
theorem dd_Mo_make_218 : decode prog_9_method_22_code 218 = .ok (.if_icmp .ge 19, 3) := by decide +kernel
theorem dd_Mo_make_221 : decode prog_9_method_22_code 221 = .ok (.aload_n 0, 1) := by decide +kernel
theorem dd_Mo_make_222 : decode prog_9_method_22_code 222 = .ok (.getfield 26, 3) := by decide +kernel
theorem dd_Mo_make_225 : decode prog_9_method_22_code 225 = .ok (.iload 5, 2) := by decide +kernel
theorem dd_Mo_make_227 : decode prog_9_method_22_code 227 = .ok (.iaload, 1) := by decide +kernel
theorem dd_Mo_make_228 : decode prog_9_method_22_code 228 = .ok (.ifCond .le 9, 3) := by decide +kernel
theorem dd_Mo_make_231 : decode prog_9_method_22_code 231 = .ok (.iinc 5 1, 3) := by decide +kernel
theorem dd_Mo_make_234 : decode prog_9_method_22_code 234 = .ok (.goto (-20), 3) := by decide +kernel
theorem dd_Mo_make_237 : decode prog_9_method_22_code 237 = .ok (.aload_n 0, 1) := by decide +kernel
theorem dd_Mo_make_238 : decode prog_9_method_22_code 238 = .ok (.getfield 26, 3) := by decide +kernel
theorem dd_Mo_make_241 : decode prog_9_method_22_code 241 = .ok (.iload 5, 2) := by decide +kernel
theorem dd_Mo_make_243 : decode prog_9_method_22_code 243 = .ok (.iload 7, 2) := by decide +kernel
theorem dd_Mo_make_245 : decode prog_9_method_22_code 245 = .ok (.iconst 1, 1) := by decide +kernel
theorem dd_Mo_make_246 : decode prog_9_method_22_code 246 = .ok (.iadd, 1) := by decide +kernel
theorem dd_Mo_make_247 : decode prog_9_method_22_code 247 = .ok (.iastore, 1) := by decide +kernel
theorem dd_Mo_make_248 : decode prog_9_method_22_code 248 = .ok (.aload_n 0, 1) := by decide +kernel
theorem dd_Mo_make_249 : decode prog_9_method_22_code 249 = .ok (.getfield 29, 3) := by decide +kernel
theorem dd_Mo_make_252 : decode prog_9_method_22_code 252 = .ok (.iload 5, 2) := by decide +kernel
theorem dd_Mo_make_254 : decode prog_9_method_22_code 254 = .ok (.iload_n 3, 1) := by decide +kernel
theorem dd_Mo_make_255 : decode prog_9_method_22_code 255 = .ok (.iastore, 1) := by decide +kernel
theorem dd_Mo_make_256 : decode prog_9_method_22_code 256 = .ok (.aload_n 0, 1) := by decide +kernel
theorem dd_Mo_make_257 : decode prog_9_method_22_code 257 = .ok (.getfield 32, 3) := by decide +kernel
theorem dd_Mo_make_260 : decode prog_9_method_22_code 260 = .ok (.iload 5, 2) := by decide +kernel
theorem dd_Mo_make_262 : decode prog_9_method_22_code 262 = .ok (.iload 4, 2) := by decide +kernel
theorem dd_Mo_make_264 : decode prog_9_method_22_code 264 = .ok (.iastore, 1) := by decide +kernel
theorem dd_Mo_make_265 : decode prog_9_method_22_code 265 = .ok (.aload_n 0, 1) := by decide +kernel
theorem dd_Mo_make_266 : decode prog_9_method_22_code 266 = .ok (.getfield 35, 3) := by decide +kernel
theorem dd_Mo_make_269 : decode prog_9_method_22_code 269 = .ok (.iload 5, 2) := by decide +kernel
theorem dd_Mo_make_271 : decode prog_9_method_22_code 271 = .ok (.iload 9, 2) := by decide +kernel
theorem dd_Mo_make_273 : decode prog_9_method_22_code 273 = .ok (.iastore, 1) := by decide +kernel
theorem dd_Mo_make_274 : decode prog_9_method_22_code 274 = .ok (.iconst 0, 1) := by decide +kernel
theorem dd_Mo_make_275 : decode prog_9_method_22_code 275 = .ok (.istore 10, 2) := by decide +kernel
theorem dd_Mo_make_277 : decode prog_9_method_22_code 277 = .ok (.iload 10, 2) := by decide +kernel
theorem dd_Mo_make_279 : decode prog_9_method_22_code 279 = .ok (.iconst 3, 1) := by decide +kernel
theorem dd_Mo_make_280 : decode prog_9_method_22_code 280 = .ok (.if_icmp .ge 22, 3) := by decide +kernel
theorem dd_Mo_make_283 : decode prog_9_method_22_code 283 = .ok (.aload_n 0, 1) := by decide +kernel
theorem dd_Mo_make_284 : decode prog_9_method_22_code 284 = .ok (.getfield 38, 3) := by decide +kernel
theorem dd_Mo_make_287 : decode prog_9_method_22_code 287 = .ok (.iconst 3, 1) := by decide +kernel
theorem dd_Mo_make_288 : decode prog_9_method_22_code 288 = .ok (.iload 5, 2) := by decide +kernel
theorem dd_Mo_make_290 : decode prog_9_method_22_code 290 = .ok (.imul, 1) := by decide +kernel
theorem dd_Mo_make_291 : decode prog_9_method_22_code 291 = .ok (.iload 10, 2) := by decide +kernel
theorem dd_Mo_make_293 : decode prog_9_method_22_code 293 = .ok (.iadd, 1) := by decide +kernel
theorem dd_Mo_make_294 : decode prog_9_method_22_code 294 = .ok (.iconst 0, 1) := by decide +kernel
theorem dd_Mo_make_295 : decode prog_9_method_22_code 295 = .ok (.iastore, 1) := by decide +kernel
theorem dd_Mo_make_296 : decode prog_9_method_22_code 296 = .ok (.iinc 10 1, 3) := by decide +kernel
theorem dd_Mo_make_299 : decode prog_9_method_22_code 299 = .ok (.goto (-22), 3) := by decide +kernel
theorem dd_Mo_make_302 : decode prog_9_method_22_code 302 = .ok (.aload_n 0, 1) := by decide +kernel
theorem dd_Mo_make_303 : decode prog_9_method_22_code 303 = .ok (.getfield 23, 3) := by decide +kernel
theorem dd_Mo_make_306 : decode prog_9_method_22_code 306 = .ok (.iconst 4, 1) := by decide +kernel
theorem dd_Mo_make_307 : decode prog_9_method_22_code 307 = .ok (.iload_n 1, 1) := by decide +kernel
theorem dd_Mo_make_308 : decode prog_9_method_22_code 308 = .ok (.imul, 1) := by decide +kernel
theorem dd_Mo_make_309 : decode prog_9_method_22_code 309 = .ok (.iload_n 2, 1) := by decide +kernel
theorem dd_Mo_make_310 : decode prog_9_method_22_code 310 = .ok (.iadd, 1) := by decide +kernel
theorem dd_Mo_make_311 : decode prog_9_method_22_code 311 = .ok (.iload 5, 2) := by decide +kernel
theorem dd_Mo_make_313 : decode prog_9_method_22_code 313 = .ok (.iconst 1, 1) := by decide +kernel
theorem dd_Mo_make_314 : decode prog_9_method_22_code 314 = .ok (.iadd, 1) := by decide +kernel
theorem dd_Mo_make_315 : decode prog_9_method_22_code 315 = .ok (.iastore, 1) := by decide +kernel
theorem dd_Mo_make_316 : decode prog_9_method_22_code 316 = .ok (.iconst 0, 1) := by decide +kernel
theorem dd_Mo_make_317 : decode prog_9_method_22_code 317 = .ok (.ireturn, 1) := by decide +kernel
theorem dd_Mo_isRegister_0 : decode prog_9_method_3_code 0 = .ok (.iload_n 0, 1) := by decide +kernel
theorem dd_Mo_isRegister_1 : decode prog_9_method_3_code 1 = .ok (.ifCond .lt 12, 3) := by decide +kernel
theorem dd_Mo_isRegister_4 : decode prog_9_method_3_code 4 = .ok (.iload_n 0, 1) := by decide +kernel
theorem dd_Mo_isRegister_5 : decode prog_9_method_3_code 5 = .ok (.iconst 4, 1) := by decide +kernel
theorem dd_Mo_isRegister_6 : decode prog_9_method_3_code 6 = .ok (.if_icmp .ge 7, 3) := by decide +kernel
theorem dd_Mo_isRegister_9 : decode prog_9_method_3_code 9 = .ok (.iconst 1, 1) := by decide +kernel
theorem dd_Mo_isRegister_10 : decode prog_9_method_3_code 10 = .ok (.goto 4, 3) := by decide +kernel
theorem dd_Mo_isRegister_13 : decode prog_9_method_3_code 13 = .ok (.iconst 0, 1) := by decide +kernel
theorem dd_Mo_isRegister_14 : decode prog_9_method_3_code 14 = .ok (.ireturn, 1) := by decide +kernel
theorem dd_Mo_find_0 : decode prog_9_method_21_code 0 = .ok (.aload_n 0, 1) := by decide +kernel
theorem dd_Mo_find_1 : decode prog_9_method_21_code 1 = .ok (.iload_n 1, 1) := by decide +kernel
theorem dd_Mo_find_2 : decode prog_9_method_21_code 2 = .ok (.iload_n 3, 1) := by decide +kernel
theorem dd_Mo_find_3 : decode prog_9_method_21_code 3 = .ok (.invokevirtual 130, 3) := by decide +kernel
theorem dd_Mo_find_6 : decode prog_9_method_21_code 6 = .ok (.istore 4, 2) := by decide +kernel
theorem dd_Mo_find_8 : decode prog_9_method_21_code 8 = .ok (.iload 4, 2) := by decide +kernel
theorem dd_Mo_find_10 : decode prog_9_method_21_code 10 = .ok (.ifCond .ge 12, 3) := by decide +kernel
theorem dd_Mo_find_13 : decode prog_9_method_21_code 13 = .ok (.aload_n 0, 1) := by decide +kernel
theorem dd_Mo_find_14 : decode prog_9_method_21_code 14 = .ok (.iload_n 2, 1) := by decide +kernel
theorem dd_Mo_find_15 : decode prog_9_method_21_code 15 = .ok (.invokevirtual 124, 3) := by decide +kernel
theorem dd_Mo_find_18 : decode prog_9_method_21_code 18 = .ok (.iconst 1, 1) := by decide +kernel
theorem dd_Mo_find_19 : decode prog_9_method_21_code 19 = .ok (.if_icmp .ge 6, 3) := by decide +kernel
theorem dd_Mo_find_22 : decode prog_9_method_21_code 22 = .ok (.iload 4, 2) := by decide +kernel
theorem dd_Mo_find_24 : decode prog_9_method_21_code 24 = .ok (.ireturn, 1) := by decide +kernel
theorem dd_Mo_find_25 : decode prog_9_method_21_code 25 = .ok (.iconst 0, 1) := by decide +kernel
theorem dd_Mo_find_26 : decode prog_9_method_21_code 26 = .ok (.istore 4, 2) := by decide +kernel
theorem dd_Mo_find_28 : decode prog_9_method_21_code 28 = .ok (.iload 4, 2) := by decide +kernel
theorem dd_Mo_find_30 : decode prog_9_method_21_code 30 = .ok (.bipush 24, 2) := by decide +kernel
theorem dd_Mo_find_32 : decode prog_9_method_21_code 32 = .ok (.if_icmp .ge 19, 3) := by decide +kernel
theorem dd_Mo_find_35 : decode prog_9_method_21_code 35 = .ok (.aload_n 0, 1) := by decide +kernel
theorem dd_Mo_find_36 : decode prog_9_method_21_code 36 = .ok (.getfield 41, 3) := by decide +kernel
theorem dd_Mo_find_39 : decode prog_9_method_21_code 39 = .ok (.iload 4, 2) := by decide +kernel
theorem dd_Mo_find_41 : decode prog_9_method_21_code 41 = .ok (.iaload, 1) := by decide +kernel
theorem dd_Mo_find_42 : decode prog_9_method_21_code 42 = .ok (.ifCond .le 9, 3) := by decide +kernel
theorem dd_Mo_find_45 : decode prog_9_method_21_code 45 = .ok (.iinc 4 1, 3) := by decide +kernel
theorem dd_Mo_find_48 : decode prog_9_method_21_code 48 = .ok (.goto (-20), 3) := by decide +kernel
theorem dd_Mo_find_51 : decode prog_9_method_21_code 51 = .ok (.aload_n 0, 1) := by decide +kernel
theorem dd_Mo_find_52 : decode prog_9_method_21_code 52 = .ok (.getfield 41, 3) := by decide +kernel
theorem dd_Mo_find_55 : decode prog_9_method_21_code 55 = .ok (.iload 4, 2) := by decide +kernel
theorem dd_Mo_find_57 : decode prog_9_method_21_code 57 = .ok (.iload_n 1, 1) := by decide +kernel
theorem dd_Mo_find_58 : decode prog_9_method_21_code 58 = .ok (.iconst 1, 1) := by decide +kernel
theorem dd_Mo_find_59 : decode prog_9_method_21_code 59 = .ok (.iadd, 1) := by decide +kernel
theorem dd_Mo_find_60 : decode prog_9_method_21_code 60 = .ok (.iastore, 1) := by decide +kernel
theorem dd_Mo_find_61 : decode prog_9_method_21_code 61 = .ok (.aload_n 0, 1) := by decide +kernel
theorem dd_Mo_find_62 : decode prog_9_method_21_code 62 = .ok (.getfield 44, 3) := by decide +kernel
theorem dd_Mo_find_65 : decode prog_9_method_21_code 65 = .ok (.iload 4, 2) := by decide +kernel
theorem dd_Mo_find_67 : decode prog_9_method_21_code 67 = .ok (.iload_n 2, 1) := by decide +kernel
theorem dd_Mo_find_68 : decode prog_9_method_21_code 68 = .ok (.iastore, 1) := by decide +kernel
theorem dd_Mo_find_69 : decode prog_9_method_21_code 69 = .ok (.aload_n 0, 1) := by decide +kernel
theorem dd_Mo_find_70 : decode prog_9_method_21_code 70 = .ok (.dup, 1) := by decide +kernel
theorem dd_Mo_find_71 : decode prog_9_method_21_code 71 = .ok (.getfield 118, 3) := by decide +kernel
theorem dd_Mo_find_74 : decode prog_9_method_21_code 74 = .ok (.iconst 1, 1) := by decide +kernel
theorem dd_Mo_find_75 : decode prog_9_method_21_code 75 = .ok (.iadd, 1) := by decide +kernel
theorem dd_Mo_find_76 : decode prog_9_method_21_code 76 = .ok (.putfield 118, 3) := by decide +kernel
theorem dd_Mo_find_79 : decode prog_9_method_21_code 79 = .ok (.aload_n 0, 1) := by decide +kernel
theorem dd_Mo_find_80 : decode prog_9_method_21_code 80 = .ok (.getfield 47, 3) := by decide +kernel
theorem dd_Mo_find_83 : decode prog_9_method_21_code 83 = .ok (.iload 4, 2) := by decide +kernel
theorem dd_Mo_find_85 : decode prog_9_method_21_code 85 = .ok (.aload_n 0, 1) := by decide +kernel
theorem dd_Mo_find_86 : decode prog_9_method_21_code 86 = .ok (.getfield 118, 3) := by decide +kernel
theorem dd_Mo_find_89 : decode prog_9_method_21_code 89 = .ok (.iastore, 1) := by decide +kernel
theorem dd_Mo_find_90 : decode prog_9_method_21_code 90 = .ok (.iload 4, 2) := by decide +kernel
theorem dd_Mo_find_92 : decode prog_9_method_21_code 92 = .ok (.ireturn, 1) := by decide +kernel
theorem dd_Mo_fitting_0 : decode prog_9_method_20_code 0 = .ok (.iconst (-1), 1) := by decide +kernel
theorem dd_Mo_fitting_1 : decode prog_9_method_20_code 1 = .ok (.istore_n 3, 1) := by decide +kernel
theorem dd_Mo_fitting_2 : decode prog_9_method_20_code 2 = .ok (.iconst 0, 1) := by decide +kernel
theorem dd_Mo_fitting_3 : decode prog_9_method_20_code 3 = .ok (.istore 4, 2) := by decide +kernel
theorem dd_Mo_fitting_5 : decode prog_9_method_20_code 5 = .ok (.iload 4, 2) := by decide +kernel
theorem dd_Mo_fitting_7 : decode prog_9_method_20_code 7 = .ok (.bipush 24, 2) := by decide +kernel
theorem dd_Mo_fitting_9 : decode prog_9_method_20_code 9 = .ok (.if_icmp .ge 111, 3) := by decide +kernel
theorem dd_Mo_fitting_12 : decode prog_9_method_20_code 12 = .ok (.iconst 0, 1) := by decide +kernel
theorem dd_Mo_fitting_13 : decode prog_9_method_20_code 13 = .ok (.istore 5, 2) := by decide +kernel
theorem dd_Mo_fitting_15 : decode prog_9_method_20_code 15 = .ok (.iconst 0, 1) := by decide +kernel
theorem dd_Mo_fitting_16 : decode prog_9_method_20_code 16 = .ok (.istore 6, 2) := by decide +kernel
theorem dd_Mo_fitting_18 : decode prog_9_method_20_code 18 = .ok (.iload 6, 2) := by decide +kernel
theorem dd_Mo_fitting_20 : decode prog_9_method_20_code 20 = .ok (.bipush 60, 2) := by decide +kernel
theorem dd_Mo_fitting_22 : decode prog_9_method_20_code 22 = .ok (.if_icmp .ge 47, 3) := by decide +kernel
theorem dd_Mo_fitting_25 : decode prog_9_method_20_code 25 = .ok (.iload 5, 2) := by decide +kernel
theorem dd_Mo_fitting_27 : decode prog_9_method_20_code 27 = .ok (.aload_n 0, 1) := by decide +kernel
theorem dd_Mo_fitting_28 : decode prog_9_method_20_code 28 = .ok (.getfield 26, 3) := by decide +kernel
theorem dd_Mo_fitting_31 : decode prog_9_method_20_code 31 = .ok (.iload 6, 2) := by decide +kernel
theorem dd_Mo_fitting_33 : decode prog_9_method_20_code 33 = .ok (.iaload, 1) := by decide +kernel
theorem dd_Mo_fitting_34 : decode prog_9_method_20_code 34 = .ok (.ifCond .le 25, 3) := by decide +kernel
theorem dd_Mo_fitting_37 : decode prog_9_method_20_code 37 = .ok (.aload_n 0, 1) := by decide +kernel
theorem dd_Mo_fitting_38 : decode prog_9_method_20_code 38 = .ok (.getfield 35, 3) := by decide +kernel
theorem dd_Mo_fitting_41 : decode prog_9_method_20_code 41 = .ok (.iload 6, 2) := by decide +kernel
theorem dd_Mo_fitting_43 : decode prog_9_method_20_code 43 = .ok (.iaload, 1) := by decide +kernel
theorem dd_Mo_fitting_44 : decode prog_9_method_20_code 44 = .ok (.iload 4, 2) := by decide +kernel
theorem dd_Mo_fitting_46 : decode prog_9_method_20_code 46 = .ok (.if_icmp .ne 13, 3) := by decide +kernel
theorem dd_Mo_fitting_49 : decode prog_9_method_20_code 49 = .ok (.aload_n 0, 1) := by decide +kernel
theorem dd_Mo_fitting_50 : decode prog_9_method_20_code 50 = .ok (.getfield 29, 3) := by decide +kernel
theorem dd_Mo_fitting_53 : decode prog_9_method_20_code 53 = .ok (.iload 6, 2) := by decide +kernel
theorem dd_Mo_fitting_55 : decode prog_9_method_20_code 55 = .ok (.iaload, 1) := by decide +kernel
theorem dd_Mo_fitting_56 : decode prog_9_method_20_code 56 = .ok (.goto 4, 3) := by decide +kernel
theorem dd_Mo_fitting_59 : decode prog_9_method_20_code 59 = .ok (.iconst 0, 1) := by decide +kernel
theorem dd_Mo_fitting_60 : decode prog_9_method_20_code 60 = .ok (.iadd, 1) := by decide +kernel
theorem dd_Mo_fitting_61 : decode prog_9_method_20_code 61 = .ok (.istore 5, 2) := by decide +kernel
theorem dd_Mo_fitting_63 : decode prog_9_method_20_code 63 = .ok (.iinc 6 1, 3) := by decide +kernel
theorem dd_Mo_fitting_66 : decode prog_9_method_20_code 66 = .ok (.goto (-48), 3) := by decide +kernel
theorem dd_Mo_fitting_69 : decode prog_9_method_20_code 69 = .ok (.aload_n 0, 1) := by decide +kernel
theorem dd_Mo_fitting_70 : decode prog_9_method_20_code 70 = .ok (.getfield 41, 3) := by decide +kernel
theorem dd_Mo_fitting_73 : decode prog_9_method_20_code 73 = .ok (.iload 4, 2) := by decide +kernel
theorem dd_Mo_fitting_75 : decode prog_9_method_20_code 75 = .ok (.iaload, 1) := by decide +kernel
theorem dd_Mo_fitting_76 : decode prog_9_method_20_code 76 = .ok (.iload_n 1, 1) := by decide +kernel
theorem dd_Mo_fitting_77 : decode prog_9_method_20_code 77 = .ok (.iconst 1, 1) := by decide +kernel
theorem dd_Mo_fitting_78 : decode prog_9_method_20_code 78 = .ok (.iadd, 1) := by decide +kernel
theorem dd_Mo_fitting_79 : decode prog_9_method_20_code 79 = .ok (.if_icmp .ne 35, 3) := by decide +kernel
theorem dd_Mo_fitting_82 : decode prog_9_method_20_code 82 = .ok (.iload 5, 2) := by decide +kernel
theorem dd_Mo_fitting_84 : decode prog_9_method_20_code 84 = .ok (.iload_n 2, 1) := by decide +kernel
theorem dd_Mo_fitting_85 : decode prog_9_method_20_code 85 = .ok (.iadd, 1) := by decide +kernel
theorem dd_Mo_fitting_86 : decode prog_9_method_20_code 86 = .ok (.bipush 16, 2) := by decide +kernel
theorem dd_Mo_fitting_88 : decode prog_9_method_20_code 88 = .ok (.if_icmp .gt 26, 3) := by decide +kernel
theorem dd_Mo_fitting_91 : decode prog_9_method_20_code 91 = .ok (.iload_n 3, 1) := by decide +kernel
theorem dd_Mo_fitting_92 : decode prog_9_method_20_code 92 = .ok (.ifCond .lt 19, 3) := by decide +kernel
theorem dd_Mo_fitting_95 : decode prog_9_method_20_code 95 = .ok (.aload_n 0, 1) := by decide +kernel
theorem dd_Mo_fitting_96 : decode prog_9_method_20_code 96 = .ok (.getfield 47, 3) := by decide +kernel
theorem dd_Mo_fitting_99 : decode prog_9_method_20_code 99 = .ok (.iload 4, 2) := by decide +kernel
theorem dd_Mo_fitting_101 : decode prog_9_method_20_code 101 = .ok (.iaload, 1) := by decide +kernel
theorem dd_Mo_fitting_102 : decode prog_9_method_20_code 102 = .ok (.aload_n 0, 1) := by decide +kernel
theorem dd_Mo_fitting_103 : decode prog_9_method_20_code 103 = .ok (.getfield 47, 3) := by decide +kernel
theorem dd_Mo_fitting_106 : decode prog_9_method_20_code 106 = .ok (.iload_n 3, 1) := by decide +kernel
theorem dd_Mo_fitting_107 : decode prog_9_method_20_code 107 = .ok (.iaload, 1) := by decide +kernel
theorem dd_Mo_fitting_108 : decode prog_9_method_20_code 108 = .ok (.if_icmp .ge 6, 3) := by decide +kernel
theorem dd_Mo_fitting_111 : decode prog_9_method_20_code 111 = .ok (.iload 4, 2) := by decide +kernel
theorem dd_Mo_fitting_113 : decode prog_9_method_20_code 113 = .ok (.istore_n 3, 1) := by decide +kernel
theorem dd_Mo_fitting_114 : decode prog_9_method_20_code 114 = .ok (.iinc 4 1, 3) := by decide +kernel
theorem dd_Mo_fitting_117 : decode prog_9_method_20_code 117 = .ok (.goto (-112), 3) := by decide +kernel
theorem dd_Mo_fitting_120 : decode prog_9_method_20_code 120 = .ok (.iload_n 3, 1) := by decide +kernel
theorem dd_Mo_fitting_121 : decode prog_9_method_20_code 121 = .ok (.ireturn, 1) := by decide +kernel
theorem dd_Mo_sweep_0 : decode prog_9_method_13_code 0 = .ok (.aload_n 0, 1) := by decide +kernel
theorem dd_Mo_sweep_1 : decode prog_9_method_13_code 1 = .ok (.iload_n 1, 1) := by decide +kernel
theorem dd_Mo_sweep_2 : decode prog_9_method_13_code 2 = .ok (.invokevirtual 99, 3) := by decide +kernel
theorem dd_Mo_sweep_5 : decode prog_9_method_13_code 5 = .ok (.iconst 0, 1) := by decide +kernel
theorem dd_Mo_sweep_6 : decode prog_9_method_13_code 6 = .ok (.istore_n 2, 1) := by decide +kernel
theorem dd_Mo_sweep_7 : decode prog_9_method_13_code 7 = .ok (.iconst 0, 1) := by decide +kernel
theorem dd_Mo_sweep_8 : decode prog_9_method_13_code 8 = .ok (.istore_n 3, 1) := by decide +kernel
theorem dd_Mo_sweep_9 : decode prog_9_method_13_code 9 = .ok (.iload_n 3, 1) := by decide +kernel
theorem dd_Mo_sweep_10 : decode prog_9_method_13_code 10 = .ok (.bipush 60, 2) := by decide +kernel
theorem dd_Mo_sweep_12 : decode prog_9_method_13_code 12 = .ok (.if_icmp .ge 38, 3) := by decide +kernel
theorem dd_Mo_sweep_15 : decode prog_9_method_13_code 15 = .ok (.aload_n 0, 1) := by decide +kernel
theorem dd_Mo_sweep_16 : decode prog_9_method_13_code 16 = .ok (.getfield 26, 3) := by decide +kernel
theorem dd_Mo_sweep_19 : decode prog_9_method_13_code 19 = .ok (.iload_n 3, 1) := by decide +kernel
theorem dd_Mo_sweep_20 : decode prog_9_method_13_code 20 = .ok (.iaload, 1) := by decide +kernel
theorem dd_Mo_sweep_21 : decode prog_9_method_13_code 21 = .ok (.iload_n 1, 1) := by decide +kernel
theorem dd_Mo_sweep_22 : decode prog_9_method_13_code 22 = .ok (.iconst 1, 1) := by decide +kernel
theorem dd_Mo_sweep_23 : decode prog_9_method_13_code 23 = .ok (.iadd, 1) := by decide +kernel
theorem dd_Mo_sweep_24 : decode prog_9_method_13_code 24 = .ok (.if_icmp .ne 20, 3) := by decide +kernel
theorem dd_Mo_sweep_27 : decode prog_9_method_13_code 27 = .ok (.aload_n 0, 1) := by decide +kernel
theorem dd_Mo_sweep_28 : decode prog_9_method_13_code 28 = .ok (.getfield 74, 3) := by decide +kernel
theorem dd_Mo_sweep_31 : decode prog_9_method_13_code 31 = .ok (.iload_n 3, 1) := by decide +kernel
theorem dd_Mo_sweep_32 : decode prog_9_method_13_code 32 = .ok (.baload, 1) := by decide +kernel
theorem dd_Mo_sweep_33 : decode prog_9_method_13_code 33 = .ok (.ifCond .ne 11, 3) := by decide +kernel
theorem dd_Mo_sweep_36 : decode prog_9_method_13_code 36 = .ok (.aload_n 0, 1) := by decide +kernel
theorem dd_Mo_sweep_37 : decode prog_9_method_13_code 37 = .ok (.iload_n 3, 1) := by decide +kernel
theorem dd_Mo_sweep_38 : decode prog_9_method_13_code 38 = .ok (.invokevirtual 103, 3) := by decide +kernel
theorem dd_Mo_sweep_41 : decode prog_9_method_13_code 41 = .ok (.iinc 2 1, 3) := by decide +kernel
theorem dd_Mo_sweep_44 : decode prog_9_method_13_code 44 = .ok (.iinc 3 1, 3) := by decide +kernel
theorem dd_Mo_sweep_47 : decode prog_9_method_13_code 47 = .ok (.goto (-38), 3) := by decide +kernel
theorem dd_Mo_sweep_50 : decode prog_9_method_13_code 50 = .ok (.iconst 0, 1) := by decide +kernel
theorem dd_Mo_sweep_51 : decode prog_9_method_13_code 51 = .ok (.istore_n 3, 1) := by decide +kernel
theorem dd_Mo_sweep_52 : decode prog_9_method_13_code 52 = .ok (.iload_n 3, 1) := by decide +kernel
theorem dd_Mo_sweep_53 : decode prog_9_method_13_code 53 = .ok (.bipush 60, 2) := by decide +kernel
theorem dd_Mo_sweep_55 : decode prog_9_method_13_code 55 = .ok (.if_icmp .ge 48, 3) := by decide +kernel
theorem dd_Mo_sweep_58 : decode prog_9_method_13_code 58 = .ok (.aload_n 0, 1) := by decide +kernel
theorem dd_Mo_sweep_59 : decode prog_9_method_13_code 59 = .ok (.getfield 65, 3) := by decide +kernel
theorem dd_Mo_sweep_62 : decode prog_9_method_13_code 62 = .ok (.bipush 60, 2) := by decide +kernel
theorem dd_Mo_sweep_64 : decode prog_9_method_13_code 64 = .ok (.iload_n 1, 1) := by decide +kernel
theorem dd_Mo_sweep_65 : decode prog_9_method_13_code 65 = .ok (.imul, 1) := by decide +kernel
theorem dd_Mo_sweep_66 : decode prog_9_method_13_code 66 = .ok (.iload_n 3, 1) := by decide +kernel
theorem dd_Mo_sweep_67 : decode prog_9_method_13_code 67 = .ok (.iadd, 1) := by decide +kernel
theorem dd_Mo_sweep_68 : decode prog_9_method_13_code 68 = .ok (.aload_n 0, 1) := by decide +kernel
theorem dd_Mo_sweep_69 : decode prog_9_method_13_code 69 = .ok (.getfield 65, 3) := by decide +kernel
theorem dd_Mo_sweep_72 : decode prog_9_method_13_code 72 = .ok (.bipush 60, 2) := by decide +kernel
theorem dd_Mo_sweep_74 : decode prog_9_method_13_code 74 = .ok (.iload_n 1, 1) := by decide +kernel
theorem dd_Mo_sweep_75 : decode prog_9_method_13_code 75 = .ok (.imul, 1) := by decide +kernel
theorem dd_Mo_sweep_76 : decode prog_9_method_13_code 76 = .ok (.iload_n 3, 1) := by decide +kernel
theorem dd_Mo_sweep_77 : decode prog_9_method_13_code 77 = .ok (.iadd, 1) := by decide +kernel
theorem dd_Mo_sweep_78 : decode prog_9_method_13_code 78 = .ok (.baload, 1) := by decide +kernel
theorem dd_Mo_sweep_79 : decode prog_9_method_13_code 79 = .ok (.ifCond .eq 16, 3) := by decide +kernel
theorem dd_Mo_sweep_82 : decode prog_9_method_13_code 82 = .ok (.aload_n 0, 1) := by decide +kernel
theorem dd_Mo_sweep_83 : decode prog_9_method_13_code 83 = .ok (.iload_n 1, 1) := by decide +kernel
theorem dd_Mo_sweep_84 : decode prog_9_method_13_code 84 = .ok (.iload_n 3, 1) := by decide +kernel
theorem dd_Mo_sweep_85 : decode prog_9_method_13_code 85 = .ok (.invokevirtual 106, 3) := by decide +kernel
theorem dd_Mo_sweep_88 : decode prog_9_method_13_code 88 = .ok (.ifCond .eq 7, 3) := by decide +kernel
theorem dd_Mo_sweep_91 : decode prog_9_method_13_code 91 = .ok (.iconst 1, 1) := by decide +kernel
theorem dd_Mo_sweep_92 : decode prog_9_method_13_code 92 = .ok (.goto 4, 3) := by decide +kernel
theorem dd_Mo_sweep_95 : decode prog_9_method_13_code 95 = .ok (.iconst 0, 1) := by decide +kernel
theorem dd_Mo_sweep_96 : decode prog_9_method_13_code 96 = .ok (.bastore, 1) := by decide +kernel
theorem dd_Mo_sweep_97 : decode prog_9_method_13_code 97 = .ok (.iinc 3 1, 3) := by decide +kernel
theorem dd_Mo_sweep_100 : decode prog_9_method_13_code 100 = .ok (.goto (-48), 3) := by decide +kernel
theorem dd_Mo_sweep_103 : decode prog_9_method_13_code 103 = .ok (.iconst 0, 1) := by decide +kernel
theorem dd_Mo_sweep_104 : decode prog_9_method_13_code 104 = .ok (.istore_n 3, 1) := by decide +kernel
theorem dd_Mo_sweep_105 : decode prog_9_method_13_code 105 = .ok (.iload_n 3, 1) := by decide +kernel
theorem dd_Mo_sweep_106 : decode prog_9_method_13_code 106 = .ok (.iconst 4, 1) := by decide +kernel
theorem dd_Mo_sweep_107 : decode prog_9_method_13_code 107 = .ok (.if_icmp .ge 132, 3) := by decide +kernel
theorem dd_Mo_sweep_110 : decode prog_9_method_13_code 110 = .ok (.bipush 9, 2) := by decide +kernel
theorem dd_Mo_sweep_112 : decode prog_9_method_13_code 112 = .ok (.iload_n 3, 1) := by decide +kernel
theorem dd_Mo_sweep_113 : decode prog_9_method_13_code 113 = .ok (.iadd, 1) := by decide +kernel
theorem dd_Mo_sweep_114 : decode prog_9_method_13_code 114 = .ok (.istore 4, 2) := by decide +kernel
theorem dd_Mo_sweep_116 : decode prog_9_method_13_code 116 = .ok (.iload_n 1, 1) := by decide +kernel
theorem dd_Mo_sweep_117 : decode prog_9_method_13_code 117 = .ok (.bipush 8, 2) := by decide +kernel
theorem dd_Mo_sweep_119 : decode prog_9_method_13_code 119 = .ok (.if_icmp .ge 58, 3) := by decide +kernel
theorem dd_Mo_sweep_122 : decode prog_9_method_13_code 122 = .ok (.aload_n 0, 1) := by decide +kernel
theorem dd_Mo_sweep_123 : decode prog_9_method_13_code 123 = .ok (.getfield 59, 3) := by decide +kernel
theorem dd_Mo_sweep_126 : decode prog_9_method_13_code 126 = .ok (.iconst 4, 1) := by decide +kernel
theorem dd_Mo_sweep_127 : decode prog_9_method_13_code 127 = .ok (.iload_n 1, 1) := by decide +kernel
theorem dd_Mo_sweep_128 : decode prog_9_method_13_code 128 = .ok (.imul, 1) := by decide +kernel
theorem dd_Mo_sweep_129 : decode prog_9_method_13_code 129 = .ok (.iload_n 3, 1) := by decide +kernel
theorem dd_Mo_sweep_130 : decode prog_9_method_13_code 130 = .ok (.iadd, 1) := by decide +kernel
theorem dd_Mo_sweep_131 : decode prog_9_method_13_code 131 = .ok (.baload, 1) := by decide +kernel
theorem dd_Mo_sweep_132 : decode prog_9_method_13_code 132 = .ok (.ifCond .eq 45, 3) := by decide +kernel
theorem dd_Mo_sweep_135 : decode prog_9_method_13_code 135 = .ok (.aload_n 0, 1) := by decide +kernel
theorem dd_Mo_sweep_136 : decode prog_9_method_13_code 136 = .ok (.iload_n 1, 1) := by decide +kernel
theorem dd_Mo_sweep_137 : decode prog_9_method_13_code 137 = .ok (.iload 4, 2) := by decide +kernel
theorem dd_Mo_sweep_139 : decode prog_9_method_13_code 139 = .ok (.invokevirtual 109, 3) := by decide +kernel
theorem dd_Mo_sweep_142 : decode prog_9_method_13_code 142 = .ok (.ifCond .ne 35, 3) := by decide +kernel
theorem dd_Mo_sweep_145 : decode prog_9_method_13_code 145 = .ok (.aload_n 0, 1) := by decide +kernel
theorem dd_Mo_sweep_146 : decode prog_9_method_13_code 146 = .ok (.iload_n 1, 1) := by decide +kernel
theorem dd_Mo_sweep_147 : decode prog_9_method_13_code 147 = .ok (.iload 4, 2) := by decide +kernel
theorem dd_Mo_sweep_149 : decode prog_9_method_13_code 149 = .ok (.invokevirtual 112, 3) := by decide +kernel
theorem dd_Mo_sweep_152 : decode prog_9_method_13_code 152 = .ok (.ifCond .ne 25, 3) := by decide +kernel
theorem dd_Mo_sweep_155 : decode prog_9_method_13_code 155 = .ok (.aload_n 0, 1) := by decide +kernel
theorem dd_Mo_sweep_156 : decode prog_9_method_13_code 156 = .ok (.getfield 59, 3) := by decide +kernel
theorem dd_Mo_sweep_159 : decode prog_9_method_13_code 159 = .ok (.iconst 4, 1) := by decide +kernel
theorem dd_Mo_sweep_160 : decode prog_9_method_13_code 160 = .ok (.iload_n 1, 1) := by decide +kernel
theorem dd_Mo_sweep_161 : decode prog_9_method_13_code 161 = .ok (.imul, 1) := by decide +kernel
theorem dd_Mo_sweep_162 : decode prog_9_method_13_code 162 = .ok (.iload_n 3, 1) := by decide +kernel
theorem dd_Mo_sweep_163 : decode prog_9_method_13_code 163 = .ok (.iadd, 1) := by decide +kernel
theorem dd_Mo_sweep_164 : decode prog_9_method_13_code 164 = .ok (.iconst 0, 1) := by decide +kernel
theorem dd_Mo_sweep_165 : decode prog_9_method_13_code 165 = .ok (.bastore, 1) := by decide +kernel
theorem dd_Mo_sweep_166 : decode prog_9_method_13_code 166 = .ok (.aload_n 0, 1) := by decide +kernel
theorem dd_Mo_sweep_167 : decode prog_9_method_13_code 167 = .ok (.getfield 62, 3) := by decide +kernel
theorem dd_Mo_sweep_170 : decode prog_9_method_13_code 170 = .ok (.iconst 4, 1) := by decide +kernel
theorem dd_Mo_sweep_171 : decode prog_9_method_13_code 171 = .ok (.iload_n 1, 1) := by decide +kernel
theorem dd_Mo_sweep_172 : decode prog_9_method_13_code 172 = .ok (.imul, 1) := by decide +kernel
theorem dd_Mo_sweep_173 : decode prog_9_method_13_code 173 = .ok (.iload_n 3, 1) := by decide +kernel
theorem dd_Mo_sweep_174 : decode prog_9_method_13_code 174 = .ok (.iadd, 1) := by decide +kernel
theorem dd_Mo_sweep_175 : decode prog_9_method_13_code 175 = .ok (.iconst 0, 1) := by decide +kernel
theorem dd_Mo_sweep_176 : decode prog_9_method_13_code 176 = .ok (.bastore, 1) := by decide +kernel
theorem dd_Mo_sweep_177 : decode prog_9_method_13_code 177 = .ok (.iconst 0, 1) := by decide +kernel
theorem dd_Mo_sweep_178 : decode prog_9_method_13_code 178 = .ok (.istore 5, 2) := by decide +kernel
theorem dd_Mo_sweep_180 : decode prog_9_method_13_code 180 = .ok (.iload 5, 2) := by decide +kernel
theorem dd_Mo_sweep_182 : decode prog_9_method_13_code 182 = .ok (.bipush 8, 2) := by decide +kernel
theorem dd_Mo_sweep_184 : decode prog_9_method_13_code 184 = .ok (.if_icmp .ge 49, 3) := by decide +kernel
theorem dd_Mo_sweep_187 : decode prog_9_method_13_code 187 = .ok (.iload_n 1, 1) := by decide +kernel
theorem dd_Mo_sweep_188 : decode prog_9_method_13_code 188 = .ok (.bipush 8, 2) := by decide +kernel
theorem dd_Mo_sweep_190 : decode prog_9_method_13_code 190 = .ok (.if_icmp .ne 37, 3) := by decide +kernel
theorem dd_Mo_sweep_193 : decode prog_9_method_13_code 193 = .ok (.aload_n 0, 1) := by decide +kernel
theorem dd_Mo_sweep_194 : decode prog_9_method_13_code 194 = .ok (.getfield 7, 3) := by decide +kernel
theorem dd_Mo_sweep_197 : decode prog_9_method_13_code 197 = .ok (.iload 5, 2) := by decide +kernel
theorem dd_Mo_sweep_199 : decode prog_9_method_13_code 199 = .ok (.iaload, 1) := by decide +kernel
theorem dd_Mo_sweep_200 : decode prog_9_method_13_code 200 = .ok (.iconst 4, 1) := by decide +kernel
theorem dd_Mo_sweep_201 : decode prog_9_method_13_code 201 = .ok (.if_icmp .ne 26, 3) := by decide +kernel
theorem dd_Mo_sweep_204 : decode prog_9_method_13_code 204 = .ok (.aload_n 0, 1) := by decide +kernel
theorem dd_Mo_sweep_205 : decode prog_9_method_13_code 205 = .ok (.bipush 8, 2) := by decide +kernel
theorem dd_Mo_sweep_207 : decode prog_9_method_13_code 207 = .ok (.iload 4, 2) := by decide +kernel
theorem dd_Mo_sweep_209 : decode prog_9_method_13_code 209 = .ok (.invokevirtual 109, 3) := by decide +kernel
theorem dd_Mo_sweep_212 : decode prog_9_method_13_code 212 = .ok (.ifCond .ne 15, 3) := by decide +kernel
theorem dd_Mo_sweep_215 : decode prog_9_method_13_code 215 = .ok (.aload_n 0, 1) := by decide +kernel
theorem dd_Mo_sweep_216 : decode prog_9_method_13_code 216 = .ok (.getfield 62, 3) := by decide +kernel
theorem dd_Mo_sweep_219 : decode prog_9_method_13_code 219 = .ok (.iconst 4, 1) := by decide +kernel
theorem dd_Mo_sweep_220 : decode prog_9_method_13_code 220 = .ok (.iload 5, 2) := by decide +kernel
theorem dd_Mo_sweep_222 : decode prog_9_method_13_code 222 = .ok (.imul, 1) := by decide +kernel
theorem dd_Mo_sweep_223 : decode prog_9_method_13_code 223 = .ok (.iload_n 3, 1) := by decide +kernel
theorem dd_Mo_sweep_224 : decode prog_9_method_13_code 224 = .ok (.iadd, 1) := by decide +kernel
theorem dd_Mo_sweep_225 : decode prog_9_method_13_code 225 = .ok (.iconst 0, 1) := by decide +kernel
theorem dd_Mo_sweep_226 : decode prog_9_method_13_code 226 = .ok (.bastore, 1) := by decide +kernel
theorem dd_Mo_sweep_227 : decode prog_9_method_13_code 227 = .ok (.iinc 5 1, 3) := by decide +kernel
theorem dd_Mo_sweep_230 : decode prog_9_method_13_code 230 = .ok (.goto (-50), 3) := by decide +kernel
theorem dd_Mo_sweep_233 : decode prog_9_method_13_code 233 = .ok (.iinc 3 1, 3) := by decide +kernel
theorem dd_Mo_sweep_236 : decode prog_9_method_13_code 236 = .ok (.goto (-131), 3) := by decide +kernel
theorem dd_Mo_sweep_239 : decode prog_9_method_13_code 239 = .ok (.aload_n 0, 1) := by decide +kernel
theorem dd_Mo_sweep_240 : decode prog_9_method_13_code 240 = .ok (.invokevirtual 115, 3) := by decide +kernel
theorem dd_Mo_sweep_243 : decode prog_9_method_13_code 243 = .ok (.iload_n 2, 1) := by decide +kernel
theorem dd_Mo_sweep_244 : decode prog_9_method_13_code 244 = .ok (.ireturn, 1) := by decide +kernel
theorem dd_Mo_reach_0 : decode prog_9_method_11_code 0 = .ok (.iconst 0, 1) := by decide +kernel
theorem dd_Mo_reach_1 : decode prog_9_method_11_code 1 = .ok (.istore_n 2, 1) := by decide +kernel
theorem dd_Mo_reach_2 : decode prog_9_method_11_code 2 = .ok (.iload_n 2, 1) := by decide +kernel
theorem dd_Mo_reach_3 : decode prog_9_method_11_code 3 = .ok (.bipush 60, 2) := by decide +kernel
theorem dd_Mo_reach_5 : decode prog_9_method_11_code 5 = .ok (.if_icmp .ge 41, 3) := by decide +kernel
theorem dd_Mo_reach_8 : decode prog_9_method_11_code 8 = .ok (.aload_n 0, 1) := by decide +kernel
theorem dd_Mo_reach_9 : decode prog_9_method_11_code 9 = .ok (.getfield 74, 3) := by decide +kernel
theorem dd_Mo_reach_12 : decode prog_9_method_11_code 12 = .ok (.iload_n 2, 1) := by decide +kernel
theorem dd_Mo_reach_13 : decode prog_9_method_11_code 13 = .ok (.aload_n 0, 1) := by decide +kernel
theorem dd_Mo_reach_14 : decode prog_9_method_11_code 14 = .ok (.getfield 26, 3) := by decide +kernel
theorem dd_Mo_reach_17 : decode prog_9_method_11_code 17 = .ok (.iload_n 2, 1) := by decide +kernel
theorem dd_Mo_reach_18 : decode prog_9_method_11_code 18 = .ok (.iaload, 1) := by decide +kernel
theorem dd_Mo_reach_19 : decode prog_9_method_11_code 19 = .ok (.iload_n 1, 1) := by decide +kernel
theorem dd_Mo_reach_20 : decode prog_9_method_11_code 20 = .ok (.iconst 1, 1) := by decide +kernel
theorem dd_Mo_reach_21 : decode prog_9_method_11_code 21 = .ok (.iadd, 1) := by decide +kernel
theorem dd_Mo_reach_22 : decode prog_9_method_11_code 22 = .ok (.if_icmp .ne 16, 3) := by decide +kernel
theorem dd_Mo_reach_25 : decode prog_9_method_11_code 25 = .ok (.aload_n 0, 1) := by decide +kernel
theorem dd_Mo_reach_26 : decode prog_9_method_11_code 26 = .ok (.iload_n 1, 1) := by decide +kernel
theorem dd_Mo_reach_27 : decode prog_9_method_11_code 27 = .ok (.iload_n 2, 1) := by decide +kernel
theorem dd_Mo_reach_28 : decode prog_9_method_11_code 28 = .ok (.invokevirtual 95, 3) := by decide +kernel
theorem dd_Mo_reach_31 : decode prog_9_method_11_code 31 = .ok (.ifCond .eq 7, 3) := by decide +kernel
theorem dd_Mo_reach_34 : decode prog_9_method_11_code 34 = .ok (.iconst 1, 1) := by decide +kernel
theorem dd_Mo_reach_35 : decode prog_9_method_11_code 35 = .ok (.goto 4, 3) := by decide +kernel
theorem dd_Mo_reach_38 : decode prog_9_method_11_code 38 = .ok (.iconst 0, 1) := by decide +kernel
theorem dd_Mo_reach_39 : decode prog_9_method_11_code 39 = .ok (.bastore, 1) := by decide +kernel
theorem dd_Mo_reach_40 : decode prog_9_method_11_code 40 = .ok (.iinc 2 1, 3) := by decide +kernel
theorem dd_Mo_reach_43 : decode prog_9_method_11_code 43 = .ok (.goto (-41), 3) := by decide +kernel
theorem dd_Mo_reach_46 : decode prog_9_method_11_code 46 = .ok (.iconst 1, 1) := by decide +kernel
theorem dd_Mo_reach_47 : decode prog_9_method_11_code 47 = .ok (.istore_n 2, 1) := by decide +kernel
theorem dd_Mo_reach_48 : decode prog_9_method_11_code 48 = .ok (.iconst 0, 1) := by decide +kernel
theorem dd_Mo_reach_49 : decode prog_9_method_11_code 49 = .ok (.istore_n 3, 1) := by decide +kernel
theorem dd_Mo_reach_50 : decode prog_9_method_11_code 50 = .ok (.iload_n 3, 1) := by decide +kernel
theorem dd_Mo_reach_51 : decode prog_9_method_11_code 51 = .ok (.bipush 61, 2) := by decide +kernel
theorem dd_Mo_reach_53 : decode prog_9_method_11_code 53 = .ok (.if_icmp .ge 93, 3) := by decide +kernel
theorem dd_Mo_reach_56 : decode prog_9_method_11_code 56 = .ok (.iload_n 2, 1) := by decide +kernel
theorem dd_Mo_reach_57 : decode prog_9_method_11_code 57 = .ok (.ifCond .eq 89, 3) := by decide +kernel
theorem dd_Mo_reach_60 : decode prog_9_method_11_code 60 = .ok (.iconst 0, 1) := by decide +kernel
theorem dd_Mo_reach_61 : decode prog_9_method_11_code 61 = .ok (.istore_n 2, 1) := by decide +kernel
theorem dd_Mo_reach_62 : decode prog_9_method_11_code 62 = .ok (.iconst 0, 1) := by decide +kernel
theorem dd_Mo_reach_63 : decode prog_9_method_11_code 63 = .ok (.istore 4, 2) := by decide +kernel
theorem dd_Mo_reach_65 : decode prog_9_method_11_code 65 = .ok (.iload 4, 2) := by decide +kernel
theorem dd_Mo_reach_67 : decode prog_9_method_11_code 67 = .ok (.sipush 180, 3) := by decide +kernel
theorem dd_Mo_reach_70 : decode prog_9_method_11_code 70 = .ok (.if_icmp .ge 70, 3) := by decide +kernel
theorem dd_Mo_reach_73 : decode prog_9_method_11_code 73 = .ok (.aload_n 0, 1) := by decide +kernel
theorem dd_Mo_reach_74 : decode prog_9_method_11_code 74 = .ok (.getfield 38, 3) := by decide +kernel
theorem dd_Mo_reach_77 : decode prog_9_method_11_code 77 = .ok (.iload 4, 2) := by decide +kernel
theorem dd_Mo_reach_79 : decode prog_9_method_11_code 79 = .ok (.iaload, 1) := by decide +kernel
theorem dd_Mo_reach_80 : decode prog_9_method_11_code 80 = .ok (.iconst 1, 1) := by decide +kernel
theorem dd_Mo_reach_81 : decode prog_9_method_11_code 81 = .ok (.isub, 1) := by decide +kernel
theorem dd_Mo_reach_82 : decode prog_9_method_11_code 82 = .ok (.istore 5, 2) := by decide +kernel
theorem dd_Mo_reach_84 : decode prog_9_method_11_code 84 = .ok (.aload_n 0, 1) := by decide +kernel
theorem dd_Mo_reach_85 : decode prog_9_method_11_code 85 = .ok (.getfield 74, 3) := by decide +kernel
theorem dd_Mo_reach_88 : decode prog_9_method_11_code 88 = .ok (.iload 4, 2) := by decide +kernel
