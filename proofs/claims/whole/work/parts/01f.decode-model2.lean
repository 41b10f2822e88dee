theorem d_Mo_save_94 : decode prog_12_method_24_code 94 = .ok (.invokevirtual 118, 3) := by decide +kernel
theorem d_Mo_save_97 : decode prog_12_method_24_code 97 = .ok (.aload_n 0, 1) := by decide +kernel
theorem d_Mo_save_98 : decode prog_12_method_24_code 98 = .ok (.iconst 0, 1) := by decide +kernel
theorem d_Mo_save_99 : decode prog_12_method_24_code 99 = .ok (.aload_n 0, 1) := by decide +kernel
theorem d_Mo_save_100 : decode prog_12_method_24_code 100 = .ok (.getfield 150, 3) := by decide +kernel
theorem d_Mo_save_103 : decode prog_12_method_24_code 103 = .ok (.iload_n 1, 1) := by decide +kernel
theorem d_Mo_save_104 : decode prog_12_method_24_code 104 = .ok (.iload_n 2, 1) := by decide +kernel
theorem d_Mo_save_105 : decode prog_12_method_24_code 105 = .ok (.invokevirtual 153, 3) := by decide +kernel
theorem d_Mo_save_108 : decode prog_12_method_24_code 108 = .ok (.istore 4, 2) := by decide +kernel
theorem d_Mo_save_110 : decode prog_12_method_24_code 110 = .ok (.aload_n 0, 1) := by decide +kernel
theorem d_Mo_save_111 : decode prog_12_method_24_code 111 = .ok (.iload_n 3, 1) := by decide +kernel
theorem d_Mo_save_112 : decode prog_12_method_24_code 112 = .ok (.iload 4, 2) := by decide +kernel
theorem d_Mo_save_114 : decode prog_12_method_24_code 114 = .ok (.invokevirtual 157, 3) := by decide +kernel
theorem d_Mo_save_117 : decode prog_12_method_24_code 117 = .ok (.aload_n 0, 1) := by decide +kernel
theorem d_Mo_save_118 : decode prog_12_method_24_code 118 = .ok (.iload_n 3, 1) := by decide +kernel
theorem d_Mo_save_119 : decode prog_12_method_24_code 119 = .ok (.putfield 143, 3) := by decide +kernel
theorem d_Mo_save_122 : decode prog_12_method_24_code 122 = .ok (.aload_n 0, 1) := by decide +kernel
theorem d_Mo_save_123 : decode prog_12_method_24_code 123 = .ok (.iconst 1, 1) := by decide +kernel
theorem d_Mo_save_124 : decode prog_12_method_24_code 124 = .ok (.putfield 139, 3) := by decide +kernel
theorem d_Mo_save_127 : decode prog_12_method_24_code 127 = .ok (.aload_n 0, 1) := by decide +kernel
theorem d_Mo_save_128 : decode prog_12_method_24_code 128 = .ok (.iconst 1, 1) := by decide +kernel
theorem d_Mo_save_129 : decode prog_12_method_24_code 129 = .ok (.putfield 160, 3) := by decide +kernel
theorem d_Mo_save_132 : decode prog_12_method_24_code 132 = .ok (.iload_n 3, 1) := by decide +kernel
theorem d_Mo_save_133 : decode prog_12_method_24_code 133 = .ok (.ireturn, 1) := by decide +kernel
theorem d_Mo_termOf_0 : decode prog_12_method_25_code 0 = .ok (.iload_n 1, 1) := by decide +kernel
theorem d_Mo_termOf_1 : decode prog_12_method_25_code 1 = .ok (.aload_n 0, 1) := by decide +kernel
theorem d_Mo_termOf_2 : decode prog_12_method_25_code 2 = .ok (.getfield 163, 3) := by decide +kernel
theorem d_Mo_termOf_5 : decode prog_12_method_25_code 5 = .ok (.if_icmp .ne 10, 3) := by decide +kernel
theorem d_Mo_termOf_8 : decode prog_12_method_25_code 8 = .ok (.aload_n 0, 1) := by decide +kernel
theorem d_Mo_termOf_9 : decode prog_12_method_25_code 9 = .ok (.getfield 166, 3) := by decide +kernel
theorem d_Mo_termOf_12 : decode prog_12_method_25_code 12 = .ok (.goto 21, 3) := by decide +kernel
theorem d_Mo_termOf_15 : decode prog_12_method_25_code 15 = .ok (.aload_n 0, 1) := by decide +kernel
theorem d_Mo_termOf_16 : decode prog_12_method_25_code 16 = .ok (.getfield 16, 3) := by decide +kernel
theorem d_Mo_termOf_19 : decode prog_12_method_25_code 19 = .ok (.aload_n 0, 1) := by decide +kernel
theorem d_Mo_termOf_20 : decode prog_12_method_25_code 20 = .ok (.getfield 60, 3) := by decide +kernel
theorem d_Mo_termOf_23 : decode prog_12_method_25_code 23 = .ok (.iload_n 1, 1) := by decide +kernel
theorem d_Mo_termOf_24 : decode prog_12_method_25_code 24 = .ok (.aload_n 0, 1) := by decide +kernel
theorem d_Mo_termOf_25 : decode prog_12_method_25_code 25 = .ok (.getfield 163, 3) := by decide +kernel
theorem d_Mo_termOf_28 : decode prog_12_method_25_code 28 = .ok (.isub, 1) := by decide +kernel
theorem d_Mo_termOf_29 : decode prog_12_method_25_code 29 = .ok (.iconst 1, 1) := by decide +kernel
theorem d_Mo_termOf_30 : decode prog_12_method_25_code 30 = .ok (.isub, 1) := by decide +kernel
theorem d_Mo_termOf_31 : decode prog_12_method_25_code 31 = .ok (.iaload, 1) := by decide +kernel
theorem d_Mo_termOf_32 : decode prog_12_method_25_code 32 = .ok (.iaload, 1) := by decide +kernel
theorem d_Mo_termOf_33 : decode prog_12_method_25_code 33 = .ok (.ireturn, 1) := by decide +kernel
theorem d_Mo_freeFile_0 : decode prog_12_method_26_code 0 = .ok (.iconst 4, 1) := by decide +kernel
theorem d_Mo_freeFile_1 : decode prog_12_method_26_code 1 = .ok (.istore_n 1, 1) := by decide +kernel
theorem d_Mo_freeFile_2 : decode prog_12_method_26_code 2 = .ok (.iload_n 1, 1) := by decide +kernel
theorem d_Mo_freeFile_3 : decode prog_12_method_26_code 3 = .ok (.bipush 16, 2) := by decide +kernel
theorem d_Mo_freeFile_5 : decode prog_12_method_26_code 5 = .ok (.if_icmp .ge 18, 3) := by decide +kernel
theorem d_Mo_freeFile_8 : decode prog_12_method_26_code 8 = .ok (.aload_n 0, 1) := by decide +kernel
theorem d_Mo_freeFile_9 : decode prog_12_method_26_code 9 = .ok (.getfield 40, 3) := by decide +kernel
theorem d_Mo_freeFile_12 : decode prog_12_method_26_code 12 = .ok (.iload_n 1, 1) := by decide +kernel
theorem d_Mo_freeFile_13 : decode prog_12_method_26_code 13 = .ok (.baload, 1) := by decide +kernel
theorem d_Mo_freeFile_14 : decode prog_12_method_26_code 14 = .ok (.ifCond .eq 9, 3) := by decide +kernel
theorem d_Mo_freeFile_17 : decode prog_12_method_26_code 17 = .ok (.iinc 1 1, 3) := by decide +kernel
theorem d_Mo_freeFile_20 : decode prog_12_method_26_code 20 = .ok (.goto (-18), 3) := by decide +kernel
theorem d_Mo_freeFile_23 : decode prog_12_method_26_code 23 = .ok (.iload_n 1, 1) := by decide +kernel
theorem d_Mo_freeFile_24 : decode prog_12_method_26_code 24 = .ok (.ireturn, 1) := by decide +kernel
theorem d_Mo_append_0 : decode prog_12_method_27_code 0 = .ok (.aload_n 0, 1) := by decide +kernel
theorem d_Mo_append_1 : decode prog_12_method_27_code 1 = .ok (.iconst 0, 1) := by decide +kernel
theorem d_Mo_append_2 : decode prog_12_method_27_code 2 = .ok (.putfield 78, 3) := by decide +kernel
theorem d_Mo_append_5 : decode prog_12_method_27_code 5 = .ok (.aload_n 0, 1) := by decide +kernel
theorem d_Mo_append_6 : decode prog_12_method_27_code 6 = .ok (.getfield 132, 3) := by decide +kernel
theorem d_Mo_append_9 : decode prog_12_method_27_code 9 = .ok (.istore_n 3, 1) := by decide +kernel
theorem d_Mo_append_10 : decode prog_12_method_27_code 10 = .ok (.aload_n 0, 1) := by decide +kernel
theorem d_Mo_append_11 : decode prog_12_method_27_code 11 = .ok (.iconst 0, 1) := by decide +kernel
theorem d_Mo_append_12 : decode prog_12_method_27_code 12 = .ok (.putfield 132, 3) := by decide +kernel
theorem d_Mo_append_15 : decode prog_12_method_27_code 15 = .ok (.iload_n 1, 1) := by decide +kernel
theorem d_Mo_append_16 : decode prog_12_method_27_code 16 = .ok (.aload_n 0, 1) := by decide +kernel
theorem d_Mo_append_17 : decode prog_12_method_27_code 17 = .ok (.aload_n 0, 1) := by decide +kernel
theorem d_Mo_append_18 : decode prog_12_method_27_code 18 = .ok (.getfield 169, 3) := by decide +kernel
theorem d_Mo_append_21 : decode prog_12_method_27_code 21 = .ok (.invokevirtual 172, 3) := by decide +kernel
theorem d_Mo_append_24 : decode prog_12_method_27_code 24 = .ok (.ldc 138, 2) := by decide +kernel
theorem d_Mo_append_26 : decode prog_12_method_27_code 26 = .ok (.invokestatic 125, 3) := by decide +kernel
theorem d_Mo_append_29 : decode prog_12_method_27_code 29 = .ok (.ifCond .eq 12, 3) := by decide +kernel
theorem d_Mo_append_32 : decode prog_12_method_27_code 32 = .ok (.iload_n 2, 1) := by decide +kernel
theorem d_Mo_append_33 : decode prog_12_method_27_code 33 = .ok (.iconst 0, 1) := by decide +kernel
theorem d_Mo_append_34 : decode prog_12_method_27_code 34 = .ok (.iconst 2, 1) := by decide +kernel
theorem d_Mo_append_35 : decode prog_12_method_27_code 35 = .ok (.invokestatic 125, 3) := by decide +kernel
theorem d_Mo_append_38 : decode prog_12_method_27_code 38 = .ok (.ifCond .ne 9, 3) := by decide +kernel
theorem d_Mo_append_41 : decode prog_12_method_27_code 41 = .ok (.aload_n 0, 1) := by decide +kernel
theorem d_Mo_append_42 : decode prog_12_method_27_code 42 = .ok (.iconst 1, 1) := by decide +kernel
theorem d_Mo_append_43 : decode prog_12_method_27_code 43 = .ok (.invokevirtual 129, 3) := by decide +kernel
theorem d_Mo_append_46 : decode prog_12_method_27_code 46 = .ok (.ireturn, 1) := by decide +kernel
theorem d_Mo_append_47 : decode prog_12_method_27_code 47 = .ok (.aload_n 0, 1) := by decide +kernel
theorem d_Mo_append_48 : decode prog_12_method_27_code 48 = .ok (.getfield 169, 3) := by decide +kernel
theorem d_Mo_append_51 : decode prog_12_method_27_code 51 = .ok (.aload_n 0, 1) := by decide +kernel
theorem d_Mo_append_52 : decode prog_12_method_27_code 52 = .ok (.getfield 163, 3) := by decide +kernel
theorem d_Mo_append_55 : decode prog_12_method_27_code 55 = .ok (.isub, 1) := by decide +kernel
theorem d_Mo_append_56 : decode prog_12_method_27_code 56 = .ok (.sipush 300, 3) := by decide +kernel
theorem d_Mo_append_59 : decode prog_12_method_27_code 59 = .ok (.if_icmp .ne 9, 3) := by decide +kernel
theorem d_Mo_append_62 : decode prog_12_method_27_code 62 = .ok (.aload_n 0, 1) := by decide +kernel
theorem d_Mo_append_63 : decode prog_12_method_27_code 63 = .ok (.iconst 2, 1) := by decide +kernel
theorem d_Mo_append_64 : decode prog_12_method_27_code 64 = .ok (.invokevirtual 129, 3) := by decide +kernel
theorem d_Mo_append_67 : decode prog_12_method_27_code 67 = .ok (.ireturn, 1) := by decide +kernel
theorem d_Mo_append_68 : decode prog_12_method_27_code 68 = .ok (.aload_n 0, 1) := by decide +kernel
theorem d_Mo_append_69 : decode prog_12_method_27_code 69 = .ok (.getfield 175, 3) := by decide +kernel
theorem d_Mo_append_72 : decode prog_12_method_27_code 72 = .ok (.ifCond .le 29, 3) := by decide +kernel
theorem d_Mo_append_75 : decode prog_12_method_27_code 75 = .ok (.aload_n 0, 1) := by decide +kernel
theorem d_Mo_append_76 : decode prog_12_method_27_code 76 = .ok (.getfield 37, 3) := by decide +kernel
theorem d_Mo_append_79 : decode prog_12_method_27_code 79 = .ok (.aload_n 0, 1) := by decide +kernel
theorem d_Mo_append_80 : decode prog_12_method_27_code 80 = .ok (.getfield 57, 3) := by decide +kernel
theorem d_Mo_append_83 : decode prog_12_method_27_code 83 = .ok (.aload_n 0, 1) := by decide +kernel
theorem d_Mo_append_84 : decode prog_12_method_27_code 84 = .ok (.getfield 175, 3) := by decide +kernel
theorem d_Mo_append_87 : decode prog_12_method_27_code 87 = .ok (.iconst 1, 1) := by decide +kernel
theorem d_Mo_append_88 : decode prog_12_method_27_code 88 = .ok (.isub, 1) := by decide +kernel
theorem d_Mo_append_89 : decode prog_12_method_27_code 89 = .ok (.iaload, 1) := by decide +kernel
theorem d_Mo_append_90 : decode prog_12_method_27_code 90 = .ok (.iaload, 1) := by decide +kernel
theorem d_Mo_append_91 : decode prog_12_method_27_code 91 = .ok (.sipush 8000, 3) := by decide +kernel
theorem d_Mo_append_94 : decode prog_12_method_27_code 94 = .ok (.if_icmp .gt 7, 3) := by decide +kernel
theorem d_Mo_append_97 : decode prog_12_method_27_code 97 = .ok (.iconst 1, 1) := by decide +kernel
theorem d_Mo_append_98 : decode prog_12_method_27_code 98 = .ok (.goto 4, 3) := by decide +kernel
theorem d_Mo_append_101 : decode prog_12_method_27_code 101 = .ok (.iconst 0, 1) := by decide +kernel
theorem d_Mo_append_102 : decode prog_12_method_27_code 102 = .ok (.istore 4, 2) := by decide +kernel
theorem d_Mo_append_104 : decode prog_12_method_27_code 104 = .ok (.iload 4, 2) := by decide +kernel
theorem d_Mo_append_106 : decode prog_12_method_27_code 106 = .ok (.ifCond .eq 17, 3) := by decide +kernel
theorem d_Mo_append_109 : decode prog_12_method_27_code 109 = .ok (.aload_n 0, 1) := by decide +kernel
theorem d_Mo_append_110 : decode prog_12_method_27_code 110 = .ok (.getfield 57, 3) := by decide +kernel
theorem d_Mo_append_113 : decode prog_12_method_27_code 113 = .ok (.aload_n 0, 1) := by decide +kernel
theorem d_Mo_append_114 : decode prog_12_method_27_code 114 = .ok (.getfield 175, 3) := by decide +kernel
theorem d_Mo_append_117 : decode prog_12_method_27_code 117 = .ok (.iconst 1, 1) := by decide +kernel
theorem d_Mo_append_118 : decode prog_12_method_27_code 118 = .ok (.isub, 1) := by decide +kernel
theorem d_Mo_append_119 : decode prog_12_method_27_code 119 = .ok (.iaload, 1) := by decide +kernel
theorem d_Mo_append_120 : decode prog_12_method_27_code 120 = .ok (.goto 7, 3) := by decide +kernel
theorem d_Mo_append_123 : decode prog_12_method_27_code 123 = .ok (.aload_n 0, 1) := by decide +kernel
theorem d_Mo_append_124 : decode prog_12_method_27_code 124 = .ok (.invokevirtual 178, 3) := by decide +kernel
theorem d_Mo_append_127 : decode prog_12_method_27_code 127 = .ok (.istore 5, 2) := by decide +kernel
theorem d_Mo_append_129 : decode prog_12_method_27_code 129 = .ok (.iload 5, 2) := by decide +kernel
theorem d_Mo_append_131 : decode prog_12_method_27_code 131 = .ok (.bipush 16, 2) := by decide +kernel
theorem d_Mo_append_133 : decode prog_12_method_27_code 133 = .ok (.if_icmp .eq 28, 3) := by decide +kernel
theorem d_Mo_append_136 : decode prog_12_method_27_code 136 = .ok (.aload_n 0, 1) := by decide +kernel
theorem d_Mo_append_137 : decode prog_12_method_27_code 137 = .ok (.iload 5, 2) := by decide +kernel
theorem d_Mo_append_139 : decode prog_12_method_27_code 139 = .ok (.bipush 25, 2) := by decide +kernel
theorem d_Mo_append_141 : decode prog_12_method_27_code 141 = .ok (.iload_n 3, 1) := by decide +kernel
theorem d_Mo_append_142 : decode prog_12_method_27_code 142 = .ok (.iadd, 1) := by decide +kernel
theorem d_Mo_append_143 : decode prog_12_method_27_code 143 = .ok (.iload 4, 2) := by decide +kernel
theorem d_Mo_append_145 : decode prog_12_method_27_code 145 = .ok (.ifCond .eq 7, 3) := by decide +kernel
theorem d_Mo_append_148 : decode prog_12_method_27_code 148 = .ok (.iconst 0, 1) := by decide +kernel
theorem d_Mo_append_149 : decode prog_12_method_27_code 149 = .ok (.goto 5, 3) := by decide +kernel
theorem d_Mo_append_152 : decode prog_12_method_27_code 152 = .ok (.bipush 24, 2) := by decide +kernel
theorem d_Mo_append_154 : decode prog_12_method_27_code 154 = .ok (.iadd, 1) := by decide +kernel
theorem d_Mo_append_155 : decode prog_12_method_27_code 155 = .ok (.invokevirtual 181, 3) := by decide +kernel
theorem d_Mo_append_158 : decode prog_12_method_27_code 158 = .ok (.ifCond .ne 9, 3) := by decide +kernel
theorem d_Mo_append_161 : decode prog_12_method_27_code 161 = .ok (.aload_n 0, 1) := by decide +kernel
theorem d_Mo_append_162 : decode prog_12_method_27_code 162 = .ok (.iconst 3, 1) := by decide +kernel
theorem d_Mo_append_163 : decode prog_12_method_27_code 163 = .ok (.invokevirtual 129, 3) := by decide +kernel
theorem d_Mo_append_166 : decode prog_12_method_27_code 166 = .ok (.ireturn, 1) := by decide +kernel
theorem d_Mo_append_167 : decode prog_12_method_27_code 167 = .ok (.iload 4, 2) := by decide +kernel
theorem d_Mo_append_169 : decode prog_12_method_27_code 169 = .ok (.ifCond .ne 54, 3) := by decide +kernel
theorem d_Mo_append_172 : decode prog_12_method_27_code 172 = .ok (.aload_n 0, 1) := by decide +kernel
theorem d_Mo_append_173 : decode prog_12_method_27_code 173 = .ok (.iconst 2, 1) := by decide +kernel
theorem d_Mo_append_174 : decode prog_12_method_27_code 174 = .ok (.aload_n 0, 1) := by decide +kernel
theorem d_Mo_append_175 : decode prog_12_method_27_code 175 = .ok (.getfield 169, 3) := by decide +kernel
theorem d_Mo_append_178 : decode prog_12_method_27_code 178 = .ok (.iconst 1, 1) := by decide +kernel
theorem d_Mo_append_179 : decode prog_12_method_27_code 179 = .ok (.iadd, 1) := by decide +kernel
theorem d_Mo_append_180 : decode prog_12_method_27_code 180 = .ok (.aload_n 0, 1) := by decide +kernel
theorem d_Mo_append_181 : decode prog_12_method_27_code 181 = .ok (.aload_n 0, 1) := by decide +kernel
theorem d_Mo_append_182 : decode prog_12_method_27_code 182 = .ok (.getfield 169, 3) := by decide +kernel
theorem d_Mo_append_185 : decode prog_12_method_27_code 185 = .ok (.invokevirtual 172, 3) := by decide +kernel
theorem d_Mo_append_188 : decode prog_12_method_27_code 188 = .ok (.iconst 0, 1) := by decide +kernel
theorem d_Mo_append_189 : decode prog_12_method_27_code 189 = .ok (.invokevirtual 153, 3) := by decide +kernel
theorem d_Mo_append_192 : decode prog_12_method_27_code 192 = .ok (.istore 6, 2) := by decide +kernel
theorem d_Mo_append_194 : decode prog_12_method_27_code 194 = .ok (.aload_n 0, 1) := by decide +kernel
theorem d_Mo_append_195 : decode prog_12_method_27_code 195 = .ok (.iload 5, 2) := by decide +kernel
theorem d_Mo_append_197 : decode prog_12_method_27_code 197 = .ok (.iload 6, 2) := by decide +kernel
theorem d_Mo_append_199 : decode prog_12_method_27_code 199 = .ok (.invokevirtual 157, 3) := by decide +kernel
theorem d_Mo_append_202 : decode prog_12_method_27_code 202 = .ok (.aload_n 0, 1) := by decide +kernel
theorem d_Mo_append_203 : decode prog_12_method_27_code 203 = .ok (.getfield 57, 3) := by decide +kernel
theorem d_Mo_append_206 : decode prog_12_method_27_code 206 = .ok (.aload_n 0, 1) := by decide +kernel
theorem d_Mo_append_207 : decode prog_12_method_27_code 207 = .ok (.getfield 175, 3) := by decide +kernel
theorem d_Mo_append_210 : decode prog_12_method_27_code 210 = .ok (.iload 5, 2) := by decide +kernel
theorem d_Mo_append_212 : decode prog_12_method_27_code 212 = .ok (.iastore, 1) := by decide +kernel
theorem d_Mo_append_213 : decode prog_12_method_27_code 213 = .ok (.aload_n 0, 1) := by decide +kernel
theorem d_Mo_append_214 : decode prog_12_method_27_code 214 = .ok (.dup, 1) := by decide +kernel
theorem d_Mo_append_215 : decode prog_12_method_27_code 215 = .ok (.getfield 175, 3) := by decide +kernel
theorem d_Mo_append_218 : decode prog_12_method_27_code 218 = .ok (.iconst 1, 1) := by decide +kernel
theorem d_Mo_append_219 : decode prog_12_method_27_code 219 = .ok (.iadd, 1) := by decide +kernel
theorem d_Mo_append_220 : decode prog_12_method_27_code 220 = .ok (.putfield 175, 3) := by decide +kernel
theorem d_Mo_append_223 : decode prog_12_method_27_code 223 = .ok (.aload_n 0, 1) := by decide +kernel
theorem d_Mo_append_224 : decode prog_12_method_27_code 224 = .ok (.iconst 3, 1) := by decide +kernel
theorem d_Mo_append_225 : decode prog_12_method_27_code 225 = .ok (.aload_n 0, 1) := by decide +kernel
theorem d_Mo_append_226 : decode prog_12_method_27_code 226 = .ok (.getfield 169, 3) := by decide +kernel
theorem d_Mo_append_229 : decode prog_12_method_27_code 229 = .ok (.iconst 1, 1) := by decide +kernel
theorem d_Mo_append_230 : decode prog_12_method_27_code 230 = .ok (.iadd, 1) := by decide +kernel
theorem d_Mo_append_231 : decode prog_12_method_27_code 231 = .ok (.iload_n 1, 1) := by decide +kernel
theorem d_Mo_append_232 : decode prog_12_method_27_code 232 = .ok (.iload_n 2, 1) := by decide +kernel
theorem d_Mo_append_233 : decode prog_12_method_27_code 233 = .ok (.invokevirtual 153, 3) := by decide +kernel
theorem d_Mo_append_236 : decode prog_12_method_27_code 236 = .ok (.istore 6, 2) := by decide +kernel
theorem d_Mo_append_238 : decode prog_12_method_27_code 238 = .ok (.aload_n 0, 1) := by decide +kernel
theorem d_Mo_append_239 : decode prog_12_method_27_code 239 = .ok (.iload 6, 2) := by decide +kernel
theorem d_Mo_append_241 : decode prog_12_method_27_code 241 = .ok (.iload_n 3, 1) := by decide +kernel
theorem d_Mo_append_242 : decode prog_12_method_27_code 242 = .ok (.invokevirtual 184, 3) := by decide +kernel
theorem d_Mo_append_245 : decode prog_12_method_27_code 245 = .ok (.aload_n 0, 1) := by decide +kernel
theorem d_Mo_append_246 : decode prog_12_method_27_code 246 = .ok (.iload 5, 2) := by decide +kernel
theorem d_Mo_append_248 : decode prog_12_method_27_code 248 = .ok (.iload 6, 2) := by decide +kernel
theorem d_Mo_append_250 : decode prog_12_method_27_code 250 = .ok (.invokevirtual 157, 3) := by decide +kernel
theorem d_Mo_append_253 : decode prog_12_method_27_code 253 = .ok (.aload_n 0, 1) := by decide +kernel
theorem d_Mo_append_254 : decode prog_12_method_27_code 254 = .ok (.getfield 60, 3) := by decide +kernel
theorem d_Mo_append_257 : decode prog_12_method_27_code 257 = .ok (.aload_n 0, 1) := by decide +kernel
theorem d_Mo_append_258 : decode prog_12_method_27_code 258 = .ok (.getfield 169, 3) := by decide +kernel
theorem d_Mo_append_261 : decode prog_12_method_27_code 261 = .ok (.aload_n 0, 1) := by decide +kernel
theorem d_Mo_append_262 : decode prog_12_method_27_code 262 = .ok (.getfield 163, 3) := by decide +kernel
theorem d_Mo_append_265 : decode prog_12_method_27_code 265 = .ok (.isub, 1) := by decide +kernel
theorem d_Mo_append_266 : decode prog_12_method_27_code 266 = .ok (.iload 6, 2) := by decide +kernel
theorem d_Mo_append_268 : decode prog_12_method_27_code 268 = .ok (.iastore, 1) := by decide +kernel
theorem d_Mo_append_269 : decode prog_12_method_27_code 269 = .ok (.aload_n 0, 1) := by decide +kernel
theorem d_Mo_append_270 : decode prog_12_method_27_code 270 = .ok (.dup, 1) := by decide +kernel
theorem d_Mo_append_271 : decode prog_12_method_27_code 271 = .ok (.getfield 169, 3) := by decide +kernel
theorem d_Mo_append_274 : decode prog_12_method_27_code 274 = .ok (.iconst 1, 1) := by decide +kernel
theorem d_Mo_append_275 : decode prog_12_method_27_code 275 = .ok (.iadd, 1) := by decide +kernel
theorem d_Mo_append_276 : decode prog_12_method_27_code 276 = .ok (.putfield 169, 3) := by decide +kernel
theorem d_Mo_append_279 : decode prog_12_method_27_code 279 = .ok (.aload_n 0, 1) := by decide +kernel
theorem d_Mo_append_280 : decode prog_12_method_27_code 280 = .ok (.iconst 1, 1) := by decide +kernel
theorem d_Mo_append_281 : decode prog_12_method_27_code 281 = .ok (.putfield 160, 3) := by decide +kernel
theorem d_Mo_append_284 : decode prog_12_method_27_code 284 = .ok (.aload_n 0, 1) := by decide +kernel
theorem d_Mo_append_285 : decode prog_12_method_27_code 285 = .ok (.getfield 169, 3) := by decide +kernel
theorem d_Mo_append_288 : decode prog_12_method_27_code 288 = .ok (.ireturn, 1) := by decide +kernel
theorem d_Mo_firstOf_0 : decode prog_12_method_28_code 0 = .ok (.aload_n 0, 1) := by decide +kernel
theorem d_Mo_firstOf_1 : decode prog_12_method_28_code 1 = .ok (.getfield 13, 3) := by decide +kernel
theorem d_Mo_firstOf_4 : decode prog_12_method_28_code 4 = .ok (.aload_n 0, 1) := by decide +kernel
theorem d_Mo_firstOf_5 : decode prog_12_method_28_code 5 = .ok (.getfield 31, 3) := by decide +kernel
theorem d_Mo_firstOf_8 : decode prog_12_method_28_code 8 = .ok (.sipush 330, 3) := by decide +kernel
theorem d_Mo_firstOf_11 : decode prog_12_method_28_code 11 = .ok (.iload_n 1, 1) := by decide +kernel
theorem d_Mo_firstOf_12 : decode prog_12_method_28_code 12 = .ok (.imul, 1) := by decide +kernel
theorem d_Mo_firstOf_13 : decode prog_12_method_28_code 13 = .ok (.iaload, 1) := by decide +kernel
theorem d_Mo_firstOf_14 : decode prog_12_method_28_code 14 = .ok (.iaload, 1) := by decide +kernel
theorem d_Mo_firstOf_15 : decode prog_12_method_28_code 15 = .ok (.ireturn, 1) := by decide +kernel
theorem d_Mo_placeIn_0 : decode prog_12_method_29_code 0 = .ok (.iconst 0, 1) := by decide +kernel
theorem d_Mo_placeIn_1 : decode prog_12_method_29_code 1 = .ok (.istore_n 3, 1) := by decide +kernel
theorem d_Mo_placeIn_2 : decode prog_12_method_29_code 2 = .ok (.iconst 0, 1) := by decide +kernel
theorem d_Mo_placeIn_3 : decode prog_12_method_29_code 3 = .ok (.istore 4, 2) := by decide +kernel
theorem d_Mo_placeIn_5 : decode prog_12_method_29_code 5 = .ok (.iload 4, 2) := by decide +kernel
theorem d_Mo_placeIn_7 : decode prog_12_method_29_code 7 = .ok (.aload_n 0, 1) := by decide +kernel
theorem d_Mo_placeIn_8 : decode prog_12_method_29_code 8 = .ok (.getfield 34, 3) := by decide +kernel
theorem d_Mo_placeIn_11 : decode prog_12_method_29_code 11 = .ok (.iload_n 1, 1) := by decide +kernel
theorem d_Mo_placeIn_12 : decode prog_12_method_29_code 12 = .ok (.iaload, 1) := by decide +kernel
theorem d_Mo_placeIn_13 : decode prog_12_method_29_code 13 = .ok (.if_icmp .ge 48, 3) := by decide +kernel
theorem d_Mo_placeIn_16 : decode prog_12_method_29_code 16 = .ok (.aload_n 0, 1) := by decide +kernel
theorem d_Mo_placeIn_17 : decode prog_12_method_29_code 17 = .ok (.getfield 31, 3) := by decide +kernel
theorem d_Mo_placeIn_20 : decode prog_12_method_29_code 20 = .ok (.sipush 330, 3) := by decide +kernel
theorem d_Mo_placeIn_23 : decode prog_12_method_29_code 23 = .ok (.iload_n 1, 1) := by decide +kernel
theorem d_Mo_placeIn_24 : decode prog_12_method_29_code 24 = .ok (.imul, 1) := by decide +kernel
theorem d_Mo_placeIn_25 : decode prog_12_method_29_code 25 = .ok (.iload 4, 2) := by decide +kernel
theorem d_Mo_placeIn_27 : decode prog_12_method_29_code 27 = .ok (.iadd, 1) := by decide +kernel
theorem d_Mo_placeIn_28 : decode prog_12_method_29_code 28 = .ok (.iaload, 1) := by decide +kernel
theorem d_Mo_placeIn_29 : decode prog_12_method_29_code 29 = .ok (.iload_n 2, 1) := by decide +kernel
theorem d_Mo_placeIn_30 : decode prog_12_method_29_code 30 = .ok (.if_icmp .ne 5, 3) := by decide +kernel
theorem d_Mo_placeIn_33 : decode prog_12_method_29_code 33 = .ok (.iload_n 3, 1) := by decide +kernel
theorem d_Mo_placeIn_34 : decode prog_12_method_29_code 34 = .ok (.ireturn, 1) := by decide +kernel
theorem d_Mo_placeIn_35 : decode prog_12_method_29_code 35 = .ok (.iload_n 3, 1) := by decide +kernel
theorem d_Mo_placeIn_36 : decode prog_12_method_29_code 36 = .ok (.aload_n 0, 1) := by decide +kernel
theorem d_Mo_placeIn_37 : decode prog_12_method_29_code 37 = .ok (.aload_n 0, 1) := by decide +kernel
theorem d_Mo_placeIn_38 : decode prog_12_method_29_code 38 = .ok (.getfield 31, 3) := by decide +kernel
theorem d_Mo_placeIn_41 : decode prog_12_method_29_code 41 = .ok (.sipush 330, 3) := by decide +kernel
theorem d_Mo_placeIn_44 : decode prog_12_method_29_code 44 = .ok (.iload_n 1, 1) := by decide +kernel
theorem d_Mo_placeIn_45 : decode prog_12_method_29_code 45 = .ok (.imul, 1) := by decide +kernel
theorem d_Mo_placeIn_46 : decode prog_12_method_29_code 46 = .ok (.iload 4, 2) := by decide +kernel
theorem d_Mo_placeIn_48 : decode prog_12_method_29_code 48 = .ok (.iadd, 1) := by decide +kernel
theorem d_Mo_placeIn_49 : decode prog_12_method_29_code 49 = .ok (.iaload, 1) := by decide +kernel
theorem d_Mo_placeIn_50 : decode prog_12_method_29_code 50 = .ok (.invokevirtual 115, 3) := by decide +kernel
theorem d_Mo_placeIn_53 : decode prog_12_method_29_code 53 = .ok (.iadd, 1) := by decide +kernel
theorem d_Mo_placeIn_54 : decode prog_12_method_29_code 54 = .ok (.istore_n 3, 1) := by decide +kernel
theorem d_Mo_placeIn_55 : decode prog_12_method_29_code 55 = .ok (.iinc 4 1, 3) := by decide +kernel
theorem d_Mo_placeIn_58 : decode prog_12_method_29_code 58 = .ok (.goto (-53), 3) := by decide +kernel
theorem d_Mo_placeIn_61 : decode prog_12_method_29_code 61 = .ok (.iconst (-1), 1) := by decide +kernel
theorem d_Mo_placeIn_62 : decode prog_12_method_29_code 62 = .ok (.ireturn, 1) := by decide +kernel
theorem d_Mo_cutFrom_0 : decode prog_12_method_30_code 0 = .ok (.aload_n 0, 1) := by decide +kernel
theorem d_Mo_cutFrom_1 : decode prog_12_method_30_code 1 = .ok (.iconst 0, 1) := by decide +kernel
theorem d_Mo_cutFrom_2 : decode prog_12_method_30_code 2 = .ok (.putfield 78, 3) := by decide +kernel
theorem d_Mo_cutFrom_5 : decode prog_12_method_30_code 5 = .ok (.iload_n 1, 1) := by decide +kernel
theorem d_Mo_cutFrom_6 : decode prog_12_method_30_code 6 = .ok (.aload_n 0, 1) := by decide +kernel
theorem d_Mo_cutFrom_7 : decode prog_12_method_30_code 7 = .ok (.getfield 163, 3) := by decide +kernel
theorem d_Mo_cutFrom_10 : decode prog_12_method_30_code 10 = .ok (.iconst 1, 1) := by decide +kernel
theorem d_Mo_cutFrom_11 : decode prog_12_method_30_code 11 = .ok (.iadd, 1) := by decide +kernel
theorem d_Mo_cutFrom_12 : decode prog_12_method_30_code 12 = .ok (.aload_n 0, 1) := by decide +kernel
theorem d_Mo_cutFrom_13 : decode prog_12_method_30_code 13 = .ok (.getfield 169, 3) := by decide +kernel
theorem d_Mo_cutFrom_16 : decode prog_12_method_30_code 16 = .ok (.invokestatic 125, 3) := by decide +kernel
theorem d_Mo_cutFrom_19 : decode prog_12_method_30_code 19 = .ok (.ifCond .ne 9, 3) := by decide +kernel
theorem d_Mo_cutFrom_22 : decode prog_12_method_30_code 22 = .ok (.aload_n 0, 1) := by decide +kernel
theorem d_Mo_cutFrom_23 : decode prog_12_method_30_code 23 = .ok (.iconst 1, 1) := by decide +kernel
theorem d_Mo_cutFrom_24 : decode prog_12_method_30_code 24 = .ok (.invokevirtual 129, 3) := by decide +kernel
theorem d_Mo_cutFrom_27 : decode prog_12_method_30_code 27 = .ok (.ireturn, 1) := by decide +kernel
theorem d_Mo_cutFrom_28 : decode prog_12_method_30_code 28 = .ok (.aload_n 0, 1) := by decide +kernel
theorem d_Mo_cutFrom_29 : decode prog_12_method_30_code 29 = .ok (.getfield 169, 3) := by decide +kernel
theorem d_Mo_cutFrom_32 : decode prog_12_method_30_code 32 = .ok (.iload_n 1, 1) := by decide +kernel
theorem d_Mo_cutFrom_33 : decode prog_12_method_30_code 33 = .ok (.isub, 1) := by decide +kernel
theorem d_Mo_cutFrom_34 : decode prog_12_method_30_code 34 = .ok (.iconst 1, 1) := by decide +kernel
theorem d_Mo_cutFrom_35 : decode prog_12_method_30_code 35 = .ok (.iadd, 1) := by decide +kernel
theorem d_Mo_cutFrom_36 : decode prog_12_method_30_code 36 = .ok (.istore_n 2, 1) := by decide +kernel
theorem d_Mo_cutFrom_37 : decode prog_12_method_30_code 37 = .ok (.aload_n 0, 1) := by decide +kernel
theorem d_Mo_cutFrom_38 : decode prog_12_method_30_code 38 = .ok (.getfield 175, 3) := by decide +kernel
theorem d_Mo_cutFrom_41 : decode prog_12_method_30_code 41 = .ok (.ifCond .le 50, 3) := by decide +kernel
theorem d_Mo_cutFrom_44 : decode prog_12_method_30_code 44 = .ok (.aload_n 0, 1) := by decide +kernel
theorem d_Mo_cutFrom_45 : decode prog_12_method_30_code 45 = .ok (.aload_n 0, 1) := by decide +kernel
theorem d_Mo_cutFrom_46 : decode prog_12_method_30_code 46 = .ok (.getfield 57, 3) := by decide +kernel
theorem d_Mo_cutFrom_49 : decode prog_12_method_30_code 49 = .ok (.aload_n 0, 1) := by decide +kernel
theorem d_Mo_cutFrom_50 : decode prog_12_method_30_code 50 = .ok (.getfield 175, 3) := by decide +kernel
theorem d_Mo_cutFrom_53 : decode prog_12_method_30_code 53 = .ok (.iconst 1, 1) := by decide +kernel
theorem d_Mo_cutFrom_54 : decode prog_12_method_30_code 54 = .ok (.isub, 1) := by decide +kernel
theorem d_Mo_cutFrom_55 : decode prog_12_method_30_code 55 = .ok (.iaload, 1) := by decide +kernel
theorem d_Mo_cutFrom_56 : decode prog_12_method_30_code 56 = .ok (.invokevirtual 187, 3) := by decide +kernel
theorem d_Mo_cutFrom_59 : decode prog_12_method_30_code 59 = .ok (.iload_n 1, 1) := by decide +kernel
theorem d_Mo_cutFrom_60 : decode prog_12_method_30_code 60 = .ok (.if_icmp .lt 31, 3) := by decide +kernel
theorem d_Mo_cutFrom_63 : decode prog_12_method_30_code 63 = .ok (.aload_n 0, 1) := by decide +kernel
theorem d_Mo_cutFrom_64 : decode prog_12_method_30_code 64 = .ok (.aload_n 0, 1) := by decide +kernel
theorem d_Mo_cutFrom_65 : decode prog_12_method_30_code 65 = .ok (.getfield 57, 3) := by decide +kernel
theorem d_Mo_cutFrom_68 : decode prog_12_method_30_code 68 = .ok (.aload_n 0, 1) := by decide +kernel
theorem d_Mo_cutFrom_69 : decode prog_12_method_30_code 69 = .ok (.getfield 175, 3) := by decide +kernel
theorem d_Mo_cutFrom_72 : decode prog_12_method_30_code 72 = .ok (.iconst 1, 1) := by decide +kernel
theorem d_Mo_cutFrom_73 : decode prog_12_method_30_code 73 = .ok (.isub, 1) := by decide +kernel
theorem d_Mo_cutFrom_74 : decode prog_12_method_30_code 74 = .ok (.iaload, 1) := by decide +kernel
theorem d_Mo_cutFrom_75 : decode prog_12_method_30_code 75 = .ok (.invokevirtual 190, 3) := by decide +kernel
theorem d_Mo_cutFrom_78 : decode prog_12_method_30_code 78 = .ok (.aload_n 0, 1) := by decide +kernel
theorem d_Mo_cutFrom_79 : decode prog_12_method_30_code 79 = .ok (.dup, 1) := by decide +kernel
theorem d_Mo_cutFrom_80 : decode prog_12_method_30_code 80 = .ok (.getfield 175, 3) := by decide +kernel
theorem d_Mo_cutFrom_83 : decode prog_12_method_30_code 83 = .ok (.iconst 1, 1) := by decide +kernel
theorem d_Mo_cutFrom_84 : decode prog_12_method_30_code 84 = .ok (.isub, 1) := by decide +kernel
theorem d_Mo_cutFrom_85 : decode prog_12_method_30_code 85 = .ok (.putfield 175, 3) := by decide +kernel
theorem d_Mo_cutFrom_88 : decode prog_12_method_30_code 88 = .ok (.goto (-51), 3) := by decide +kernel
theorem d_Mo_cutFrom_91 : decode prog_12_method_30_code 91 = .ok (.aload_n 0, 1) := by decide +kernel
theorem d_Mo_cutFrom_92 : decode prog_12_method_30_code 92 = .ok (.getfield 175, 3) := by decide +kernel
theorem d_Mo_cutFrom_95 : decode prog_12_method_30_code 95 = .ok (.ifCond .le 47, 3) := by decide +kernel
theorem d_Mo_cutFrom_98 : decode prog_12_method_30_code 98 = .ok (.aload_n 0, 1) := by decide +kernel
theorem d_Mo_cutFrom_99 : decode prog_12_method_30_code 99 = .ok (.getfield 57, 3) := by decide +kernel
theorem d_Mo_cutFrom_102 : decode prog_12_method_30_code 102 = .ok (.aload_n 0, 1) := by decide +kernel
theorem d_Mo_cutFrom_103 : decode prog_12_method_30_code 103 = .ok (.getfield 175, 3) := by decide +kernel
theorem d_Mo_cutFrom_106 : decode prog_12_method_30_code 106 = .ok (.iconst 1, 1) := by decide +kernel
theorem d_Mo_cutFrom_107 : decode prog_12_method_30_code 107 = .ok (.isub, 1) := by decide +kernel
theorem d_Mo_cutFrom_108 : decode prog_12_method_30_code 108 = .ok (.iaload, 1) := by decide +kernel
theorem d_Mo_cutFrom_109 : decode prog_12_method_30_code 109 = .ok (.istore_n 3, 1) := by decide +kernel
theorem d_Mo_cutFrom_110 : decode prog_12_method_30_code 110 = .ok (.aload_n 0, 1) := by decide +kernel
theorem d_Mo_cutFrom_111 : decode prog_12_method_30_code 111 = .ok (.iload_n 3, 1) := by decide +kernel
theorem d_Mo_cutFrom_112 : decode prog_12_method_30_code 112 = .ok (.aload_n 0, 1) := by decide +kernel
theorem d_Mo_cutFrom_113 : decode prog_12_method_30_code 113 = .ok (.getfield 60, 3) := by decide +kernel
theorem d_Mo_cutFrom_116 : decode prog_12_method_30_code 116 = .ok (.iload_n 1, 1) := by decide +kernel
theorem d_Mo_cutFrom_117 : decode prog_12_method_30_code 117 = .ok (.aload_n 0, 1) := by decide +kernel
theorem d_Mo_cutFrom_118 : decode prog_12_method_30_code 118 = .ok (.getfield 163, 3) := by decide +kernel
theorem d_Mo_cutFrom_121 : decode prog_12_method_30_code 121 = .ok (.isub, 1) := by decide +kernel
theorem d_Mo_cutFrom_122 : decode prog_12_method_30_code 122 = .ok (.iconst 1, 1) := by decide +kernel
theorem d_Mo_cutFrom_123 : decode prog_12_method_30_code 123 = .ok (.isub, 1) := by decide +kernel
theorem d_Mo_cutFrom_124 : decode prog_12_method_30_code 124 = .ok (.iaload, 1) := by decide +kernel
theorem d_Mo_cutFrom_125 : decode prog_12_method_30_code 125 = .ok (.invokevirtual 194, 3) := by decide +kernel
theorem d_Mo_cutFrom_128 : decode prog_12_method_30_code 128 = .ok (.istore 4, 2) := by decide +kernel
theorem d_Mo_cutFrom_130 : decode prog_12_method_30_code 130 = .ok (.iload 4, 2) := by decide +kernel
theorem d_Mo_cutFrom_132 : decode prog_12_method_30_code 132 = .ok (.ifCond .lt 10, 3) := by decide +kernel
theorem d_Mo_cutFrom_135 : decode prog_12_method_30_code 135 = .ok (.aload_n 0, 1) := by decide +kernel
theorem d_Mo_cutFrom_136 : decode prog_12_method_30_code 136 = .ok (.iload_n 3, 1) := by decide +kernel
theorem d_Mo_cutFrom_137 : decode prog_12_method_30_code 137 = .ok (.iload 4, 2) := by decide +kernel
theorem d_Mo_cutFrom_139 : decode prog_12_method_30_code 139 = .ok (.invokevirtual 118, 3) := by decide +kernel
theorem d_Mo_cutFrom_142 : decode prog_12_method_30_code 142 = .ok (.aload_n 0, 1) := by decide +kernel
theorem d_Mo_cutFrom_143 : decode prog_12_method_30_code 143 = .ok (.iload_n 1, 1) := by decide +kernel
theorem d_Mo_cutFrom_144 : decode prog_12_method_30_code 144 = .ok (.iconst 1, 1) := by decide +kernel
theorem d_Mo_cutFrom_145 : decode prog_12_method_30_code 145 = .ok (.isub, 1) := by decide +kernel
theorem d_Mo_cutFrom_146 : decode prog_12_method_30_code 146 = .ok (.putfield 169, 3) := by decide +kernel
theorem d_Mo_cutFrom_149 : decode prog_12_method_30_code 149 = .ok (.aload_n 0, 1) := by decide +kernel
theorem d_Mo_cutFrom_150 : decode prog_12_method_30_code 150 = .ok (.iconst 1, 1) := by decide +kernel
theorem d_Mo_cutFrom_151 : decode prog_12_method_30_code 151 = .ok (.putfield 160, 3) := by decide +kernel
theorem d_Mo_cutFrom_154 : decode prog_12_method_30_code 154 = .ok (.iload_n 2, 1) := by decide +kernel
theorem d_Mo_cutFrom_155 : decode prog_12_method_30_code 155 = .ok (.ireturn, 1) := by decide +kernel
theorem d_Mo_lastOf_0 : decode prog_12_method_31_code 0 = .ok (.aload_n 0, 1) := by decide +kernel
theorem d_Mo_lastOf_1 : decode prog_12_method_31_code 1 = .ok (.iload_n 1, 1) := by decide +kernel
theorem d_Mo_lastOf_2 : decode prog_12_method_31_code 2 = .ok (.invokevirtual 187, 3) := by decide +kernel
theorem d_Mo_lastOf_5 : decode prog_12_method_31_code 5 = .ok (.aload_n 0, 1) := by decide +kernel
theorem d_Mo_lastOf_6 : decode prog_12_method_31_code 6 = .ok (.getfield 34, 3) := by decide +kernel
theorem d_Mo_lastOf_9 : decode prog_12_method_31_code 9 = .ok (.iload_n 1, 1) := by decide +kernel
theorem d_Mo_lastOf_10 : decode prog_12_method_31_code 10 = .ok (.iaload, 1) := by decide +kernel
theorem d_Mo_lastOf_11 : decode prog_12_method_31_code 11 = .ok (.iadd, 1) := by decide +kernel
theorem d_Mo_lastOf_12 : decode prog_12_method_31_code 12 = .ok (.iconst 2, 1) := by decide +kernel
theorem d_Mo_lastOf_13 : decode prog_12_method_31_code 13 = .ok (.isub, 1) := by decide +kernel
theorem d_Mo_lastOf_14 : decode prog_12_method_31_code 14 = .ok (.ireturn, 1) := by decide +kernel
theorem d_Mo_rebase_0 : decode prog_12_method_32_code 0 = .ok (.iload_n 2, 1) := by decide +kernel
theorem d_Mo_rebase_1 : decode prog_12_method_32_code 1 = .ok (.istore_n 3, 1) := by decide +kernel
theorem d_Mo_rebase_2 : decode prog_12_method_32_code 2 = .ok (.iload_n 3, 1) := by decide +kernel
theorem d_Mo_rebase_3 : decode prog_12_method_32_code 3 = .ok (.aload_n 0, 1) := by decide +kernel
theorem d_Mo_rebase_4 : decode prog_12_method_32_code 4 = .ok (.getfield 169, 3) := by decide +kernel
theorem d_Mo_rebase_7 : decode prog_12_method_32_code 7 = .ok (.aload_n 0, 1) := by decide +kernel
theorem d_Mo_rebase_8 : decode prog_12_method_32_code 8 = .ok (.getfield 163, 3) := by decide +kernel
theorem d_Mo_rebase_11 : decode prog_12_method_32_code 11 = .ok (.isub, 1) := by decide +kernel
theorem d_Mo_rebase_12 : decode prog_12_method_32_code 12 = .ok (.if_icmp .ge 23, 3) := by decide +kernel
theorem d_Mo_rebase_15 : decode prog_12_method_32_code 15 = .ok (.aload_n 0, 1) := by decide +kernel
theorem d_Mo_rebase_16 : decode prog_12_method_32_code 16 = .ok (.getfield 60, 3) := by decide +kernel
theorem d_Mo_rebase_19 : decode prog_12_method_32_code 19 = .ok (.iload_n 3, 1) := by decide +kernel
theorem d_Mo_rebase_20 : decode prog_12_method_32_code 20 = .ok (.iload_n 2, 1) := by decide +kernel
theorem d_Mo_rebase_21 : decode prog_12_method_32_code 21 = .ok (.isub, 1) := by decide +kernel
theorem d_Mo_rebase_22 : decode prog_12_method_32_code 22 = .ok (.aload_n 0, 1) := by decide +kernel
theorem d_Mo_rebase_23 : decode prog_12_method_32_code 23 = .ok (.getfield 60, 3) := by decide +kernel
theorem d_Mo_rebase_26 : decode prog_12_method_32_code 26 = .ok (.iload_n 3, 1) := by decide +kernel
theorem d_Mo_rebase_27 : decode prog_12_method_32_code 27 = .ok (.iaload, 1) := by decide +kernel
theorem d_Mo_rebase_28 : decode prog_12_method_32_code 28 = .ok (.iastore, 1) := by decide +kernel
theorem d_Mo_rebase_29 : decode prog_12_method_32_code 29 = .ok (.iinc 3 1, 3) := by decide +kernel
theorem d_Mo_rebase_32 : decode prog_12_method_32_code 32 = .ok (.goto (-30), 3) := by decide +kernel
theorem d_Mo_rebase_35 : decode prog_12_method_32_code 35 = .ok (.aload_n 0, 1) := by decide +kernel
theorem d_Mo_rebase_36 : decode prog_12_method_32_code 36 = .ok (.iload_n 1, 1) := by decide +kernel
theorem d_Mo_rebase_37 : decode prog_12_method_32_code 37 = .ok (.putfield 163, 3) := by decide +kernel
theorem d_Mo_rebase_40 : decode prog_12_method_32_code 40 = .ok (.aload_n 0, 1) := by decide +kernel
theorem d_Mo_rebase_41 : decode prog_12_method_32_code 41 = .ok (.aload_n 0, 1) := by decide +kernel
theorem d_Mo_rebase_42 : decode prog_12_method_32_code 42 = .ok (.getfield 169, 3) := by decide +kernel
theorem d_Mo_rebase_45 : decode prog_12_method_32_code 45 = .ok (.iload_n 1, 1) := by decide +kernel
theorem d_Mo_rebase_46 : decode prog_12_method_32_code 46 = .ok (.if_icmp .ge 7, 3) := by decide +kernel
theorem d_Mo_rebase_49 : decode prog_12_method_32_code 49 = .ok (.iload_n 1, 1) := by decide +kernel
theorem d_Mo_rebase_50 : decode prog_12_method_32_code 50 = .ok (.goto 7, 3) := by decide +kernel
theorem d_Mo_rebase_53 : decode prog_12_method_32_code 53 = .ok (.aload_n 0, 1) := by decide +kernel
theorem d_Mo_rebase_54 : decode prog_12_method_32_code 54 = .ok (.getfield 169, 3) := by decide +kernel
theorem d_Mo_rebase_57 : decode prog_12_method_32_code 57 = .ok (.putfield 169, 3) := by decide +kernel
theorem d_Mo_rebase_60 : decode prog_12_method_32_code 60 = .ok (.iconst 0, 1) := by decide +kernel
theorem d_Mo_rebase_61 : decode prog_12_method_32_code 61 = .ok (.istore_n 3, 1) := by decide +kernel
theorem d_Mo_rebase_62 : decode prog_12_method_32_code 62 = .ok (.iconst 0, 1) := by decide +kernel
theorem d_Mo_rebase_63 : decode prog_12_method_32_code 63 = .ok (.istore 4, 2) := by decide +kernel
theorem d_Mo_rebase_65 : decode prog_12_method_32_code 65 = .ok (.iload 4, 2) := by decide +kernel
theorem d_Mo_rebase_67 : decode prog_12_method_32_code 67 = .ok (.aload_n 0, 1) := by decide +kernel
theorem d_Mo_rebase_68 : decode prog_12_method_32_code 68 = .ok (.getfield 175, 3) := by decide +kernel
theorem d_Mo_rebase_71 : decode prog_12_method_32_code 71 = .ok (.if_icmp .ge 79, 3) := by decide +kernel
theorem d_Mo_rebase_74 : decode prog_12_method_32_code 74 = .ok (.aload_n 0, 1) := by decide +kernel
theorem d_Mo_rebase_75 : decode prog_12_method_32_code 75 = .ok (.getfield 169, 3) := by decide +kernel
theorem d_Mo_rebase_78 : decode prog_12_method_32_code 78 = .ok (.aload_n 0, 1) := by decide +kernel
theorem d_Mo_rebase_79 : decode prog_12_method_32_code 79 = .ok (.getfield 163, 3) := by decide +kernel
theorem d_Mo_rebase_82 : decode prog_12_method_32_code 82 = .ok (.if_icmp .le 51, 3) := by decide +kernel
theorem d_Mo_rebase_85 : decode prog_12_method_32_code 85 = .ok (.aload_n 0, 1) := by decide +kernel
theorem d_Mo_rebase_86 : decode prog_12_method_32_code 86 = .ok (.aload_n 0, 1) := by decide +kernel
theorem d_Mo_rebase_87 : decode prog_12_method_32_code 87 = .ok (.getfield 57, 3) := by decide +kernel
theorem d_Mo_rebase_90 : decode prog_12_method_32_code 90 = .ok (.iload 4, 2) := by decide +kernel
theorem d_Mo_rebase_92 : decode prog_12_method_32_code 92 = .ok (.iaload, 1) := by decide +kernel
theorem d_Mo_rebase_93 : decode prog_12_method_32_code 93 = .ok (.invokevirtual 197, 3) := by decide +kernel
theorem d_Mo_rebase_96 : decode prog_12_method_32_code 96 = .ok (.aload_n 0, 1) := by decide +kernel
theorem d_Mo_rebase_97 : decode prog_12_method_32_code 97 = .ok (.getfield 163, 3) := by decide +kernel
theorem d_Mo_rebase_100 : decode prog_12_method_32_code 100 = .ok (.if_icmp .gt 14, 3) := by decide +kernel
theorem d_Mo_rebase_103 : decode prog_12_method_32_code 103 = .ok (.iload 4, 2) := by decide +kernel
theorem d_Mo_rebase_105 : decode prog_12_method_32_code 105 = .ok (.aload_n 0, 1) := by decide +kernel
theorem d_Mo_rebase_106 : decode prog_12_method_32_code 106 = .ok (.getfield 175, 3) := by decide +kernel
theorem d_Mo_rebase_109 : decode prog_12_method_32_code 109 = .ok (.iconst 1, 1) := by decide +kernel
theorem d_Mo_rebase_110 : decode prog_12_method_32_code 110 = .ok (.isub, 1) := by decide +kernel
theorem d_Mo_rebase_111 : decode prog_12_method_32_code 111 = .ok (.if_icmp .ne 22, 3) := by decide +kernel
theorem d_Mo_rebase_114 : decode prog_12_method_32_code 114 = .ok (.aload_n 0, 1) := by decide +kernel
theorem d_Mo_rebase_115 : decode prog_12_method_32_code 115 = .ok (.getfield 57, 3) := by decide +kernel
theorem d_Mo_rebase_118 : decode prog_12_method_32_code 118 = .ok (.iload_n 3, 1) := by decide +kernel
theorem d_Mo_rebase_119 : decode prog_12_method_32_code 119 = .ok (.aload_n 0, 1) := by decide +kernel
theorem d_Mo_rebase_120 : decode prog_12_method_32_code 120 = .ok (.getfield 57, 3) := by decide +kernel
theorem d_Mo_rebase_123 : decode prog_12_method_32_code 123 = .ok (.iload 4, 2) := by decide +kernel
theorem d_Mo_rebase_125 : decode prog_12_method_32_code 125 = .ok (.iaload, 1) := by decide +kernel
theorem d_Mo_rebase_126 : decode prog_12_method_32_code 126 = .ok (.iastore, 1) := by decide +kernel
theorem d_Mo_rebase_127 : decode prog_12_method_32_code 127 = .ok (.iinc 3 1, 3) := by decide +kernel
theorem d_Mo_rebase_130 : decode prog_12_method_32_code 130 = .ok (.goto 14, 3) := by decide +kernel
theorem d_Mo_rebase_133 : decode prog_12_method_32_code 133 = .ok (.aload_n 0, 1) := by decide +kernel
theorem d_Mo_rebase_134 : decode prog_12_method_32_code 134 = .ok (.aload_n 0, 1) := by decide +kernel
theorem d_Mo_rebase_135 : decode prog_12_method_32_code 135 = .ok (.getfield 57, 3) := by decide +kernel
theorem d_Mo_rebase_138 : decode prog_12_method_32_code 138 = .ok (.iload 4, 2) := by decide +kernel
theorem d_Mo_rebase_140 : decode prog_12_method_32_code 140 = .ok (.iaload, 1) := by decide +kernel
theorem d_Mo_rebase_141 : decode prog_12_method_32_code 141 = .ok (.invokevirtual 190, 3) := by decide +kernel
theorem d_Mo_rebase_144 : decode prog_12_method_32_code 144 = .ok (.iinc 4 1, 3) := by decide +kernel
theorem d_Mo_rebase_147 : decode prog_12_method_32_code 147 = .ok (.goto (-82), 3) := by decide +kernel
theorem d_Mo_rebase_150 : decode prog_12_method_32_code 150 = .ok (.aload_n 0, 1) := by decide +kernel
theorem d_Mo_rebase_151 : decode prog_12_method_32_code 151 = .ok (.iload_n 3, 1) := by decide +kernel
theorem d_Mo_rebase_152 : decode prog_12_method_32_code 152 = .ok (.putfield 175, 3) := by decide +kernel
theorem d_Mo_rebase_155 : decode prog_12_method_32_code 155 = .ok (.return_, 1) := by decide +kernel
theorem d_Mo_write_0 : decode prog_12_method_33_code 0 = .ok (.aload_n 0, 1) := by decide +kernel
theorem d_Mo_write_1 : decode prog_12_method_33_code 1 = .ok (.getfield 75, 3) := by decide +kernel
theorem d_Mo_write_4 : decode prog_12_method_33_code 4 = .ok (.iconst 2, 1) := by decide +kernel
theorem d_Mo_write_5 : decode prog_12_method_33_code 5 = .ok (.if_icmp .ne 7, 3) := by decide +kernel
theorem d_Mo_write_8 : decode prog_12_method_33_code 8 = .ok (.iconst 3, 1) := by decide +kernel
theorem d_Mo_write_9 : decode prog_12_method_33_code 9 = .ok (.goto 4, 3) := by decide +kernel
theorem d_Mo_write_12 : decode prog_12_method_33_code 12 = .ok (.iconst 2, 1) := by decide +kernel
theorem d_Mo_write_13 : decode prog_12_method_33_code 13 = .ok (.istore 5, 2) := by decide +kernel
theorem d_Mo_write_15 : decode prog_12_method_33_code 15 = .ok (.aload_n 0, 1) := by decide +kernel
theorem d_Mo_write_16 : decode prog_12_method_33_code 16 = .ok (.iload 5, 2) := by decide +kernel
theorem d_Mo_write_18 : decode prog_12_method_33_code 18 = .ok (.bipush 20, 2) := by decide +kernel
theorem d_Mo_write_20 : decode prog_12_method_33_code 20 = .ok (.iload 4, 2) := by decide +kernel
theorem d_Mo_write_22 : decode prog_12_method_33_code 22 = .ok (.iadd, 1) := by decide +kernel
theorem d_Mo_write_23 : decode prog_12_method_33_code 23 = .ok (.invokevirtual 146, 3) := by decide +kernel
theorem d_Mo_write_26 : decode prog_12_method_33_code 26 = .ok (.ifCond .ne 5, 3) := by decide +kernel
theorem d_Mo_write_29 : decode prog_12_method_33_code 29 = .ok (.iconst 0, 1) := by decide +kernel
theorem d_Mo_write_30 : decode prog_12_method_33_code 30 = .ok (.ireturn, 1) := by decide +kernel
theorem d_Mo_write_31 : decode prog_12_method_33_code 31 = .ok (.aload_n 0, 1) := by decide +kernel
theorem d_Mo_write_32 : decode prog_12_method_33_code 32 = .ok (.iload 5, 2) := by decide +kernel
theorem d_Mo_write_34 : decode prog_12_method_33_code 34 = .ok (.iconst 0, 1) := by decide +kernel
theorem d_Mo_write_35 : decode prog_12_method_33_code 35 = .ok (.invokevirtual 118, 3) := by decide +kernel
theorem d_Mo_write_38 : decode prog_12_method_33_code 38 = .ok (.aload_n 0, 1) := by decide +kernel
theorem d_Mo_write_39 : decode prog_12_method_33_code 39 = .ok (.iconst 1, 1) := by decide +kernel
theorem d_Mo_write_40 : decode prog_12_method_33_code 40 = .ok (.iload_n 1, 1) := by decide +kernel
theorem d_Mo_write_41 : decode prog_12_method_33_code 41 = .ok (.iload_n 2, 1) := by decide +kernel
theorem d_Mo_write_42 : decode prog_12_method_33_code 42 = .ok (.iload_n 3, 1) := by decide +kernel
theorem d_Mo_write_43 : decode prog_12_method_33_code 43 = .ok (.invokevirtual 153, 3) := by decide +kernel
theorem d_Mo_write_46 : decode prog_12_method_33_code 46 = .ok (.istore 6, 2) := by decide +kernel
theorem d_Mo_write_48 : decode prog_12_method_33_code 48 = .ok (.aload_n 0, 1) := by decide +kernel
theorem d_Mo_write_49 : decode prog_12_method_33_code 49 = .ok (.iload 6, 2) := by decide +kernel
theorem d_Mo_write_51 : decode prog_12_method_33_code 51 = .ok (.iload 4, 2) := by decide +kernel
theorem d_Mo_write_53 : decode prog_12_method_33_code 53 = .ok (.invokevirtual 184, 3) := by decide +kernel
theorem d_Mo_write_56 : decode prog_12_method_33_code 56 = .ok (.aload_n 0, 1) := by decide +kernel
theorem d_Mo_write_57 : decode prog_12_method_33_code 57 = .ok (.iload 5, 2) := by decide +kernel
theorem d_Mo_write_59 : decode prog_12_method_33_code 59 = .ok (.iload 6, 2) := by decide +kernel
theorem d_Mo_write_61 : decode prog_12_method_33_code 61 = .ok (.invokevirtual 157, 3) := by decide +kernel
theorem d_Mo_write_64 : decode prog_12_method_33_code 64 = .ok (.aload_n 0, 1) := by decide +kernel
theorem d_Mo_write_65 : decode prog_12_method_33_code 65 = .ok (.iload 5, 2) := by decide +kernel
theorem d_Mo_write_67 : decode prog_12_method_33_code 67 = .ok (.invokevirtual 200, 3) := by decide +kernel
theorem d_Mo_write_70 : decode prog_12_method_33_code 70 = .ok (.aload_n 0, 1) := by decide +kernel
theorem d_Mo_write_71 : decode prog_12_method_33_code 71 = .ok (.iload 5, 2) := by decide +kernel
theorem d_Mo_write_73 : decode prog_12_method_33_code 73 = .ok (.putfield 75, 3) := by decide +kernel
theorem d_Mo_write_76 : decode prog_12_method_33_code 76 = .ok (.aload_n 0, 1) := by decide +kernel
theorem d_Mo_write_77 : decode prog_12_method_33_code 77 = .ok (.iload_n 2, 1) := by decide +kernel
theorem d_Mo_write_78 : decode prog_12_method_33_code 78 = .ok (.putfield 166, 3) := by decide +kernel
theorem d_Mo_write_81 : decode prog_12_method_33_code 81 = .ok (.aload_n 0, 1) := by decide +kernel
theorem d_Mo_write_82 : decode prog_12_method_33_code 82 = .ok (.iload_n 3, 1) := by decide +kernel
theorem d_Mo_write_83 : decode prog_12_method_33_code 83 = .ok (.putfield 72, 3) := by decide +kernel
theorem d_Mo_write_86 : decode prog_12_method_33_code 86 = .ok (.aload_n 0, 1) := by decide +kernel
theorem d_Mo_write_87 : decode prog_12_method_33_code 87 = .ok (.iconst 1, 1) := by decide +kernel
theorem d_Mo_write_88 : decode prog_12_method_33_code 88 = .ok (.putfield 160, 3) := by decide +kernel
theorem d_Mo_write_91 : decode prog_12_method_33_code 91 = .ok (.iconst 1, 1) := by decide +kernel
theorem d_Mo_write_92 : decode prog_12_method_33_code 92 = .ok (.ireturn, 1) := by decide +kernel
theorem d_Mo_compact_0 : decode prog_12_method_34_code 0 = .ok (.aload_n 0, 1) := by decide +kernel
theorem d_Mo_compact_1 : decode prog_12_method_34_code 1 = .ok (.iconst 0, 1) := by decide +kernel
theorem d_Mo_compact_2 : decode prog_12_method_34_code 2 = .ok (.putfield 78, 3) := by decide +kernel
theorem d_Mo_compact_5 : decode prog_12_method_34_code 5 = .ok (.aload_n 0, 1) := by decide +kernel
theorem d_Mo_compact_6 : decode prog_12_method_34_code 6 = .ok (.getfield 132, 3) := by decide +kernel
theorem d_Mo_compact_9 : decode prog_12_method_34_code 9 = .ok (.istore_n 3, 1) := by decide +kernel
theorem d_Mo_compact_10 : decode prog_12_method_34_code 10 = .ok (.aload_n 0, 1) := by decide +kernel
theorem d_Mo_compact_11 : decode prog_12_method_34_code 11 = .ok (.iconst 0, 1) := by decide +kernel
theorem d_Mo_compact_12 : decode prog_12_method_34_code 12 = .ok (.putfield 132, 3) := by decide +kernel
theorem d_Mo_compact_15 : decode prog_12_method_34_code 15 = .ok (.iload_n 1, 1) := by decide +kernel
theorem d_Mo_compact_16 : decode prog_12_method_34_code 16 = .ok (.aload_n 0, 1) := by decide +kernel
theorem d_Mo_compact_17 : decode prog_12_method_34_code 17 = .ok (.getfield 163, 3) := by decide +kernel
theorem d_Mo_compact_20 : decode prog_12_method_34_code 20 = .ok (.iconst 1, 1) := by decide +kernel
theorem d_Mo_compact_21 : decode prog_12_method_34_code 21 = .ok (.iadd, 1) := by decide +kernel
theorem d_Mo_compact_22 : decode prog_12_method_34_code 22 = .ok (.aload_n 0, 1) := by decide +kernel
theorem d_Mo_compact_23 : decode prog_12_method_34_code 23 = .ok (.getfield 169, 3) := by decide +kernel
theorem d_Mo_compact_26 : decode prog_12_method_34_code 26 = .ok (.invokestatic 125, 3) := by decide +kernel
theorem d_Mo_compact_29 : decode prog_12_method_34_code 29 = .ok (.ifCond .ne 9, 3) := by decide +kernel
theorem d_Mo_compact_32 : decode prog_12_method_34_code 32 = .ok (.aload_n 0, 1) := by decide +kernel
theorem d_Mo_compact_33 : decode prog_12_method_34_code 33 = .ok (.iconst 1, 1) := by decide +kernel
theorem d_Mo_compact_34 : decode prog_12_method_34_code 34 = .ok (.invokevirtual 129, 3) := by decide +kernel
theorem d_Mo_compact_37 : decode prog_12_method_34_code 37 = .ok (.ireturn, 1) := by decide +kernel
theorem d_Mo_compact_38 : decode prog_12_method_34_code 38 = .ok (.aload_n 0, 1) := by decide +kernel
theorem d_Mo_compact_39 : decode prog_12_method_34_code 39 = .ok (.iload_n 1, 1) := by decide +kernel
theorem d_Mo_compact_40 : decode prog_12_method_34_code 40 = .ok (.invokevirtual 172, 3) := by decide +kernel
theorem d_Mo_compact_43 : decode prog_12_method_34_code 43 = .ok (.istore 4, 2) := by decide +kernel
theorem d_Mo_compact_45 : decode prog_12_method_34_code 45 = .ok (.aload_n 0, 1) := by decide +kernel
theorem d_Mo_compact_46 : decode prog_12_method_34_code 46 = .ok (.iload_n 1, 1) := by decide +kernel
theorem d_Mo_compact_47 : decode prog_12_method_34_code 47 = .ok (.iload 4, 2) := by decide +kernel
theorem d_Mo_compact_49 : decode prog_12_method_34_code 49 = .ok (.iload_n 2, 1) := by decide +kernel
theorem d_Mo_compact_50 : decode prog_12_method_34_code 50 = .ok (.iload_n 3, 1) := by decide +kernel
theorem d_Mo_compact_51 : decode prog_12_method_34_code 51 = .ok (.invokevirtual 203, 3) := by decide +kernel
theorem d_Mo_compact_54 : decode prog_12_method_34_code 54 = .ok (.ifCond .ne 9, 3) := by decide +kernel
theorem d_Mo_compact_57 : decode prog_12_method_34_code 57 = .ok (.aload_n 0, 1) := by decide +kernel
theorem d_Mo_compact_58 : decode prog_12_method_34_code 58 = .ok (.iconst 2, 1) := by decide +kernel
theorem d_Mo_compact_59 : decode prog_12_method_34_code 59 = .ok (.invokevirtual 129, 3) := by decide +kernel
theorem d_Mo_compact_62 : decode prog_12_method_34_code 62 = .ok (.ireturn, 1) := by decide +kernel
theorem d_Mo_compact_63 : decode prog_12_method_34_code 63 = .ok (.iload_n 1, 1) := by decide +kernel
theorem d_Mo_compact_64 : decode prog_12_method_34_code 64 = .ok (.aload_n 0, 1) := by decide +kernel
theorem d_Mo_compact_65 : decode prog_12_method_34_code 65 = .ok (.getfield 163, 3) := by decide +kernel
theorem d_Mo_compact_68 : decode prog_12_method_34_code 68 = .ok (.isub, 1) := by decide +kernel
theorem d_Mo_compact_69 : decode prog_12_method_34_code 69 = .ok (.istore 5, 2) := by decide +kernel
theorem d_Mo_compact_71 : decode prog_12_method_34_code 71 = .ok (.aload_n 0, 1) := by decide +kernel
theorem d_Mo_compact_72 : decode prog_12_method_34_code 72 = .ok (.iload_n 1, 1) := by decide +kernel
theorem d_Mo_compact_73 : decode prog_12_method_34_code 73 = .ok (.iload 5, 2) := by decide +kernel
theorem d_Mo_compact_75 : decode prog_12_method_34_code 75 = .ok (.invokevirtual 207, 3) := by decide +kernel
theorem d_Mo_compact_78 : decode prog_12_method_34_code 78 = .ok (.iload 5, 2) := by decide +kernel
theorem d_Mo_compact_80 : decode prog_12_method_34_code 80 = .ok (.ireturn, 1) := by decide +kernel
theorem d_Mo_take_0 : decode prog_12_method_35_code 0 = .ok (.aload_n 0, 1) := by decide +kernel
theorem d_Mo_take_1 : decode prog_12_method_35_code 1 = .ok (.iconst 0, 1) := by decide +kernel
theorem d_Mo_take_2 : decode prog_12_method_35_code 2 = .ok (.putfield 78, 3) := by decide +kernel
theorem d_Mo_take_5 : decode prog_12_method_35_code 5 = .ok (.aload_n 0, 1) := by decide +kernel
theorem d_Mo_take_6 : decode prog_12_method_35_code 6 = .ok (.getfield 132, 3) := by decide +kernel
theorem d_Mo_take_9 : decode prog_12_method_35_code 9 = .ok (.istore 4, 2) := by decide +kernel
theorem d_Mo_take_11 : decode prog_12_method_35_code 11 = .ok (.aload_n 0, 1) := by decide +kernel
theorem d_Mo_take_12 : decode prog_12_method_35_code 12 = .ok (.iconst 0, 1) := by decide +kernel
theorem d_Mo_take_13 : decode prog_12_method_35_code 13 = .ok (.putfield 132, 3) := by decide +kernel
theorem d_Mo_take_16 : decode prog_12_method_35_code 16 = .ok (.iload_n 1, 1) := by decide +kernel
theorem d_Mo_take_17 : decode prog_12_method_35_code 17 = .ok (.aload_n 0, 1) := by decide +kernel
theorem d_Mo_take_18 : decode prog_12_method_35_code 18 = .ok (.getfield 163, 3) := by decide +kernel
theorem d_Mo_take_21 : decode prog_12_method_35_code 21 = .ok (.iconst 1, 1) := by decide +kernel
theorem d_Mo_take_22 : decode prog_12_method_35_code 22 = .ok (.iadd, 1) := by decide +kernel
theorem d_Mo_take_23 : decode prog_12_method_35_code 23 = .ok (.ldc 138, 2) := by decide +kernel
theorem d_Mo_take_25 : decode prog_12_method_35_code 25 = .ok (.invokestatic 125, 3) := by decide +kernel
theorem d_Mo_take_28 : decode prog_12_method_35_code 28 = .ok (.ifCond .eq 13, 3) := by decide +kernel
theorem d_Mo_take_31 : decode prog_12_method_35_code 31 = .ok (.iload_n 2, 1) := by decide +kernel
theorem d_Mo_take_32 : decode prog_12_method_35_code 32 = .ok (.iconst 0, 1) := by decide +kernel
theorem d_Mo_take_33 : decode prog_12_method_35_code 33 = .ok (.ldc 138, 2) := by decide +kernel
theorem d_Mo_take_35 : decode prog_12_method_35_code 35 = .ok (.invokestatic 125, 3) := by decide +kernel
theorem d_Mo_take_38 : decode prog_12_method_35_code 38 = .ok (.ifCond .ne 9, 3) := by decide +kernel
theorem d_Mo_take_41 : decode prog_12_method_35_code 41 = .ok (.aload_n 0, 1) := by decide +kernel
theorem d_Mo_take_42 : decode prog_12_method_35_code 42 = .ok (.iconst 1, 1) := by decide +kernel
theorem d_Mo_take_43 : decode prog_12_method_35_code 43 = .ok (.invokevirtual 129, 3) := by decide +kernel
theorem d_Mo_take_46 : decode prog_12_method_35_code 46 = .ok (.ireturn, 1) := by decide +kernel
theorem d_Mo_take_47 : decode prog_12_method_35_code 47 = .ok (.iload_n 1, 1) := by decide +kernel
theorem d_Mo_take_48 : decode prog_12_method_35_code 48 = .ok (.aload_n 0, 1) := by decide +kernel
theorem d_Mo_take_49 : decode prog_12_method_35_code 49 = .ok (.getfield 169, 3) := by decide +kernel
theorem d_Mo_take_52 : decode prog_12_method_35_code 52 = .ok (.if_icmp .gt 16, 3) := by decide +kernel
theorem d_Mo_take_55 : decode prog_12_method_35_code 55 = .ok (.aload_n 0, 1) := by decide +kernel
theorem d_Mo_take_56 : decode prog_12_method_35_code 56 = .ok (.iload_n 1, 1) := by decide +kernel
theorem d_Mo_take_57 : decode prog_12_method_35_code 57 = .ok (.invokevirtual 172, 3) := by decide +kernel
theorem d_Mo_take_60 : decode prog_12_method_35_code 60 = .ok (.iload_n 2, 1) := by decide +kernel
theorem d_Mo_take_61 : decode prog_12_method_35_code 61 = .ok (.if_icmp .ne 7, 3) := by decide +kernel
theorem d_Mo_take_64 : decode prog_12_method_35_code 64 = .ok (.iconst 1, 1) := by decide +kernel
theorem d_Mo_take_65 : decode prog_12_method_35_code 65 = .ok (.goto 4, 3) := by decide +kernel
theorem d_Mo_take_68 : decode prog_12_method_35_code 68 = .ok (.iconst 0, 1) := by decide +kernel
theorem d_Mo_take_69 : decode prog_12_method_35_code 69 = .ok (.istore 5, 2) := by decide +kernel
theorem d_Mo_take_71 : decode prog_12_method_35_code 71 = .ok (.aload_n 0, 1) := by decide +kernel
theorem d_Mo_take_72 : decode prog_12_method_35_code 72 = .ok (.iload_n 1, 1) := by decide +kernel
theorem d_Mo_take_73 : decode prog_12_method_35_code 73 = .ok (.iload_n 2, 1) := by decide +kernel
theorem d_Mo_take_74 : decode prog_12_method_35_code 74 = .ok (.iload_n 3, 1) := by decide +kernel
theorem d_Mo_take_75 : decode prog_12_method_35_code 75 = .ok (.iload 4, 2) := by decide +kernel
theorem d_Mo_take_77 : decode prog_12_method_35_code 77 = .ok (.invokevirtual 203, 3) := by decide +kernel
theorem d_Mo_take_80 : decode prog_12_method_35_code 80 = .ok (.ifCond .ne 9, 3) := by decide +kernel
theorem d_Mo_take_83 : decode prog_12_method_35_code 83 = .ok (.aload_n 0, 1) := by decide +kernel
theorem d_Mo_take_84 : decode prog_12_method_35_code 84 = .ok (.iconst 2, 1) := by decide +kernel
theorem d_Mo_take_85 : decode prog_12_method_35_code 85 = .ok (.invokevirtual 129, 3) := by decide +kernel
theorem d_Mo_take_88 : decode prog_12_method_35_code 88 = .ok (.ireturn, 1) := by decide +kernel
theorem d_Mo_take_89 : decode prog_12_method_35_code 89 = .ok (.iload 5, 2) := by decide +kernel
theorem d_Mo_take_91 : decode prog_12_method_35_code 91 = .ok (.ifCond .ne 23, 3) := by decide +kernel
theorem d_Mo_take_94 : decode prog_12_method_35_code 94 = .ok (.aload_n 0, 1) := by decide +kernel
theorem d_Mo_take_95 : decode prog_12_method_35_code 95 = .ok (.iload_n 1, 1) := by decide +kernel
theorem d_Mo_take_96 : decode prog_12_method_35_code 96 = .ok (.aload_n 0, 1) := by decide +kernel
theorem d_Mo_take_97 : decode prog_12_method_35_code 97 = .ok (.getfield 169, 3) := by decide +kernel
theorem d_Mo_take_100 : decode prog_12_method_35_code 100 = .ok (.if_icmp .le 10, 3) := by decide +kernel
theorem d_Mo_take_103 : decode prog_12_method_35_code 103 = .ok (.aload_n 0, 1) := by decide +kernel
theorem d_Mo_take_104 : decode prog_12_method_35_code 104 = .ok (.getfield 169, 3) := by decide +kernel
theorem d_Mo_take_107 : decode prog_12_method_35_code 107 = .ok (.goto 4, 3) := by decide +kernel
theorem d_Mo_take_110 : decode prog_12_method_35_code 110 = .ok (.iload_n 1, 1) := by decide +kernel
theorem d_Mo_take_111 : decode prog_12_method_35_code 111 = .ok (.putfield 169, 3) := by decide +kernel
theorem d_Mo_take_114 : decode prog_12_method_35_code 114 = .ok (.aload_n 0, 1) := by decide +kernel
theorem d_Mo_take_115 : decode prog_12_method_35_code 115 = .ok (.iload_n 1, 1) := by decide +kernel
theorem d_Mo_take_116 : decode prog_12_method_35_code 116 = .ok (.iload 5, 2) := by decide +kernel
theorem d_Mo_take_118 : decode prog_12_method_35_code 118 = .ok (.ifCond .eq 12, 3) := by decide +kernel
theorem d_Mo_take_121 : decode prog_12_method_35_code 121 = .ok (.iload_n 1, 1) := by decide +kernel
theorem d_Mo_take_122 : decode prog_12_method_35_code 122 = .ok (.aload_n 0, 1) := by decide +kernel
theorem d_Mo_take_123 : decode prog_12_method_35_code 123 = .ok (.getfield 163, 3) := by decide +kernel
theorem d_Mo_take_126 : decode prog_12_method_35_code 126 = .ok (.isub, 1) := by decide +kernel
theorem d_Mo_take_127 : decode prog_12_method_35_code 127 = .ok (.goto 12, 3) := by decide +kernel
theorem d_Mo_take_130 : decode prog_12_method_35_code 130 = .ok (.aload_n 0, 1) := by decide +kernel
theorem d_Mo_take_131 : decode prog_12_method_35_code 131 = .ok (.getfield 169, 3) := by decide +kernel
theorem d_Mo_take_134 : decode prog_12_method_35_code 134 = .ok (.aload_n 0, 1) := by decide +kernel
theorem d_Mo_take_135 : decode prog_12_method_35_code 135 = .ok (.getfield 163, 3) := by decide +kernel
theorem d_Mo_take_138 : decode prog_12_method_35_code 138 = .ok (.isub, 1) := by decide +kernel
theorem d_Mo_take_139 : decode prog_12_method_35_code 139 = .ok (.invokevirtual 207, 3) := by decide +kernel
theorem d_Mo_take_142 : decode prog_12_method_35_code 142 = .ok (.aload_n 0, 1) := by decide +kernel
theorem d_Mo_take_143 : decode prog_12_method_35_code 143 = .ok (.getfield 169, 3) := by decide +kernel
theorem d_Mo_take_146 : decode prog_12_method_35_code 146 = .ok (.ireturn, 1) := by decide +kernel
theorem d_Mo_sync_0 : decode prog_12_method_36_code 0 = .ok (.aload_n 0, 1) := by decide +kernel
theorem d_Mo_sync_1 : decode prog_12_method_36_code 1 = .ok (.iconst 0, 1) := by decide +kernel
theorem d_Mo_sync_2 : decode prog_12_method_36_code 2 = .ok (.putfield 78, 3) := by decide +kernel
theorem d_Mo_sync_5 : decode prog_12_method_36_code 5 = .ok (.aload_n 0, 1) := by decide +kernel
theorem d_Mo_sync_6 : decode prog_12_method_36_code 6 = .ok (.getfield 160, 3) := by decide +kernel
theorem d_Mo_sync_9 : decode prog_12_method_36_code 9 = .ok (.istore_n 1, 1) := by decide +kernel
theorem d_Mo_sync_10 : decode prog_12_method_36_code 10 = .ok (.iconst 0, 1) := by decide +kernel
theorem d_Mo_sync_11 : decode prog_12_method_36_code 11 = .ok (.istore_n 2, 1) := by decide +kernel
theorem d_Mo_sync_12 : decode prog_12_method_36_code 12 = .ok (.iload_n 2, 1) := by decide +kernel
theorem d_Mo_sync_13 : decode prog_12_method_36_code 13 = .ok (.bipush 16, 2) := by decide +kernel
theorem d_Mo_sync_15 : decode prog_12_method_36_code 15 = .ok (.if_icmp .ge 14, 3) := by decide +kernel
theorem d_Mo_sync_18 : decode prog_12_method_36_code 18 = .ok (.aload_n 0, 1) := by decide +kernel
theorem d_Mo_sync_19 : decode prog_12_method_36_code 19 = .ok (.iload_n 2, 1) := by decide +kernel
theorem d_Mo_sync_20 : decode prog_12_method_36_code 20 = .ok (.invokevirtual 200, 3) := by decide +kernel
theorem d_Mo_sync_23 : decode prog_12_method_36_code 23 = .ok (.iinc 2 1, 3) := by decide +kernel
theorem d_Mo_sync_26 : decode prog_12_method_36_code 26 = .ok (.goto (-14), 3) := by decide +kernel
theorem d_Mo_sync_29 : decode prog_12_method_36_code 29 = .ok (.aload_n 0, 1) := by decide +kernel
theorem d_Mo_sync_30 : decode prog_12_method_36_code 30 = .ok (.iconst 0, 1) := by decide +kernel
theorem d_Mo_sync_31 : decode prog_12_method_36_code 31 = .ok (.putfield 160, 3) := by decide +kernel
theorem d_Mo_sync_34 : decode prog_12_method_36_code 34 = .ok (.aload_n 0, 1) := by decide +kernel
theorem d_Mo_sync_35 : decode prog_12_method_36_code 35 = .ok (.iconst 0, 1) := by decide +kernel
theorem d_Mo_sync_36 : decode prog_12_method_36_code 36 = .ok (.putfield 139, 3) := by decide +kernel
theorem d_Mo_sync_39 : decode prog_12_method_36_code 39 = .ok (.iload_n 1, 1) := by decide +kernel
theorem d_Mo_sync_40 : decode prog_12_method_36_code 40 = .ok (.ireturn, 1) := by decide +kernel
theorem d_Mo_keep_0 : decode prog_12_method_37_code 0 = .ok (.aload_n 0, 1) := by decide +kernel
theorem d_Mo_keep_1 : decode prog_12_method_37_code 1 = .ok (.iconst 0, 1) := by decide +kernel
theorem d_Mo_keep_2 : decode prog_12_method_37_code 2 = .ok (.putfield 78, 3) := by decide +kernel
theorem d_Mo_keep_5 : decode prog_12_method_37_code 5 = .ok (.iload_n 1, 1) := by decide +kernel
theorem d_Mo_keep_6 : decode prog_12_method_37_code 6 = .ok (.iconst 0, 1) := by decide +kernel
theorem d_Mo_keep_7 : decode prog_12_method_37_code 7 = .ok (.bipush 15, 2) := by decide +kernel
theorem d_Mo_keep_9 : decode prog_12_method_37_code 9 = .ok (.invokestatic 125, 3) := by decide +kernel
theorem d_Mo_keep_12 : decode prog_12_method_37_code 12 = .ok (.ifCond .ne 11, 3) := by decide +kernel
theorem d_Mo_keep_15 : decode prog_12_method_37_code 15 = .ok (.aload_n 0, 1) := by decide +kernel
theorem d_Mo_keep_16 : decode prog_12_method_37_code 16 = .ok (.iconst 1, 1) := by decide +kernel
theorem d_Mo_keep_17 : decode prog_12_method_37_code 17 = .ok (.putfield 78, 3) := by decide +kernel
theorem d_Mo_keep_20 : decode prog_12_method_37_code 20 = .ok (.goto 22, 3) := by decide +kernel
theorem d_Mo_keep_23 : decode prog_12_method_37_code 23 = .ok (.iload_n 2, 1) := by decide +kernel
theorem d_Mo_keep_24 : decode prog_12_method_37_code 24 = .ok (.ifCond .ge 11, 3) := by decide +kernel
theorem d_Mo_keep_27 : decode prog_12_method_37_code 27 = .ok (.aload_n 0, 1) := by decide +kernel
theorem d_Mo_keep_28 : decode prog_12_method_37_code 28 = .ok (.iconst 2, 1) := by decide +kernel
theorem d_Mo_keep_29 : decode prog_12_method_37_code 29 = .ok (.putfield 78, 3) := by decide +kernel
theorem d_Mo_keep_32 : decode prog_12_method_37_code 32 = .ok (.goto 10, 3) := by decide +kernel
theorem d_Mo_keep_35 : decode prog_12_method_37_code 35 = .ok (.aload_n 0, 1) := by decide +kernel
theorem d_Mo_keep_36 : decode prog_12_method_37_code 36 = .ok (.getfield 50, 3) := by decide +kernel
theorem d_Mo_keep_39 : decode prog_12_method_37_code 39 = .ok (.iload_n 1, 1) := by decide +kernel
theorem d_Mo_keep_40 : decode prog_12_method_37_code 40 = .ok (.iload_n 2, 1) := by decide +kernel
theorem d_Mo_keep_41 : decode prog_12_method_37_code 41 = .ok (.iastore, 1) := by decide +kernel
theorem d_Mo_keep_42 : decode prog_12_method_37_code 42 = .ok (.return_, 1) := by decide +kernel
theorem d_Mo_crashFile_0 : decode prog_12_method_38_code 0 = .ok (.iload_n 2, 1) := by decide +kernel
theorem d_Mo_crashFile_1 : decode prog_12_method_38_code 1 = .ok (.ifCond .ne 15, 3) := by decide +kernel
theorem d_Mo_crashFile_4 : decode prog_12_method_38_code 4 = .ok (.aload_n 0, 1) := by decide +kernel
theorem d_Mo_crashFile_5 : decode prog_12_method_38_code 5 = .ok (.bipush 16, 2) := by decide +kernel
theorem d_Mo_crashFile_7 : decode prog_12_method_38_code 7 = .ok (.iload_n 1, 1) := by decide +kernel
theorem d_Mo_crashFile_8 : decode prog_12_method_38_code 8 = .ok (.iadd, 1) := by decide +kernel
theorem d_Mo_crashFile_9 : decode prog_12_method_38_code 9 = .ok (.iload_n 1, 1) := by decide +kernel
theorem d_Mo_crashFile_10 : decode prog_12_method_38_code 10 = .ok (.invokevirtual 122, 3) := by decide +kernel
theorem d_Mo_crashFile_13 : decode prog_12_method_38_code 13 = .ok (.goto 37, 3) := by decide +kernel
theorem d_Mo_crashFile_16 : decode prog_12_method_38_code 16 = .ok (.aload_n 0, 1) := by decide +kernel
theorem d_Mo_crashFile_17 : decode prog_12_method_38_code 17 = .ok (.getfield 37, 3) := by decide +kernel
theorem d_Mo_crashFile_20 : decode prog_12_method_38_code 20 = .ok (.iload_n 1, 1) := by decide +kernel
theorem d_Mo_crashFile_21 : decode prog_12_method_38_code 21 = .ok (.iaload, 1) := by decide +kernel
theorem d_Mo_crashFile_22 : decode prog_12_method_38_code 22 = .ok (.aload_n 0, 1) := by decide +kernel
theorem d_Mo_crashFile_23 : decode prog_12_method_38_code 23 = .ok (.getfield 44, 3) := by decide +kernel
theorem d_Mo_crashFile_26 : decode prog_12_method_38_code 26 = .ok (.iload_n 1, 1) := by decide +kernel
theorem d_Mo_crashFile_27 : decode prog_12_method_38_code 27 = .ok (.iaload, 1) := by decide +kernel
theorem d_Mo_crashFile_28 : decode prog_12_method_38_code 28 = .ok (.isub, 1) := by decide +kernel
theorem d_Mo_crashFile_29 : decode prog_12_method_38_code 29 = .ok (.iload_n 2, 1) := by decide +kernel
theorem d_Mo_crashFile_30 : decode prog_12_method_38_code 30 = .ok (.iconst 1, 1) := by decide +kernel
theorem d_Mo_crashFile_31 : decode prog_12_method_38_code 31 = .ok (.isub, 1) := by decide +kernel
theorem d_Mo_crashFile_32 : decode prog_12_method_38_code 32 = .ok (.if_icmp .le 18, 3) := by decide +kernel
theorem d_Mo_crashFile_35 : decode prog_12_method_38_code 35 = .ok (.aload_n 0, 1) := by decide +kernel
theorem d_Mo_crashFile_36 : decode prog_12_method_38_code 36 = .ok (.iload_n 1, 1) := by decide +kernel
theorem d_Mo_crashFile_37 : decode prog_12_method_38_code 37 = .ok (.aload_n 0, 1) := by decide +kernel
theorem d_Mo_crashFile_38 : decode prog_12_method_38_code 38 = .ok (.getfield 44, 3) := by decide +kernel
theorem d_Mo_crashFile_41 : decode prog_12_method_38_code 41 = .ok (.iload_n 1, 1) := by decide +kernel
theorem d_Mo_crashFile_42 : decode prog_12_method_38_code 42 = .ok (.iaload, 1) := by decide +kernel
theorem d_Mo_crashFile_43 : decode prog_12_method_38_code 43 = .ok (.iload_n 2, 1) := by decide +kernel
theorem d_Mo_crashFile_44 : decode prog_12_method_38_code 44 = .ok (.iadd, 1) := by decide +kernel
theorem d_Mo_crashFile_45 : decode prog_12_method_38_code 45 = .ok (.iconst 1, 1) := by decide +kernel
theorem d_Mo_crashFile_46 : decode prog_12_method_38_code 46 = .ok (.isub, 1) := by decide +kernel
theorem d_Mo_crashFile_47 : decode prog_12_method_38_code 47 = .ok (.invokevirtual 118, 3) := by decide +kernel
theorem d_Mo_crashFile_50 : decode prog_12_method_38_code 50 = .ok (.aload_n 0, 1) := by decide +kernel
theorem d_Mo_crashFile_51 : decode prog_12_method_38_code 51 = .ok (.iload_n 1, 1) := by decide +kernel
theorem d_Mo_crashFile_52 : decode prog_12_method_38_code 52 = .ok (.invokevirtual 200, 3) := by decide +kernel
theorem d_Mo_crashFile_55 : decode prog_12_method_38_code 55 = .ok (.return_, 1) := by decide +kernel
theorem d_Mo_whole_0 : decode prog_12_method_39_code 0 = .ok (.iconst 0, 1) := by decide +kernel
theorem d_Mo_whole_1 : decode prog_12_method_39_code 1 = .ok (.istore_n 2, 1) := by decide +kernel
theorem d_Mo_whole_2 : decode prog_12_method_39_code 2 = .ok (.iconst 0, 1) := by decide +kernel
theorem d_Mo_whole_3 : decode prog_12_method_39_code 3 = .ok (.istore_n 3, 1) := by decide +kernel
theorem d_Mo_whole_4 : decode prog_12_method_39_code 4 = .ok (.iconst 0, 1) := by decide +kernel
theorem d_Mo_whole_5 : decode prog_12_method_39_code 5 = .ok (.istore 4, 2) := by decide +kernel
theorem d_Mo_whole_7 : decode prog_12_method_39_code 7 = .ok (.iload 4, 2) := by decide +kernel
theorem d_Mo_whole_9 : decode prog_12_method_39_code 9 = .ok (.aload_n 0, 1) := by decide +kernel
theorem d_Mo_whole_10 : decode prog_12_method_39_code 10 = .ok (.getfield 34, 3) := by decide +kernel
theorem d_Mo_whole_13 : decode prog_12_method_39_code 13 = .ok (.iload_n 1, 1) := by decide +kernel
theorem d_Mo_whole_14 : decode prog_12_method_39_code 14 = .ok (.iaload, 1) := by decide +kernel
theorem d_Mo_whole_15 : decode prog_12_method_39_code 15 = .ok (.if_icmp .ge 47, 3) := by decide +kernel
theorem d_Mo_whole_18 : decode prog_12_method_39_code 18 = .ok (.iload_n 2, 1) := by decide +kernel
theorem d_Mo_whole_19 : decode prog_12_method_39_code 19 = .ok (.aload_n 0, 1) := by decide +kernel
theorem d_Mo_whole_20 : decode prog_12_method_39_code 20 = .ok (.aload_n 0, 1) := by decide +kernel
theorem d_Mo_whole_21 : decode prog_12_method_39_code 21 = .ok (.getfield 31, 3) := by decide +kernel
theorem d_Mo_whole_24 : decode prog_12_method_39_code 24 = .ok (.sipush 330, 3) := by decide +kernel
theorem d_Mo_whole_27 : decode prog_12_method_39_code 27 = .ok (.iload_n 1, 1) := by decide +kernel
theorem d_Mo_whole_28 : decode prog_12_method_39_code 28 = .ok (.imul, 1) := by decide +kernel
theorem d_Mo_whole_29 : decode prog_12_method_39_code 29 = .ok (.iload 4, 2) := by decide +kernel
theorem d_Mo_whole_31 : decode prog_12_method_39_code 31 = .ok (.iadd, 1) := by decide +kernel
theorem d_Mo_whole_32 : decode prog_12_method_39_code 32 = .ok (.iaload, 1) := by decide +kernel
theorem d_Mo_whole_33 : decode prog_12_method_39_code 33 = .ok (.invokevirtual 115, 3) := by decide +kernel
theorem d_Mo_whole_36 : decode prog_12_method_39_code 36 = .ok (.iadd, 1) := by decide +kernel
theorem d_Mo_whole_37 : decode prog_12_method_39_code 37 = .ok (.istore_n 2, 1) := by decide +kernel
theorem d_Mo_whole_38 : decode prog_12_method_39_code 38 = .ok (.iload_n 2, 1) := by decide +kernel
theorem d_Mo_whole_39 : decode prog_12_method_39_code 39 = .ok (.aload_n 0, 1) := by decide +kernel
theorem d_Mo_whole_40 : decode prog_12_method_39_code 40 = .ok (.getfield 37, 3) := by decide +kernel
theorem d_Mo_whole_43 : decode prog_12_method_39_code 43 = .ok (.iload_n 1, 1) := by decide +kernel
theorem d_Mo_whole_44 : decode prog_12_method_39_code 44 = .ok (.iaload, 1) := by decide +kernel
theorem d_Mo_whole_45 : decode prog_12_method_39_code 45 = .ok (.if_icmp .gt 9, 3) := by decide +kernel
theorem d_Mo_whole_48 : decode prog_12_method_39_code 48 = .ok (.iload_n 3, 1) := by decide +kernel
theorem d_Mo_whole_49 : decode prog_12_method_39_code 49 = .ok (.iconst 1, 1) := by decide +kernel
theorem d_Mo_whole_50 : decode prog_12_method_39_code 50 = .ok (.iadd, 1) := by decide +kernel
theorem d_Mo_whole_51 : decode prog_12_method_39_code 51 = .ok (.goto 4, 3) := by decide +kernel
theorem d_Mo_whole_54 : decode prog_12_method_39_code 54 = .ok (.iload_n 3, 1) := by decide +kernel
theorem d_Mo_whole_55 : decode prog_12_method_39_code 55 = .ok (.istore_n 3, 1) := by decide +kernel
theorem d_Mo_whole_56 : decode prog_12_method_39_code 56 = .ok (.iinc 4 1, 3) := by decide +kernel
theorem d_Mo_whole_59 : decode prog_12_method_39_code 59 = .ok (.goto (-52), 3) := by decide +kernel
theorem d_Mo_whole_62 : decode prog_12_method_39_code 62 = .ok (.iload_n 3, 1) := by decide +kernel
theorem d_Mo_whole_63 : decode prog_12_method_39_code 63 = .ok (.ireturn, 1) := by decide +kernel
theorem d_Mo_findSlots_0 : decode prog_12_method_40_code 0 = .ok (.aload_n 0, 1) := by decide +kernel
theorem d_Mo_findSlots_1 : decode prog_12_method_40_code 1 = .ok (.iconst 0, 1) := by decide +kernel
theorem d_Mo_findSlots_2 : decode prog_12_method_40_code 2 = .ok (.putfield 135, 3) := by decide +kernel
theorem d_Mo_findSlots_5 : decode prog_12_method_40_code 5 = .ok (.aload_n 0, 1) := by decide +kernel
theorem d_Mo_findSlots_6 : decode prog_12_method_40_code 6 = .ok (.iconst (-1), 1) := by decide +kernel
theorem d_Mo_findSlots_7 : decode prog_12_method_40_code 7 = .ok (.putfield 53, 3) := by decide +kernel
theorem d_Mo_findSlots_10 : decode prog_12_method_40_code 10 = .ok (.aload_n 0, 1) := by decide +kernel
theorem d_Mo_findSlots_11 : decode prog_12_method_40_code 11 = .ok (.iconst 0, 1) := by decide +kernel
theorem d_Mo_findSlots_12 : decode prog_12_method_40_code 12 = .ok (.putfield 150, 3) := by decide +kernel
theorem d_Mo_findSlots_15 : decode prog_12_method_40_code 15 = .ok (.aload_n 0, 1) := by decide +kernel
theorem d_Mo_findSlots_16 : decode prog_12_method_40_code 16 = .ok (.iconst 0, 1) := by decide +kernel
theorem d_Mo_findSlots_17 : decode prog_12_method_40_code 17 = .ok (.putfield 143, 3) := by decide +kernel
theorem d_Mo_findSlots_20 : decode prog_12_method_40_code 20 = .ok (.iconst 0, 1) := by decide +kernel
theorem d_Mo_findSlots_21 : decode prog_12_method_40_code 21 = .ok (.istore_n 1, 1) := by decide +kernel
theorem d_Mo_findSlots_22 : decode prog_12_method_40_code 22 = .ok (.iload_n 1, 1) := by decide +kernel
theorem d_Mo_findSlots_23 : decode prog_12_method_40_code 23 = .ok (.iconst 2, 1) := by decide +kernel
theorem d_Mo_findSlots_24 : decode prog_12_method_40_code 24 = .ok (.if_icmp .ge 85, 3) := by decide +kernel
theorem d_Mo_findSlots_27 : decode prog_12_method_40_code 27 = .ok (.aload_n 0, 1) := by decide +kernel
theorem d_Mo_findSlots_28 : decode prog_12_method_40_code 28 = .ok (.iload_n 1, 1) := by decide +kernel
theorem d_Mo_findSlots_29 : decode prog_12_method_40_code 29 = .ok (.invokevirtual 210, 3) := by decide +kernel
theorem d_Mo_findSlots_32 : decode prog_12_method_40_code 32 = .ok (.ifCond .le 71, 3) := by decide +kernel
theorem d_Mo_findSlots_35 : decode prog_12_method_40_code 35 = .ok (.aload_n 0, 1) := by decide +kernel
theorem d_Mo_findSlots_36 : decode prog_12_method_40_code 36 = .ok (.getfield 13, 3) := by decide +kernel
theorem d_Mo_findSlots_39 : decode prog_12_method_40_code 39 = .ok (.aload_n 0, 1) := by decide +kernel
theorem d_Mo_findSlots_40 : decode prog_12_method_40_code 40 = .ok (.getfield 31, 3) := by decide +kernel
theorem d_Mo_findSlots_43 : decode prog_12_method_40_code 43 = .ok (.sipush 330, 3) := by decide +kernel
theorem d_Mo_findSlots_46 : decode prog_12_method_40_code 46 = .ok (.iload_n 1, 1) := by decide +kernel
theorem d_Mo_findSlots_47 : decode prog_12_method_40_code 47 = .ok (.imul, 1) := by decide +kernel
theorem d_Mo_findSlots_48 : decode prog_12_method_40_code 48 = .ok (.iaload, 1) := by decide +kernel
theorem d_Mo_findSlots_49 : decode prog_12_method_40_code 49 = .ok (.iaload, 1) := by decide +kernel
theorem d_Mo_findSlots_50 : decode prog_12_method_40_code 50 = .ok (.aload_n 0, 1) := by decide +kernel
theorem d_Mo_findSlots_51 : decode prog_12_method_40_code 51 = .ok (.getfield 150, 3) := by decide +kernel
theorem d_Mo_findSlots_54 : decode prog_12_method_40_code 54 = .ok (.if_icmp .le 49, 3) := by decide +kernel
theorem d_Mo_findSlots_57 : decode prog_12_method_40_code 57 = .ok (.aload_n 0, 1) := by decide +kernel
theorem d_Mo_findSlots_58 : decode prog_12_method_40_code 58 = .ok (.getfield 31, 3) := by decide +kernel
theorem d_Mo_findSlots_61 : decode prog_12_method_40_code 61 = .ok (.sipush 330, 3) := by decide +kernel
theorem d_Mo_findSlots_64 : decode prog_12_method_40_code 64 = .ok (.iload_n 1, 1) := by decide +kernel
theorem d_Mo_findSlots_65 : decode prog_12_method_40_code 65 = .ok (.imul, 1) := by decide +kernel
theorem d_Mo_findSlots_66 : decode prog_12_method_40_code 66 = .ok (.iaload, 1) := by decide +kernel
theorem d_Mo_findSlots_67 : decode prog_12_method_40_code 67 = .ok (.istore_n 2, 1) := by decide +kernel
theorem d_Mo_findSlots_68 : decode prog_12_method_40_code 68 = .ok (.aload_n 0, 1) := by decide +kernel
theorem d_Mo_findSlots_69 : decode prog_12_method_40_code 69 = .ok (.aload_n 0, 1) := by decide +kernel
theorem d_Mo_findSlots_70 : decode prog_12_method_40_code 70 = .ok (.getfield 13, 3) := by decide +kernel
theorem d_Mo_findSlots_73 : decode prog_12_method_40_code 73 = .ok (.iload_n 2, 1) := by decide +kernel
theorem d_Mo_findSlots_74 : decode prog_12_method_40_code 74 = .ok (.iaload, 1) := by decide +kernel
theorem d_Mo_findSlots_75 : decode prog_12_method_40_code 75 = .ok (.putfield 150, 3) := by decide +kernel
theorem d_Mo_findSlots_78 : decode prog_12_method_40_code 78 = .ok (.aload_n 0, 1) := by decide +kernel
theorem d_Mo_findSlots_79 : decode prog_12_method_40_code 79 = .ok (.aload_n 0, 1) := by decide +kernel
theorem d_Mo_findSlots_80 : decode prog_12_method_40_code 80 = .ok (.getfield 16, 3) := by decide +kernel
theorem d_Mo_findSlots_83 : decode prog_12_method_40_code 83 = .ok (.iload_n 2, 1) := by decide +kernel
theorem d_Mo_findSlots_84 : decode prog_12_method_40_code 84 = .ok (.iaload, 1) := by decide +kernel
theorem d_Mo_findSlots_85 : decode prog_12_method_40_code 85 = .ok (.putfield 135, 3) := by decide +kernel
theorem d_Mo_findSlots_88 : decode prog_12_method_40_code 88 = .ok (.aload_n 0, 1) := by decide +kernel
theorem d_Mo_findSlots_89 : decode prog_12_method_40_code 89 = .ok (.aload_n 0, 1) := by decide +kernel
theorem d_Mo_findSlots_90 : decode prog_12_method_40_code 90 = .ok (.getfield 19, 3) := by decide +kernel
theorem d_Mo_findSlots_93 : decode prog_12_method_40_code 93 = .ok (.iload_n 2, 1) := by decide +kernel
theorem d_Mo_findSlots_94 : decode prog_12_method_40_code 94 = .ok (.iaload, 1) := by decide +kernel
theorem d_Mo_findSlots_95 : decode prog_12_method_40_code 95 = .ok (.putfield 53, 3) := by decide +kernel
theorem d_Mo_findSlots_98 : decode prog_12_method_40_code 98 = .ok (.aload_n 0, 1) := by decide +kernel
theorem d_Mo_findSlots_99 : decode prog_12_method_40_code 99 = .ok (.iload_n 1, 1) := by decide +kernel
theorem d_Mo_findSlots_100 : decode prog_12_method_40_code 100 = .ok (.putfield 143, 3) := by decide +kernel
theorem d_Mo_findSlots_103 : decode prog_12_method_40_code 103 = .ok (.iinc 1 1, 3) := by decide +kernel
theorem d_Mo_findSlots_106 : decode prog_12_method_40_code 106 = .ok (.goto (-84), 3) := by decide +kernel
theorem d_Mo_findSlots_109 : decode prog_12_method_40_code 109 = .ok (.aload_n 0, 1) := by decide +kernel
theorem d_Mo_findSlots_110 : decode prog_12_method_40_code 110 = .ok (.iconst 0, 1) := by decide +kernel
theorem d_Mo_findSlots_111 : decode prog_12_method_40_code 111 = .ok (.putfield 139, 3) := by decide +kernel
theorem d_Mo_findSlots_114 : decode prog_12_method_40_code 114 = .ok (.return_, 1) := by decide +kernel
theorem d_Mo_findSnapshot_0 : decode prog_12_method_41_code 0 = .ok (.aload_n 0, 1) := by decide +kernel
theorem d_Mo_findSnapshot_1 : decode prog_12_method_41_code 1 = .ok (.iconst 0, 1) := by decide +kernel
theorem d_Mo_findSnapshot_2 : decode prog_12_method_41_code 2 = .ok (.putfield 163, 3) := by decide +kernel
theorem d_Mo_findSnapshot_5 : decode prog_12_method_41_code 5 = .ok (.aload_n 0, 1) := by decide +kernel
theorem d_Mo_findSnapshot_6 : decode prog_12_method_41_code 6 = .ok (.iconst 0, 1) := by decide +kernel
theorem d_Mo_findSnapshot_7 : decode prog_12_method_41_code 7 = .ok (.putfield 166, 3) := by decide +kernel
theorem d_Mo_findSnapshot_10 : decode prog_12_method_41_code 10 = .ok (.aload_n 0, 1) := by decide +kernel
theorem d_Mo_findSnapshot_11 : decode prog_12_method_41_code 11 = .ok (.aload_n 0, 1) := by decide +kernel
theorem d_Mo_findSnapshot_12 : decode prog_12_method_41_code 12 = .ok (.getfield 69, 3) := by decide +kernel
theorem d_Mo_findSnapshot_15 : decode prog_12_method_41_code 15 = .ok (.putfield 72, 3) := by decide +kernel
theorem d_Mo_findSnapshot_18 : decode prog_12_method_41_code 18 = .ok (.aload_n 0, 1) := by decide +kernel
theorem d_Mo_findSnapshot_19 : decode prog_12_method_41_code 19 = .ok (.iconst (-1), 1) := by decide +kernel
theorem d_Mo_findSnapshot_20 : decode prog_12_method_41_code 20 = .ok (.putfield 75, 3) := by decide +kernel
theorem d_Mo_findSnapshot_23 : decode prog_12_method_41_code 23 = .ok (.iconst 2, 1) := by decide +kernel
theorem d_Mo_findSnapshot_24 : decode prog_12_method_41_code 24 = .ok (.istore_n 1, 1) := by decide +kernel
theorem d_Mo_findSnapshot_25 : decode prog_12_method_41_code 25 = .ok (.iload_n 1, 1) := by decide +kernel
theorem d_Mo_findSnapshot_26 : decode prog_12_method_41_code 26 = .ok (.iconst 4, 1) := by decide +kernel
theorem d_Mo_findSnapshot_27 : decode prog_12_method_41_code 27 = .ok (.if_icmp .ge 85, 3) := by decide +kernel
theorem d_Mo_findSnapshot_30 : decode prog_12_method_41_code 30 = .ok (.aload_n 0, 1) := by decide +kernel
theorem d_Mo_findSnapshot_31 : decode prog_12_method_41_code 31 = .ok (.iload_n 1, 1) := by decide +kernel
theorem d_Mo_findSnapshot_32 : decode prog_12_method_41_code 32 = .ok (.invokevirtual 210, 3) := by decide +kernel
theorem d_Mo_findSnapshot_35 : decode prog_12_method_41_code 35 = .ok (.ifCond .le 71, 3) := by decide +kernel
theorem d_Mo_findSnapshot_38 : decode prog_12_method_41_code 38 = .ok (.aload_n 0, 1) := by decide +kernel
theorem d_Mo_findSnapshot_39 : decode prog_12_method_41_code 39 = .ok (.getfield 13, 3) := by decide +kernel
theorem d_Mo_findSnapshot_42 : decode prog_12_method_41_code 42 = .ok (.aload_n 0, 1) := by decide +kernel
theorem d_Mo_findSnapshot_43 : decode prog_12_method_41_code 43 = .ok (.getfield 31, 3) := by decide +kernel
theorem d_Mo_findSnapshot_46 : decode prog_12_method_41_code 46 = .ok (.sipush 330, 3) := by decide +kernel
theorem d_Mo_findSnapshot_49 : decode prog_12_method_41_code 49 = .ok (.iload_n 1, 1) := by decide +kernel
theorem d_Mo_findSnapshot_50 : decode prog_12_method_41_code 50 = .ok (.imul, 1) := by decide +kernel
theorem d_Mo_findSnapshot_51 : decode prog_12_method_41_code 51 = .ok (.iaload, 1) := by decide +kernel
theorem d_Mo_findSnapshot_52 : decode prog_12_method_41_code 52 = .ok (.iaload, 1) := by decide +kernel
theorem d_Mo_findSnapshot_53 : decode prog_12_method_41_code 53 = .ok (.aload_n 0, 1) := by decide +kernel
theorem d_Mo_findSnapshot_54 : decode prog_12_method_41_code 54 = .ok (.getfield 163, 3) := by decide +kernel
theorem d_Mo_findSnapshot_57 : decode prog_12_method_41_code 57 = .ok (.if_icmp .le 49, 3) := by decide +kernel
theorem d_Mo_findSnapshot_60 : decode prog_12_method_41_code 60 = .ok (.aload_n 0, 1) := by decide +kernel
theorem d_Mo_findSnapshot_61 : decode prog_12_method_41_code 61 = .ok (.getfield 31, 3) := by decide +kernel
theorem d_Mo_findSnapshot_64 : decode prog_12_method_41_code 64 = .ok (.sipush 330, 3) := by decide +kernel
theorem d_Mo_findSnapshot_67 : decode prog_12_method_41_code 67 = .ok (.iload_n 1, 1) := by decide +kernel
theorem d_Mo_findSnapshot_68 : decode prog_12_method_41_code 68 = .ok (.imul, 1) := by decide +kernel
theorem d_Mo_findSnapshot_69 : decode prog_12_method_41_code 69 = .ok (.iaload, 1) := by decide +kernel
theorem d_Mo_findSnapshot_70 : decode prog_12_method_41_code 70 = .ok (.istore_n 2, 1) := by decide +kernel
theorem d_Mo_findSnapshot_71 : decode prog_12_method_41_code 71 = .ok (.aload_n 0, 1) := by decide +kernel
theorem d_Mo_findSnapshot_72 : decode prog_12_method_41_code 72 = .ok (.aload_n 0, 1) := by decide +kernel
theorem d_Mo_findSnapshot_73 : decode prog_12_method_41_code 73 = .ok (.getfield 13, 3) := by decide +kernel
theorem d_Mo_findSnapshot_76 : decode prog_12_method_41_code 76 = .ok (.iload_n 2, 1) := by decide +kernel
theorem d_Mo_findSnapshot_77 : decode prog_12_method_41_code 77 = .ok (.iaload, 1) := by decide +kernel
theorem d_Mo_findSnapshot_78 : decode prog_12_method_41_code 78 = .ok (.putfield 163, 3) := by decide +kernel
theorem d_Mo_findSnapshot_81 : decode prog_12_method_41_code 81 = .ok (.aload_n 0, 1) := by decide +kernel
theorem d_Mo_findSnapshot_82 : decode prog_12_method_41_code 82 = .ok (.aload_n 0, 1) := by decide +kernel
theorem d_Mo_findSnapshot_83 : decode prog_12_method_41_code 83 = .ok (.getfield 16, 3) := by decide +kernel
theorem d_Mo_findSnapshot_86 : decode prog_12_method_41_code 86 = .ok (.iload_n 2, 1) := by decide +kernel
theorem d_Mo_findSnapshot_87 : decode prog_12_method_41_code 87 = .ok (.iaload, 1) := by decide +kernel
theorem d_Mo_findSnapshot_88 : decode prog_12_method_41_code 88 = .ok (.putfield 166, 3) := by decide +kernel
theorem d_Mo_findSnapshot_91 : decode prog_12_method_41_code 91 = .ok (.aload_n 0, 1) := by decide +kernel
theorem d_Mo_findSnapshot_92 : decode prog_12_method_41_code 92 = .ok (.aload_n 0, 1) := by decide +kernel
theorem d_Mo_findSnapshot_93 : decode prog_12_method_41_code 93 = .ok (.getfield 19, 3) := by decide +kernel
theorem d_Mo_findSnapshot_96 : decode prog_12_method_41_code 96 = .ok (.iload_n 2, 1) := by decide +kernel
theorem d_Mo_findSnapshot_97 : decode prog_12_method_41_code 97 = .ok (.iaload, 1) := by decide +kernel
theorem d_Mo_findSnapshot_98 : decode prog_12_method_41_code 98 = .ok (.putfield 72, 3) := by decide +kernel
theorem d_Mo_findSnapshot_101 : decode prog_12_method_41_code 101 = .ok (.aload_n 0, 1) := by decide +kernel
theorem d_Mo_findSnapshot_102 : decode prog_12_method_41_code 102 = .ok (.iload_n 1, 1) := by decide +kernel
theorem d_Mo_findSnapshot_103 : decode prog_12_method_41_code 103 = .ok (.putfield 75, 3) := by decide +kernel
theorem d_Mo_findSnapshot_106 : decode prog_12_method_41_code 106 = .ok (.iinc 1 1, 3) := by decide +kernel
theorem d_Mo_findSnapshot_109 : decode prog_12_method_41_code 109 = .ok (.goto (-84), 3) := by decide +kernel
theorem d_Mo_findSnapshot_112 : decode prog_12_method_41_code 112 = .ok (.return_, 1) := by decide +kernel
theorem d_Mo_firstSegment_0 : decode prog_12_method_42_code 0 = .ok (.iconst (-1), 1) := by decide +kernel
theorem d_Mo_firstSegment_1 : decode prog_12_method_42_code 1 = .ok (.istore_n 1, 1) := by decide +kernel
theorem d_Mo_firstSegment_2 : decode prog_12_method_42_code 2 = .ok (.iconst 4, 1) := by decide +kernel
theorem d_Mo_firstSegment_3 : decode prog_12_method_42_code 3 = .ok (.istore_n 2, 1) := by decide +kernel
theorem d_Mo_firstSegment_4 : decode prog_12_method_42_code 4 = .ok (.iload_n 2, 1) := by decide +kernel
theorem d_Mo_firstSegment_5 : decode prog_12_method_42_code 5 = .ok (.bipush 16, 2) := by decide +kernel
theorem d_Mo_firstSegment_7 : decode prog_12_method_42_code 7 = .ok (.if_icmp .ge 50, 3) := by decide +kernel
