theorem d_Mo_init_0 : decode prog_12_method_1_code 0 = .ok (.aload_n 0, 1) := by decide +kernel
theorem d_Mo_init_1 : decode prog_12_method_1_code 1 = .ok (.invokespecial 1, 3) := by decide +kernel
theorem d_Mo_init_4 : decode prog_12_method_1_code 4 = .ok (.aload_n 0, 1) := by decide +kernel
theorem d_Mo_init_5 : decode prog_12_method_1_code 5 = .ok (.sipush 2200, 3) := by decide +kernel
theorem d_Mo_init_8 : decode prog_12_method_1_code 8 = .ok (.newarray .int, 2) := by decide +kernel
theorem d_Mo_init_10 : decode prog_12_method_1_code 10 = .ok (.putfield 7, 3) := by decide +kernel
theorem d_Mo_init_13 : decode prog_12_method_1_code 13 = .ok (.aload_n 0, 1) := by decide +kernel
theorem d_Mo_init_14 : decode prog_12_method_1_code 14 = .ok (.sipush 2200, 3) := by decide +kernel
theorem d_Mo_init_17 : decode prog_12_method_1_code 17 = .ok (.newarray .int, 2) := by decide +kernel
theorem d_Mo_init_19 : decode prog_12_method_1_code 19 = .ok (.putfield 13, 3) := by decide +kernel
theorem d_Mo_init_22 : decode prog_12_method_1_code 22 = .ok (.aload_n 0, 1) := by decide +kernel
theorem d_Mo_init_23 : decode prog_12_method_1_code 23 = .ok (.sipush 2200, 3) := by decide +kernel
theorem d_Mo_init_26 : decode prog_12_method_1_code 26 = .ok (.newarray .int, 2) := by decide +kernel
theorem d_Mo_init_28 : decode prog_12_method_1_code 28 = .ok (.putfield 16, 3) := by decide +kernel
theorem d_Mo_init_31 : decode prog_12_method_1_code 31 = .ok (.aload_n 0, 1) := by decide +kernel
theorem d_Mo_init_32 : decode prog_12_method_1_code 32 = .ok (.sipush 2200, 3) := by decide +kernel
theorem d_Mo_init_35 : decode prog_12_method_1_code 35 = .ok (.newarray .int, 2) := by decide +kernel
theorem d_Mo_init_37 : decode prog_12_method_1_code 37 = .ok (.putfield 19, 3) := by decide +kernel
theorem d_Mo_init_40 : decode prog_12_method_1_code 40 = .ok (.aload_n 0, 1) := by decide +kernel
theorem d_Mo_init_41 : decode prog_12_method_1_code 41 = .ok (.sipush 2200, 3) := by decide +kernel
theorem d_Mo_init_44 : decode prog_12_method_1_code 44 = .ok (.newarray .int, 2) := by decide +kernel
theorem d_Mo_init_46 : decode prog_12_method_1_code 46 = .ok (.putfield 22, 3) := by decide +kernel
theorem d_Mo_init_49 : decode prog_12_method_1_code 49 = .ok (.aload_n 0, 1) := by decide +kernel
theorem d_Mo_init_50 : decode prog_12_method_1_code 50 = .ok (.sipush 2200, 3) := by decide +kernel
theorem d_Mo_init_53 : decode prog_12_method_1_code 53 = .ok (.newarray .int, 2) := by decide +kernel
theorem d_Mo_init_55 : decode prog_12_method_1_code 55 = .ok (.putfield 25, 3) := by decide +kernel
theorem d_Mo_init_58 : decode prog_12_method_1_code 58 = .ok (.aload_n 0, 1) := by decide +kernel
theorem d_Mo_init_59 : decode prog_12_method_1_code 59 = .ok (.sipush 4200, 3) := by decide +kernel
theorem d_Mo_init_62 : decode prog_12_method_1_code 62 = .ok (.newarray .int, 2) := by decide +kernel
theorem d_Mo_init_64 : decode prog_12_method_1_code 64 = .ok (.putfield 28, 3) := by decide +kernel
theorem d_Mo_init_67 : decode prog_12_method_1_code 67 = .ok (.aload_n 0, 1) := by decide +kernel
theorem d_Mo_init_68 : decode prog_12_method_1_code 68 = .ok (.sipush 10560, 3) := by decide +kernel
theorem d_Mo_init_71 : decode prog_12_method_1_code 71 = .ok (.newarray .int, 2) := by decide +kernel
theorem d_Mo_init_73 : decode prog_12_method_1_code 73 = .ok (.putfield 31, 3) := by decide +kernel
theorem d_Mo_init_76 : decode prog_12_method_1_code 76 = .ok (.aload_n 0, 1) := by decide +kernel
theorem d_Mo_init_77 : decode prog_12_method_1_code 77 = .ok (.bipush 32, 2) := by decide +kernel
theorem d_Mo_init_79 : decode prog_12_method_1_code 79 = .ok (.newarray .int, 2) := by decide +kernel
theorem d_Mo_init_81 : decode prog_12_method_1_code 81 = .ok (.putfield 34, 3) := by decide +kernel
theorem d_Mo_init_84 : decode prog_12_method_1_code 84 = .ok (.aload_n 0, 1) := by decide +kernel
theorem d_Mo_init_85 : decode prog_12_method_1_code 85 = .ok (.bipush 32, 2) := by decide +kernel
theorem d_Mo_init_87 : decode prog_12_method_1_code 87 = .ok (.newarray .int, 2) := by decide +kernel
theorem d_Mo_init_89 : decode prog_12_method_1_code 89 = .ok (.putfield 37, 3) := by decide +kernel
theorem d_Mo_init_92 : decode prog_12_method_1_code 92 = .ok (.aload_n 0, 1) := by decide +kernel
theorem d_Mo_init_93 : decode prog_12_method_1_code 93 = .ok (.bipush 32, 2) := by decide +kernel
theorem d_Mo_init_95 : decode prog_12_method_1_code 95 = .ok (.newarray .boolean, 2) := by decide +kernel
theorem d_Mo_init_97 : decode prog_12_method_1_code 97 = .ok (.putfield 40, 3) := by decide +kernel
theorem d_Mo_init_100 : decode prog_12_method_1_code 100 = .ok (.aload_n 0, 1) := by decide +kernel
theorem d_Mo_init_101 : decode prog_12_method_1_code 101 = .ok (.bipush 16, 2) := by decide +kernel
theorem d_Mo_init_103 : decode prog_12_method_1_code 103 = .ok (.newarray .int, 2) := by decide +kernel
theorem d_Mo_init_105 : decode prog_12_method_1_code 105 = .ok (.putfield 44, 3) := by decide +kernel
theorem d_Mo_init_108 : decode prog_12_method_1_code 108 = .ok (.aload_n 0, 1) := by decide +kernel
theorem d_Mo_init_109 : decode prog_12_method_1_code 109 = .ok (.bipush 16, 2) := by decide +kernel
theorem d_Mo_init_111 : decode prog_12_method_1_code 111 = .ok (.newarray .int, 2) := by decide +kernel
theorem d_Mo_init_113 : decode prog_12_method_1_code 113 = .ok (.putfield 47, 3) := by decide +kernel
theorem d_Mo_init_116 : decode prog_12_method_1_code 116 = .ok (.aload_n 0, 1) := by decide +kernel
theorem d_Mo_init_117 : decode prog_12_method_1_code 117 = .ok (.bipush 16, 2) := by decide +kernel
theorem d_Mo_init_119 : decode prog_12_method_1_code 119 = .ok (.newarray .int, 2) := by decide +kernel
theorem d_Mo_init_121 : decode prog_12_method_1_code 121 = .ok (.putfield 50, 3) := by decide +kernel
theorem d_Mo_init_124 : decode prog_12_method_1_code 124 = .ok (.aload_n 0, 1) := by decide +kernel
theorem d_Mo_init_125 : decode prog_12_method_1_code 125 = .ok (.iconst (-1), 1) := by decide +kernel
theorem d_Mo_init_126 : decode prog_12_method_1_code 126 = .ok (.putfield 53, 3) := by decide +kernel
theorem d_Mo_init_129 : decode prog_12_method_1_code 129 = .ok (.aload_n 0, 1) := by decide +kernel
theorem d_Mo_init_130 : decode prog_12_method_1_code 130 = .ok (.bipush 12, 2) := by decide +kernel
theorem d_Mo_init_132 : decode prog_12_method_1_code 132 = .ok (.newarray .int, 2) := by decide +kernel
theorem d_Mo_init_134 : decode prog_12_method_1_code 134 = .ok (.putfield 57, 3) := by decide +kernel
theorem d_Mo_init_137 : decode prog_12_method_1_code 137 = .ok (.aload_n 0, 1) := by decide +kernel
theorem d_Mo_init_138 : decode prog_12_method_1_code 138 = .ok (.sipush 301, 3) := by decide +kernel
theorem d_Mo_init_141 : decode prog_12_method_1_code 141 = .ok (.newarray .int, 2) := by decide +kernel
theorem d_Mo_init_143 : decode prog_12_method_1_code 143 = .ok (.putfield 60, 3) := by decide +kernel
theorem d_Mo_init_146 : decode prog_12_method_1_code 146 = .ok (.aload_n 0, 1) := by decide +kernel
theorem d_Mo_init_147 : decode prog_12_method_1_code 147 = .ok (.sipush 4096, 3) := by decide +kernel
theorem d_Mo_init_150 : decode prog_12_method_1_code 150 = .ok (.newarray .int, 2) := by decide +kernel
theorem d_Mo_init_152 : decode prog_12_method_1_code 152 = .ok (.putfield 63, 3) := by decide +kernel
theorem d_Mo_init_155 : decode prog_12_method_1_code 155 = .ok (.aload_n 0, 1) := by decide +kernel
theorem d_Mo_init_156 : decode prog_12_method_1_code 156 = .ok (.iload_n 1, 1) := by decide +kernel
theorem d_Mo_init_157 : decode prog_12_method_1_code 157 = .ok (.bipush 8, 2) := by decide +kernel
theorem d_Mo_init_159 : decode prog_12_method_1_code 159 = .ok (.if_icmp .ge 8, 3) := by decide +kernel
theorem d_Mo_init_162 : decode prog_12_method_1_code 162 = .ok (.bipush 8, 2) := by decide +kernel
theorem d_Mo_init_164 : decode prog_12_method_1_code 164 = .ok (.goto 17, 3) := by decide +kernel
theorem d_Mo_init_167 : decode prog_12_method_1_code 167 = .ok (.iload_n 1, 1) := by decide +kernel
theorem d_Mo_init_168 : decode prog_12_method_1_code 168 = .ok (.sipush 1024, 3) := by decide +kernel
theorem d_Mo_init_171 : decode prog_12_method_1_code 171 = .ok (.if_icmp .le 9, 3) := by decide +kernel
theorem d_Mo_init_174 : decode prog_12_method_1_code 174 = .ok (.sipush 1024, 3) := by decide +kernel
theorem d_Mo_init_177 : decode prog_12_method_1_code 177 = .ok (.goto 4, 3) := by decide +kernel
theorem d_Mo_init_180 : decode prog_12_method_1_code 180 = .ok (.iload_n 1, 1) := by decide +kernel
theorem d_Mo_init_181 : decode prog_12_method_1_code 181 = .ok (.putfield 66, 3) := by decide +kernel
theorem d_Mo_init_184 : decode prog_12_method_1_code 184 = .ok (.aload_n 0, 1) := by decide +kernel
theorem d_Mo_init_185 : decode prog_12_method_1_code 185 = .ok (.iload_n 2, 1) := by decide +kernel
theorem d_Mo_init_186 : decode prog_12_method_1_code 186 = .ok (.putfield 69, 3) := by decide +kernel
theorem d_Mo_init_189 : decode prog_12_method_1_code 189 = .ok (.aload_n 0, 1) := by decide +kernel
theorem d_Mo_init_190 : decode prog_12_method_1_code 190 = .ok (.iload_n 2, 1) := by decide +kernel
theorem d_Mo_init_191 : decode prog_12_method_1_code 191 = .ok (.putfield 72, 3) := by decide +kernel
theorem d_Mo_init_194 : decode prog_12_method_1_code 194 = .ok (.aload_n 0, 1) := by decide +kernel
theorem d_Mo_init_195 : decode prog_12_method_1_code 195 = .ok (.iconst (-1), 1) := by decide +kernel
theorem d_Mo_init_196 : decode prog_12_method_1_code 196 = .ok (.putfield 75, 3) := by decide +kernel
theorem d_Mo_init_199 : decode prog_12_method_1_code 199 = .ok (.iconst 0, 1) := by decide +kernel
theorem d_Mo_init_200 : decode prog_12_method_1_code 200 = .ok (.istore_n 3, 1) := by decide +kernel
theorem d_Mo_init_201 : decode prog_12_method_1_code 201 = .ok (.iload_n 3, 1) := by decide +kernel
theorem d_Mo_init_202 : decode prog_12_method_1_code 202 = .ok (.bipush 16, 2) := by decide +kernel
theorem d_Mo_init_204 : decode prog_12_method_1_code 204 = .ok (.if_icmp .ge 16, 3) := by decide +kernel
theorem d_Mo_init_207 : decode prog_12_method_1_code 207 = .ok (.aload_n 0, 1) := by decide +kernel
theorem d_Mo_init_208 : decode prog_12_method_1_code 208 = .ok (.getfield 50, 3) := by decide +kernel
theorem d_Mo_init_211 : decode prog_12_method_1_code 211 = .ok (.iload_n 3, 1) := by decide +kernel
theorem d_Mo_init_212 : decode prog_12_method_1_code 212 = .ok (.iconst (-1), 1) := by decide +kernel
theorem d_Mo_init_213 : decode prog_12_method_1_code 213 = .ok (.iastore, 1) := by decide +kernel
theorem d_Mo_init_214 : decode prog_12_method_1_code 214 = .ok (.iinc 3 1, 3) := by decide +kernel
theorem d_Mo_init_217 : decode prog_12_method_1_code 217 = .ok (.goto (-16), 3) := by decide +kernel
theorem d_Mo_init_220 : decode prog_12_method_1_code 220 = .ok (.return_, 1) := by decide +kernel
theorem d_Mo_thrown_0 : decode prog_12_method_2_code 0 = .ok (.aload_n 0, 1) := by decide +kernel
theorem d_Mo_thrown_1 : decode prog_12_method_2_code 1 = .ok (.getfield 78, 3) := by decide +kernel
theorem d_Mo_thrown_4 : decode prog_12_method_2_code 4 = .ok (.ireturn, 1) := by decide +kernel
theorem d_Mo_fail_0 : decode prog_12_method_3_code 0 = .ok (.aload_n 0, 1) := by decide +kernel
theorem d_Mo_fail_1 : decode prog_12_method_3_code 1 = .ok (.iload_n 1, 1) := by decide +kernel
theorem d_Mo_fail_2 : decode prog_12_method_3_code 2 = .ok (.putfield 78, 3) := by decide +kernel
theorem d_Mo_fail_5 : decode prog_12_method_3_code 5 = .ok (.iconst 0, 1) := by decide +kernel
theorem d_Mo_fail_6 : decode prog_12_method_3_code 6 = .ok (.ireturn, 1) := by decide +kernel
theorem d_Mo_within_0 : decode prog_12_method_4_code 0 = .ok (.iload_n 0, 1) := by decide +kernel
theorem d_Mo_within_1 : decode prog_12_method_4_code 1 = .ok (.iload_n 1, 1) := by decide +kernel
theorem d_Mo_within_2 : decode prog_12_method_4_code 2 = .ok (.if_icmp .lt 12, 3) := by decide +kernel
theorem d_Mo_within_5 : decode prog_12_method_4_code 5 = .ok (.iload_n 0, 1) := by decide +kernel
theorem d_Mo_within_6 : decode prog_12_method_4_code 6 = .ok (.iload_n 2, 1) := by decide +kernel
theorem d_Mo_within_7 : decode prog_12_method_4_code 7 = .ok (.if_icmp .gt 7, 3) := by decide +kernel
theorem d_Mo_within_10 : decode prog_12_method_4_code 10 = .ok (.iconst 1, 1) := by decide +kernel
theorem d_Mo_within_11 : decode prog_12_method_4_code 11 = .ok (.goto 4, 3) := by decide +kernel
theorem d_Mo_within_14 : decode prog_12_method_4_code 14 = .ok (.iconst 0, 1) := by decide +kernel
theorem d_Mo_within_15 : decode prog_12_method_4_code 15 = .ok (.ireturn, 1) := by decide +kernel
theorem d_Mo_make_0 : decode prog_12_method_5_code 0 = .ok (.aload_n 0, 1) := by decide +kernel
theorem d_Mo_make_1 : decode prog_12_method_5_code 1 = .ok (.getfield 81, 3) := by decide +kernel
theorem d_Mo_make_4 : decode prog_12_method_5_code 4 = .ok (.istore 5, 2) := by decide +kernel
theorem d_Mo_make_6 : decode prog_12_method_5_code 6 = .ok (.aload_n 0, 1) := by decide +kernel
theorem d_Mo_make_7 : decode prog_12_method_5_code 7 = .ok (.getfield 7, 3) := by decide +kernel
theorem d_Mo_make_10 : decode prog_12_method_5_code 10 = .ok (.iload 5, 2) := by decide +kernel
theorem d_Mo_make_12 : decode prog_12_method_5_code 12 = .ok (.iload_n 1, 1) := by decide +kernel
theorem d_Mo_make_13 : decode prog_12_method_5_code 13 = .ok (.iastore, 1) := by decide +kernel
theorem d_Mo_make_14 : decode prog_12_method_5_code 14 = .ok (.aload_n 0, 1) := by decide +kernel
theorem d_Mo_make_15 : decode prog_12_method_5_code 15 = .ok (.getfield 13, 3) := by decide +kernel
theorem d_Mo_make_18 : decode prog_12_method_5_code 18 = .ok (.iload 5, 2) := by decide +kernel
theorem d_Mo_make_20 : decode prog_12_method_5_code 20 = .ok (.iload_n 2, 1) := by decide +kernel
theorem d_Mo_make_21 : decode prog_12_method_5_code 21 = .ok (.iastore, 1) := by decide +kernel
theorem d_Mo_make_22 : decode prog_12_method_5_code 22 = .ok (.aload_n 0, 1) := by decide +kernel
theorem d_Mo_make_23 : decode prog_12_method_5_code 23 = .ok (.getfield 16, 3) := by decide +kernel
theorem d_Mo_make_26 : decode prog_12_method_5_code 26 = .ok (.iload 5, 2) := by decide +kernel
theorem d_Mo_make_28 : decode prog_12_method_5_code 28 = .ok (.iload_n 3, 1) := by decide +kernel
theorem d_Mo_make_29 : decode prog_12_method_5_code 29 = .ok (.iastore, 1) := by decide +kernel
theorem d_Mo_make_30 : decode prog_12_method_5_code 30 = .ok (.aload_n 0, 1) := by decide +kernel
theorem d_Mo_make_31 : decode prog_12_method_5_code 31 = .ok (.getfield 19, 3) := by decide +kernel
theorem d_Mo_make_34 : decode prog_12_method_5_code 34 = .ok (.iload 5, 2) := by decide +kernel
theorem d_Mo_make_36 : decode prog_12_method_5_code 36 = .ok (.iload 4, 2) := by decide +kernel
theorem d_Mo_make_38 : decode prog_12_method_5_code 38 = .ok (.iastore, 1) := by decide +kernel
theorem d_Mo_make_39 : decode prog_12_method_5_code 39 = .ok (.aload_n 0, 1) := by decide +kernel
theorem d_Mo_make_40 : decode prog_12_method_5_code 40 = .ok (.getfield 22, 3) := by decide +kernel
theorem d_Mo_make_43 : decode prog_12_method_5_code 43 = .ok (.iload 5, 2) := by decide +kernel
theorem d_Mo_make_45 : decode prog_12_method_5_code 45 = .ok (.aload_n 0, 1) := by decide +kernel
theorem d_Mo_make_46 : decode prog_12_method_5_code 46 = .ok (.getfield 84, 3) := by decide +kernel
theorem d_Mo_make_49 : decode prog_12_method_5_code 49 = .ok (.iastore, 1) := by decide +kernel
theorem d_Mo_make_50 : decode prog_12_method_5_code 50 = .ok (.aload_n 0, 1) := by decide +kernel
theorem d_Mo_make_51 : decode prog_12_method_5_code 51 = .ok (.getfield 25, 3) := by decide +kernel
theorem d_Mo_make_54 : decode prog_12_method_5_code 54 = .ok (.iload 5, 2) := by decide +kernel
theorem d_Mo_make_56 : decode prog_12_method_5_code 56 = .ok (.iconst 0, 1) := by decide +kernel
theorem d_Mo_make_57 : decode prog_12_method_5_code 57 = .ok (.iastore, 1) := by decide +kernel
theorem d_Mo_make_58 : decode prog_12_method_5_code 58 = .ok (.aload_n 0, 1) := by decide +kernel
theorem d_Mo_make_59 : decode prog_12_method_5_code 59 = .ok (.dup, 1) := by decide +kernel
theorem d_Mo_make_60 : decode prog_12_method_5_code 60 = .ok (.getfield 81, 3) := by decide +kernel
theorem d_Mo_make_63 : decode prog_12_method_5_code 63 = .ok (.iconst 1, 1) := by decide +kernel
theorem d_Mo_make_64 : decode prog_12_method_5_code 64 = .ok (.iadd, 1) := by decide +kernel
theorem d_Mo_make_65 : decode prog_12_method_5_code 65 = .ok (.putfield 81, 3) := by decide +kernel
theorem d_Mo_make_68 : decode prog_12_method_5_code 68 = .ok (.iload 5, 2) := by decide +kernel
theorem d_Mo_make_70 : decode prog_12_method_5_code 70 = .ok (.ireturn, 1) := by decide +kernel
theorem d_Mo_fill_0 : decode prog_12_method_6_code 0 = .ok (.aload_n 0, 1) := by decide +kernel
theorem d_Mo_fill_1 : decode prog_12_method_6_code 1 = .ok (.getfield 25, 3) := by decide +kernel
theorem d_Mo_fill_4 : decode prog_12_method_6_code 4 = .ok (.iload_n 1, 1) := by decide +kernel
theorem d_Mo_fill_5 : decode prog_12_method_6_code 5 = .ok (.iload_n 2, 1) := by decide +kernel
theorem d_Mo_fill_6 : decode prog_12_method_6_code 6 = .ok (.iastore, 1) := by decide +kernel
theorem d_Mo_fill_7 : decode prog_12_method_6_code 7 = .ok (.iconst 0, 1) := by decide +kernel
theorem d_Mo_fill_8 : decode prog_12_method_6_code 8 = .ok (.istore_n 3, 1) := by decide +kernel
theorem d_Mo_fill_9 : decode prog_12_method_6_code 9 = .ok (.iload_n 3, 1) := by decide +kernel
theorem d_Mo_fill_10 : decode prog_12_method_6_code 10 = .ok (.iload_n 2, 1) := by decide +kernel
theorem d_Mo_fill_11 : decode prog_12_method_6_code 11 = .ok (.if_icmp .ge 26, 3) := by decide +kernel
theorem d_Mo_fill_14 : decode prog_12_method_6_code 14 = .ok (.aload_n 0, 1) := by decide +kernel
theorem d_Mo_fill_15 : decode prog_12_method_6_code 15 = .ok (.getfield 28, 3) := by decide +kernel
theorem d_Mo_fill_18 : decode prog_12_method_6_code 18 = .ok (.aload_n 0, 1) := by decide +kernel
theorem d_Mo_fill_19 : decode prog_12_method_6_code 19 = .ok (.getfield 84, 3) := by decide +kernel
theorem d_Mo_fill_22 : decode prog_12_method_6_code 22 = .ok (.iload_n 3, 1) := by decide +kernel
theorem d_Mo_fill_23 : decode prog_12_method_6_code 23 = .ok (.iadd, 1) := by decide +kernel
theorem d_Mo_fill_24 : decode prog_12_method_6_code 24 = .ok (.aload_n 0, 1) := by decide +kernel
theorem d_Mo_fill_25 : decode prog_12_method_6_code 25 = .ok (.getfield 63, 3) := by decide +kernel
theorem d_Mo_fill_28 : decode prog_12_method_6_code 28 = .ok (.iload_n 3, 1) := by decide +kernel
theorem d_Mo_fill_29 : decode prog_12_method_6_code 29 = .ok (.iaload, 1) := by decide +kernel
theorem d_Mo_fill_30 : decode prog_12_method_6_code 30 = .ok (.iastore, 1) := by decide +kernel
theorem d_Mo_fill_31 : decode prog_12_method_6_code 31 = .ok (.iinc 3 1, 3) := by decide +kernel
theorem d_Mo_fill_34 : decode prog_12_method_6_code 34 = .ok (.goto (-25), 3) := by decide +kernel
theorem d_Mo_fill_37 : decode prog_12_method_6_code 37 = .ok (.aload_n 0, 1) := by decide +kernel
theorem d_Mo_fill_38 : decode prog_12_method_6_code 38 = .ok (.dup, 1) := by decide +kernel
theorem d_Mo_fill_39 : decode prog_12_method_6_code 39 = .ok (.getfield 84, 3) := by decide +kernel
theorem d_Mo_fill_42 : decode prog_12_method_6_code 42 = .ok (.iload_n 2, 1) := by decide +kernel
theorem d_Mo_fill_43 : decode prog_12_method_6_code 43 = .ok (.iadd, 1) := by decide +kernel
theorem d_Mo_fill_44 : decode prog_12_method_6_code 44 = .ok (.putfield 84, 3) := by decide +kernel
theorem d_Mo_fill_47 : decode prog_12_method_6_code 47 = .ok (.return_, 1) := by decide +kernel
theorem d_Mo_payload_0 : decode prog_12_method_7_code 0 = .ok (.aload_n 0, 1) := by decide +kernel
theorem d_Mo_payload_1 : decode prog_12_method_7_code 1 = .ok (.getfield 7, 3) := by decide +kernel
theorem d_Mo_payload_4 : decode prog_12_method_7_code 4 = .ok (.iload_n 1, 1) := by decide +kernel
theorem d_Mo_payload_5 : decode prog_12_method_7_code 5 = .ok (.iaload, 1) := by decide +kernel
theorem d_Mo_payload_6 : decode prog_12_method_7_code 6 = .ok (.ifCond .ne 8, 3) := by decide +kernel
theorem d_Mo_payload_9 : decode prog_12_method_7_code 9 = .ok (.bipush 24, 2) := by decide +kernel
theorem d_Mo_payload_11 : decode prog_12_method_7_code 11 = .ok (.goto 42, 3) := by decide +kernel
theorem d_Mo_payload_14 : decode prog_12_method_7_code 14 = .ok (.aload_n 0, 1) := by decide +kernel
theorem d_Mo_payload_15 : decode prog_12_method_7_code 15 = .ok (.getfield 7, 3) := by decide +kernel
theorem d_Mo_payload_18 : decode prog_12_method_7_code 18 = .ok (.iload_n 1, 1) := by decide +kernel
theorem d_Mo_payload_19 : decode prog_12_method_7_code 19 = .ok (.iaload, 1) := by decide +kernel
theorem d_Mo_payload_20 : decode prog_12_method_7_code 20 = .ok (.iconst 1, 1) := by decide +kernel
theorem d_Mo_payload_21 : decode prog_12_method_7_code 21 = .ok (.if_icmp .ne 8, 3) := by decide +kernel
theorem d_Mo_payload_24 : decode prog_12_method_7_code 24 = .ok (.bipush 12, 2) := by decide +kernel
theorem d_Mo_payload_26 : decode prog_12_method_7_code 26 = .ok (.goto 27, 3) := by decide +kernel
theorem d_Mo_payload_29 : decode prog_12_method_7_code 29 = .ok (.aload_n 0, 1) := by decide +kernel
theorem d_Mo_payload_30 : decode prog_12_method_7_code 30 = .ok (.getfield 7, 3) := by decide +kernel
theorem d_Mo_payload_33 : decode prog_12_method_7_code 33 = .ok (.iload_n 1, 1) := by decide +kernel
theorem d_Mo_payload_34 : decode prog_12_method_7_code 34 = .ok (.iaload, 1) := by decide +kernel
theorem d_Mo_payload_35 : decode prog_12_method_7_code 35 = .ok (.iconst 2, 1) := by decide +kernel
theorem d_Mo_payload_36 : decode prog_12_method_7_code 36 = .ok (.if_icmp .ne 8, 3) := by decide +kernel
theorem d_Mo_payload_39 : decode prog_12_method_7_code 39 = .ok (.bipush 16, 2) := by decide +kernel
theorem d_Mo_payload_41 : decode prog_12_method_7_code 41 = .ok (.goto 12, 3) := by decide +kernel
theorem d_Mo_payload_44 : decode prog_12_method_7_code 44 = .ok (.bipush 17, 2) := by decide +kernel
theorem d_Mo_payload_46 : decode prog_12_method_7_code 46 = .ok (.aload_n 0, 1) := by decide +kernel
theorem d_Mo_payload_47 : decode prog_12_method_7_code 47 = .ok (.getfield 25, 3) := by decide +kernel
theorem d_Mo_payload_50 : decode prog_12_method_7_code 50 = .ok (.iload_n 1, 1) := by decide +kernel
theorem d_Mo_payload_51 : decode prog_12_method_7_code 51 = .ok (.iaload, 1) := by decide +kernel
theorem d_Mo_payload_52 : decode prog_12_method_7_code 52 = .ok (.iadd, 1) := by decide +kernel
theorem d_Mo_payload_53 : decode prog_12_method_7_code 53 = .ok (.ireturn, 1) := by decide +kernel
theorem d_Mo_space_0 : decode prog_12_method_8_code 0 = .ok (.bipush 8, 2) := by decide +kernel
theorem d_Mo_space_2 : decode prog_12_method_8_code 2 = .ok (.aload_n 0, 1) := by decide +kernel
theorem d_Mo_space_3 : decode prog_12_method_8_code 3 = .ok (.iload_n 1, 1) := by decide +kernel
theorem d_Mo_space_4 : decode prog_12_method_8_code 4 = .ok (.invokevirtual 87, 3) := by decide +kernel
theorem d_Mo_space_7 : decode prog_12_method_8_code 7 = .ok (.iadd, 1) := by decide +kernel
theorem d_Mo_space_8 : decode prog_12_method_8_code 8 = .ok (.aload_n 0, 1) := by decide +kernel
theorem d_Mo_space_9 : decode prog_12_method_8_code 9 = .ok (.getfield 7, 3) := by decide +kernel
theorem d_Mo_space_12 : decode prog_12_method_8_code 12 = .ok (.iload_n 1, 1) := by decide +kernel
theorem d_Mo_space_13 : decode prog_12_method_8_code 13 = .ok (.iaload, 1) := by decide +kernel
theorem d_Mo_space_14 : decode prog_12_method_8_code 14 = .ok (.iconst 1, 1) := by decide +kernel
theorem d_Mo_space_15 : decode prog_12_method_8_code 15 = .ok (.if_icmp .ne 12, 3) := by decide +kernel
theorem d_Mo_space_18 : decode prog_12_method_8_code 18 = .ok (.aload_n 0, 1) := by decide +kernel
theorem d_Mo_space_19 : decode prog_12_method_8_code 19 = .ok (.getfield 25, 3) := by decide +kernel
theorem d_Mo_space_22 : decode prog_12_method_8_code 22 = .ok (.iload_n 1, 1) := by decide +kernel
theorem d_Mo_space_23 : decode prog_12_method_8_code 23 = .ok (.iaload, 1) := by decide +kernel
theorem d_Mo_space_24 : decode prog_12_method_8_code 24 = .ok (.goto 4, 3) := by decide +kernel
theorem d_Mo_space_27 : decode prog_12_method_8_code 27 = .ok (.iconst 0, 1) := by decide +kernel
theorem d_Mo_space_28 : decode prog_12_method_8_code 28 = .ok (.iadd, 1) := by decide +kernel
theorem d_Mo_space_29 : decode prog_12_method_8_code 29 = .ok (.ireturn, 1) := by decide +kernel
theorem d_Mo_byteOf_0 : decode prog_12_method_9_code 0 = .ok (.lload_n 0, 1) := by decide +kernel
theorem d_Mo_byteOf_1 : decode prog_12_method_9_code 1 = .ok (.bipush 8, 2) := by decide +kernel
theorem d_Mo_byteOf_3 : decode prog_12_method_9_code 3 = .ok (.iload_n 2, 1) := by decide +kernel
theorem d_Mo_byteOf_4 : decode prog_12_method_9_code 4 = .ok (.imul, 1) := by decide +kernel
theorem d_Mo_byteOf_5 : decode prog_12_method_9_code 5 = .ok (.lshr, 1) := by decide +kernel
theorem d_Mo_byteOf_6 : decode prog_12_method_9_code 6 = .ok (.ldc2_w 91, 3) := by decide +kernel
theorem d_Mo_byteOf_9 : decode prog_12_method_9_code 9 = .ok (.land, 1) := by decide +kernel
theorem d_Mo_byteOf_10 : decode prog_12_method_9_code 10 = .ok (.l2i, 1) := by decide +kernel
theorem d_Mo_byteOf_11 : decode prog_12_method_9_code 11 = .ok (.ireturn, 1) := by decide +kernel
theorem d_Mo_payloadAt_0 : decode prog_12_method_10_code 0 = .ok (.aload_n 0, 1) := by decide +kernel
theorem d_Mo_payloadAt_1 : decode prog_12_method_10_code 1 = .ok (.getfield 7, 3) := by decide +kernel
theorem d_Mo_payloadAt_4 : decode prog_12_method_10_code 4 = .ok (.iload_n 1, 1) := by decide +kernel
theorem d_Mo_payloadAt_5 : decode prog_12_method_10_code 5 = .ok (.iaload, 1) := by decide +kernel
theorem d_Mo_payloadAt_6 : decode prog_12_method_10_code 6 = .ok (.iconst 1, 1) := by decide +kernel
theorem d_Mo_payloadAt_7 : decode prog_12_method_10_code 7 = .ok (.if_icmp .ne 48, 3) := by decide +kernel
theorem d_Mo_payloadAt_10 : decode prog_12_method_10_code 10 = .ok (.iload_n 2, 1) := by decide +kernel
theorem d_Mo_payloadAt_11 : decode prog_12_method_10_code 11 = .ok (.iconst 4, 1) := by decide +kernel
theorem d_Mo_payloadAt_12 : decode prog_12_method_10_code 12 = .ok (.if_icmp .ge 13, 3) := by decide +kernel
theorem d_Mo_payloadAt_15 : decode prog_12_method_10_code 15 = .ok (.aload_n 0, 1) := by decide +kernel
theorem d_Mo_payloadAt_16 : decode prog_12_method_10_code 16 = .ok (.getfield 13, 3) := by decide +kernel
theorem d_Mo_payloadAt_19 : decode prog_12_method_10_code 19 = .ok (.iload_n 1, 1) := by decide +kernel
theorem d_Mo_payloadAt_20 : decode prog_12_method_10_code 20 = .ok (.iaload, 1) := by decide +kernel
theorem d_Mo_payloadAt_21 : decode prog_12_method_10_code 21 = .ok (.i2l, 1) := by decide +kernel
theorem d_Mo_payloadAt_22 : decode prog_12_method_10_code 22 = .ok (.goto 26, 3) := by decide +kernel
theorem d_Mo_payloadAt_25 : decode prog_12_method_10_code 25 = .ok (.iload_n 2, 1) := by decide +kernel
theorem d_Mo_payloadAt_26 : decode prog_12_method_10_code 26 = .ok (.bipush 8, 2) := by decide +kernel
theorem d_Mo_payloadAt_28 : decode prog_12_method_10_code 28 = .ok (.if_icmp .ge 13, 3) := by decide +kernel
theorem d_Mo_payloadAt_31 : decode prog_12_method_10_code 31 = .ok (.aload_n 0, 1) := by decide +kernel
theorem d_Mo_payloadAt_32 : decode prog_12_method_10_code 32 = .ok (.getfield 16, 3) := by decide +kernel
theorem d_Mo_payloadAt_35 : decode prog_12_method_10_code 35 = .ok (.iload_n 1, 1) := by decide +kernel
theorem d_Mo_payloadAt_36 : decode prog_12_method_10_code 36 = .ok (.iaload, 1) := by decide +kernel
theorem d_Mo_payloadAt_37 : decode prog_12_method_10_code 37 = .ok (.i2l, 1) := by decide +kernel
theorem d_Mo_payloadAt_38 : decode prog_12_method_10_code 38 = .ok (.goto 10, 3) := by decide +kernel
theorem d_Mo_payloadAt_41 : decode prog_12_method_10_code 41 = .ok (.aload_n 0, 1) := by decide +kernel
theorem d_Mo_payloadAt_42 : decode prog_12_method_10_code 42 = .ok (.getfield 19, 3) := by decide +kernel
theorem d_Mo_payloadAt_45 : decode prog_12_method_10_code 45 = .ok (.iload_n 1, 1) := by decide +kernel
theorem d_Mo_payloadAt_46 : decode prog_12_method_10_code 46 = .ok (.iaload, 1) := by decide +kernel
theorem d_Mo_payloadAt_47 : decode prog_12_method_10_code 47 = .ok (.i2l, 1) := by decide +kernel
theorem d_Mo_payloadAt_48 : decode prog_12_method_10_code 48 = .ok (.iload_n 2, 1) := by decide +kernel
theorem d_Mo_payloadAt_49 : decode prog_12_method_10_code 49 = .ok (.iconst 4, 1) := by decide +kernel
theorem d_Mo_payloadAt_50 : decode prog_12_method_10_code 50 = .ok (.irem, 1) := by decide +kernel
theorem d_Mo_payloadAt_51 : decode prog_12_method_10_code 51 = .ok (.invokestatic 93, 3) := by decide +kernel
theorem d_Mo_payloadAt_54 : decode prog_12_method_10_code 54 = .ok (.ireturn, 1) := by decide +kernel
theorem d_Mo_payloadAt_55 : decode prog_12_method_10_code 55 = .ok (.aload_n 0, 1) := by decide +kernel
theorem d_Mo_payloadAt_56 : decode prog_12_method_10_code 56 = .ok (.getfield 7, 3) := by decide +kernel
theorem d_Mo_payloadAt_59 : decode prog_12_method_10_code 59 = .ok (.iload_n 1, 1) := by decide +kernel
theorem d_Mo_payloadAt_60 : decode prog_12_method_10_code 60 = .ok (.iaload, 1) := by decide +kernel
theorem d_Mo_payloadAt_61 : decode prog_12_method_10_code 61 = .ok (.iconst 3, 1) := by decide +kernel
theorem d_Mo_payloadAt_62 : decode prog_12_method_10_code 62 = .ok (.if_icmp .ne 41, 3) := by decide +kernel
theorem d_Mo_payloadAt_65 : decode prog_12_method_10_code 65 = .ok (.iload_n 2, 1) := by decide +kernel
theorem d_Mo_payloadAt_66 : decode prog_12_method_10_code 66 = .ok (.bipush 15, 2) := by decide +kernel
theorem d_Mo_payloadAt_68 : decode prog_12_method_10_code 68 = .ok (.if_icmp .le 35, 3) := by decide +kernel
theorem d_Mo_payloadAt_71 : decode prog_12_method_10_code 71 = .ok (.iload_n 2, 1) := by decide +kernel
theorem d_Mo_payloadAt_72 : decode prog_12_method_10_code 72 = .ok (.bipush 16, 2) := by decide +kernel
theorem d_Mo_payloadAt_74 : decode prog_12_method_10_code 74 = .ok (.if_icmp .ne 12, 3) := by decide +kernel
theorem d_Mo_payloadAt_77 : decode prog_12_method_10_code 77 = .ok (.aload_n 0, 1) := by decide +kernel
theorem d_Mo_payloadAt_78 : decode prog_12_method_10_code 78 = .ok (.getfield 19, 3) := by decide +kernel
theorem d_Mo_payloadAt_81 : decode prog_12_method_10_code 81 = .ok (.iload_n 1, 1) := by decide +kernel
theorem d_Mo_payloadAt_82 : decode prog_12_method_10_code 82 = .ok (.iaload, 1) := by decide +kernel
theorem d_Mo_payloadAt_83 : decode prog_12_method_10_code 83 = .ok (.goto 19, 3) := by decide +kernel
theorem d_Mo_payloadAt_86 : decode prog_12_method_10_code 86 = .ok (.aload_n 0, 1) := by decide +kernel
theorem d_Mo_payloadAt_87 : decode prog_12_method_10_code 87 = .ok (.getfield 28, 3) := by decide +kernel
theorem d_Mo_payloadAt_90 : decode prog_12_method_10_code 90 = .ok (.aload_n 0, 1) := by decide +kernel
theorem d_Mo_payloadAt_91 : decode prog_12_method_10_code 91 = .ok (.getfield 22, 3) := by decide +kernel
theorem d_Mo_payloadAt_94 : decode prog_12_method_10_code 94 = .ok (.iload_n 1, 1) := by decide +kernel
theorem d_Mo_payloadAt_95 : decode prog_12_method_10_code 95 = .ok (.iaload, 1) := by decide +kernel
theorem d_Mo_payloadAt_96 : decode prog_12_method_10_code 96 = .ok (.iload_n 2, 1) := by decide +kernel
theorem d_Mo_payloadAt_97 : decode prog_12_method_10_code 97 = .ok (.iadd, 1) := by decide +kernel
theorem d_Mo_payloadAt_98 : decode prog_12_method_10_code 98 = .ok (.bipush 17, 2) := by decide +kernel
theorem d_Mo_payloadAt_100 : decode prog_12_method_10_code 100 = .ok (.isub, 1) := by decide +kernel
theorem d_Mo_payloadAt_101 : decode prog_12_method_10_code 101 = .ok (.iaload, 1) := by decide +kernel
theorem d_Mo_payloadAt_102 : decode prog_12_method_10_code 102 = .ok (.ireturn, 1) := by decide +kernel
theorem d_Mo_payloadAt_103 : decode prog_12_method_10_code 103 = .ok (.iload_n 2, 1) := by decide +kernel
theorem d_Mo_payloadAt_104 : decode prog_12_method_10_code 104 = .ok (.bipush 8, 2) := by decide +kernel
theorem d_Mo_payloadAt_106 : decode prog_12_method_10_code 106 = .ok (.if_icmp .ge 13, 3) := by decide +kernel
theorem d_Mo_payloadAt_109 : decode prog_12_method_10_code 109 = .ok (.aload_n 0, 1) := by decide +kernel
theorem d_Mo_payloadAt_110 : decode prog_12_method_10_code 110 = .ok (.getfield 13, 3) := by decide +kernel
theorem d_Mo_payloadAt_113 : decode prog_12_method_10_code 113 = .ok (.iload_n 1, 1) := by decide +kernel
theorem d_Mo_payloadAt_114 : decode prog_12_method_10_code 114 = .ok (.iaload, 1) := by decide +kernel
theorem d_Mo_payloadAt_115 : decode prog_12_method_10_code 115 = .ok (.i2l, 1) := by decide +kernel
theorem d_Mo_payloadAt_116 : decode prog_12_method_10_code 116 = .ok (.goto 26, 3) := by decide +kernel
theorem d_Mo_payloadAt_119 : decode prog_12_method_10_code 119 = .ok (.iload_n 2, 1) := by decide +kernel
theorem d_Mo_payloadAt_120 : decode prog_12_method_10_code 120 = .ok (.bipush 16, 2) := by decide +kernel
theorem d_Mo_payloadAt_122 : decode prog_12_method_10_code 122 = .ok (.if_icmp .ge 13, 3) := by decide +kernel
theorem d_Mo_payloadAt_125 : decode prog_12_method_10_code 125 = .ok (.aload_n 0, 1) := by decide +kernel
theorem d_Mo_payloadAt_126 : decode prog_12_method_10_code 126 = .ok (.getfield 16, 3) := by decide +kernel
theorem d_Mo_payloadAt_129 : decode prog_12_method_10_code 129 = .ok (.iload_n 1, 1) := by decide +kernel
theorem d_Mo_payloadAt_130 : decode prog_12_method_10_code 130 = .ok (.iaload, 1) := by decide +kernel
theorem d_Mo_payloadAt_131 : decode prog_12_method_10_code 131 = .ok (.i2l, 1) := by decide +kernel
theorem d_Mo_payloadAt_132 : decode prog_12_method_10_code 132 = .ok (.goto 10, 3) := by decide +kernel
theorem d_Mo_payloadAt_135 : decode prog_12_method_10_code 135 = .ok (.aload_n 0, 1) := by decide +kernel
theorem d_Mo_payloadAt_136 : decode prog_12_method_10_code 136 = .ok (.getfield 19, 3) := by decide +kernel
theorem d_Mo_payloadAt_139 : decode prog_12_method_10_code 139 = .ok (.iload_n 1, 1) := by decide +kernel
theorem d_Mo_payloadAt_140 : decode prog_12_method_10_code 140 = .ok (.iaload, 1) := by decide +kernel
theorem d_Mo_payloadAt_141 : decode prog_12_method_10_code 141 = .ok (.i2l, 1) := by decide +kernel
theorem d_Mo_payloadAt_142 : decode prog_12_method_10_code 142 = .ok (.iload_n 2, 1) := by decide +kernel
theorem d_Mo_payloadAt_143 : decode prog_12_method_10_code 143 = .ok (.bipush 8, 2) := by decide +kernel
theorem d_Mo_payloadAt_145 : decode prog_12_method_10_code 145 = .ok (.irem, 1) := by decide +kernel
theorem d_Mo_payloadAt_146 : decode prog_12_method_10_code 146 = .ok (.invokestatic 93, 3) := by decide +kernel
theorem d_Mo_payloadAt_149 : decode prog_12_method_10_code 149 = .ok (.ireturn, 1) := by decide +kernel
theorem d_Mo_sumOf_0 : decode prog_12_method_11_code 0 = .ok (.iconst (-1), 1) := by decide +kernel
theorem d_Mo_sumOf_1 : decode prog_12_method_11_code 1 = .ok (.istore_n 2, 1) := by decide +kernel
theorem d_Mo_sumOf_2 : decode prog_12_method_11_code 2 = .ok (.iconst 0, 1) := by decide +kernel
theorem d_Mo_sumOf_3 : decode prog_12_method_11_code 3 = .ok (.istore_n 3, 1) := by decide +kernel
theorem d_Mo_sumOf_4 : decode prog_12_method_11_code 4 = .ok (.iload_n 3, 1) := by decide +kernel
theorem d_Mo_sumOf_5 : decode prog_12_method_11_code 5 = .ok (.aload_n 0, 1) := by decide +kernel
theorem d_Mo_sumOf_6 : decode prog_12_method_11_code 6 = .ok (.iload_n 1, 1) := by decide +kernel
theorem d_Mo_sumOf_7 : decode prog_12_method_11_code 7 = .ok (.invokevirtual 87, 3) := by decide +kernel
theorem d_Mo_sumOf_10 : decode prog_12_method_11_code 10 = .ok (.if_icmp .ge 54, 3) := by decide +kernel
theorem d_Mo_sumOf_13 : decode prog_12_method_11_code 13 = .ok (.iload_n 2, 1) := by decide +kernel
theorem d_Mo_sumOf_14 : decode prog_12_method_11_code 14 = .ok (.aload_n 0, 1) := by decide +kernel
theorem d_Mo_sumOf_15 : decode prog_12_method_11_code 15 = .ok (.iload_n 1, 1) := by decide +kernel
theorem d_Mo_sumOf_16 : decode prog_12_method_11_code 16 = .ok (.iload_n 3, 1) := by decide +kernel
theorem d_Mo_sumOf_17 : decode prog_12_method_11_code 17 = .ok (.invokevirtual 97, 3) := by decide +kernel
theorem d_Mo_sumOf_20 : decode prog_12_method_11_code 20 = .ok (.ixor, 1) := by decide +kernel
theorem d_Mo_sumOf_21 : decode prog_12_method_11_code 21 = .ok (.istore_n 2, 1) := by decide +kernel
theorem d_Mo_sumOf_22 : decode prog_12_method_11_code 22 = .ok (.iconst 0, 1) := by decide +kernel
theorem d_Mo_sumOf_23 : decode prog_12_method_11_code 23 = .ok (.istore 4, 2) := by decide +kernel
theorem d_Mo_sumOf_25 : decode prog_12_method_11_code 25 = .ok (.iload 4, 2) := by decide +kernel
theorem d_Mo_sumOf_27 : decode prog_12_method_11_code 27 = .ok (.bipush 8, 2) := by decide +kernel
theorem d_Mo_sumOf_29 : decode prog_12_method_11_code 29 = .ok (.if_icmp .ge 29, 3) := by decide +kernel
theorem d_Mo_sumOf_32 : decode prog_12_method_11_code 32 = .ok (.iload_n 2, 1) := by decide +kernel
theorem d_Mo_sumOf_33 : decode prog_12_method_11_code 33 = .ok (.iconst 1, 1) := by decide +kernel
theorem d_Mo_sumOf_34 : decode prog_12_method_11_code 34 = .ok (.iand, 1) := by decide +kernel
theorem d_Mo_sumOf_35 : decode prog_12_method_11_code 35 = .ok (.iconst 1, 1) := by decide +kernel
theorem d_Mo_sumOf_36 : decode prog_12_method_11_code 36 = .ok (.if_icmp .ne 12, 3) := by decide +kernel
theorem d_Mo_sumOf_39 : decode prog_12_method_11_code 39 = .ok (.iload_n 2, 1) := by decide +kernel
theorem d_Mo_sumOf_40 : decode prog_12_method_11_code 40 = .ok (.iconst 1, 1) := by decide +kernel
theorem d_Mo_sumOf_41 : decode prog_12_method_11_code 41 = .ok (.iushr, 1) := by decide +kernel
theorem d_Mo_sumOf_42 : decode prog_12_method_11_code 42 = .ok (.ldc 101, 2) := by decide +kernel
theorem d_Mo_sumOf_44 : decode prog_12_method_11_code 44 = .ok (.ixor, 1) := by decide +kernel
theorem d_Mo_sumOf_45 : decode prog_12_method_11_code 45 = .ok (.goto 6, 3) := by decide +kernel
theorem d_Mo_sumOf_48 : decode prog_12_method_11_code 48 = .ok (.iload_n 2, 1) := by decide +kernel
theorem d_Mo_sumOf_49 : decode prog_12_method_11_code 49 = .ok (.iconst 1, 1) := by decide +kernel
theorem d_Mo_sumOf_50 : decode prog_12_method_11_code 50 = .ok (.iushr, 1) := by decide +kernel
theorem d_Mo_sumOf_51 : decode prog_12_method_11_code 51 = .ok (.istore_n 2, 1) := by decide +kernel
theorem d_Mo_sumOf_52 : decode prog_12_method_11_code 52 = .ok (.iinc 4 1, 3) := by decide +kernel
theorem d_Mo_sumOf_55 : decode prog_12_method_11_code 55 = .ok (.goto (-30), 3) := by decide +kernel
theorem d_Mo_sumOf_58 : decode prog_12_method_11_code 58 = .ok (.iinc 3 1, 3) := by decide +kernel
theorem d_Mo_sumOf_61 : decode prog_12_method_11_code 61 = .ok (.goto (-57), 3) := by decide +kernel
theorem d_Mo_sumOf_64 : decode prog_12_method_11_code 64 = .ok (.iload_n 2, 1) := by decide +kernel
theorem d_Mo_sumOf_65 : decode prog_12_method_11_code 65 = .ok (.iconst (-1), 1) := by decide +kernel
theorem d_Mo_sumOf_66 : decode prog_12_method_11_code 66 = .ok (.ixor, 1) := by decide +kernel
theorem d_Mo_sumOf_67 : decode prog_12_method_11_code 67 = .ok (.ireturn, 1) := by decide +kernel
theorem d_Mo_frameAt_0 : decode prog_12_method_12_code 0 = .ok (.iload_n 2, 1) := by decide +kernel
theorem d_Mo_frameAt_1 : decode prog_12_method_12_code 1 = .ok (.bipush 8, 2) := by decide +kernel
theorem d_Mo_frameAt_3 : decode prog_12_method_12_code 3 = .ok (.if_icmp .ge 34, 3) := by decide +kernel
theorem d_Mo_frameAt_6 : decode prog_12_method_12_code 6 = .ok (.iload_n 2, 1) := by decide +kernel
theorem d_Mo_frameAt_7 : decode prog_12_method_12_code 7 = .ok (.iconst 4, 1) := by decide +kernel
theorem d_Mo_frameAt_8 : decode prog_12_method_12_code 8 = .ok (.if_icmp .ge 16, 3) := by decide +kernel
theorem d_Mo_frameAt_11 : decode prog_12_method_12_code 11 = .ok (.aload_n 0, 1) := by decide +kernel
theorem d_Mo_frameAt_12 : decode prog_12_method_12_code 12 = .ok (.iload_n 1, 1) := by decide +kernel
theorem d_Mo_frameAt_13 : decode prog_12_method_12_code 13 = .ok (.invokevirtual 87, 3) := by decide +kernel
theorem d_Mo_frameAt_16 : decode prog_12_method_12_code 16 = .ok (.i2l, 1) := by decide +kernel
theorem d_Mo_frameAt_17 : decode prog_12_method_12_code 17 = .ok (.iload_n 2, 1) := by decide +kernel
theorem d_Mo_frameAt_18 : decode prog_12_method_12_code 18 = .ok (.invokestatic 93, 3) := by decide +kernel
theorem d_Mo_frameAt_21 : decode prog_12_method_12_code 21 = .ok (.goto 15, 3) := by decide +kernel
theorem d_Mo_frameAt_24 : decode prog_12_method_12_code 24 = .ok (.aload_n 0, 1) := by decide +kernel
theorem d_Mo_frameAt_25 : decode prog_12_method_12_code 25 = .ok (.iload_n 1, 1) := by decide +kernel
theorem d_Mo_frameAt_26 : decode prog_12_method_12_code 26 = .ok (.invokevirtual 102, 3) := by decide +kernel
theorem d_Mo_frameAt_29 : decode prog_12_method_12_code 29 = .ok (.i2l, 1) := by decide +kernel
theorem d_Mo_frameAt_30 : decode prog_12_method_12_code 30 = .ok (.iload_n 2, 1) := by decide +kernel
theorem d_Mo_frameAt_31 : decode prog_12_method_12_code 31 = .ok (.iconst 4, 1) := by decide +kernel
theorem d_Mo_frameAt_32 : decode prog_12_method_12_code 32 = .ok (.isub, 1) := by decide +kernel
theorem d_Mo_frameAt_33 : decode prog_12_method_12_code 33 = .ok (.invokestatic 93, 3) := by decide +kernel
theorem d_Mo_frameAt_36 : decode prog_12_method_12_code 36 = .ok (.ireturn, 1) := by decide +kernel
theorem d_Mo_frameAt_37 : decode prog_12_method_12_code 37 = .ok (.iload_n 2, 1) := by decide +kernel
theorem d_Mo_frameAt_38 : decode prog_12_method_12_code 38 = .ok (.bipush 8, 2) := by decide +kernel
theorem d_Mo_frameAt_40 : decode prog_12_method_12_code 40 = .ok (.isub, 1) := by decide +kernel
theorem d_Mo_frameAt_41 : decode prog_12_method_12_code 41 = .ok (.aload_n 0, 1) := by decide +kernel
theorem d_Mo_frameAt_42 : decode prog_12_method_12_code 42 = .ok (.iload_n 1, 1) := by decide +kernel
theorem d_Mo_frameAt_43 : decode prog_12_method_12_code 43 = .ok (.invokevirtual 87, 3) := by decide +kernel
theorem d_Mo_frameAt_46 : decode prog_12_method_12_code 46 = .ok (.if_icmp .ge 15, 3) := by decide +kernel
theorem d_Mo_frameAt_49 : decode prog_12_method_12_code 49 = .ok (.aload_n 0, 1) := by decide +kernel
theorem d_Mo_frameAt_50 : decode prog_12_method_12_code 50 = .ok (.iload_n 1, 1) := by decide +kernel
theorem d_Mo_frameAt_51 : decode prog_12_method_12_code 51 = .ok (.iload_n 2, 1) := by decide +kernel
theorem d_Mo_frameAt_52 : decode prog_12_method_12_code 52 = .ok (.bipush 8, 2) := by decide +kernel
theorem d_Mo_frameAt_54 : decode prog_12_method_12_code 54 = .ok (.isub, 1) := by decide +kernel
theorem d_Mo_frameAt_55 : decode prog_12_method_12_code 55 = .ok (.invokevirtual 97, 3) := by decide +kernel
theorem d_Mo_frameAt_58 : decode prog_12_method_12_code 58 = .ok (.goto 25, 3) := by decide +kernel
theorem d_Mo_frameAt_61 : decode prog_12_method_12_code 61 = .ok (.aload_n 0, 1) := by decide +kernel
theorem d_Mo_frameAt_62 : decode prog_12_method_12_code 62 = .ok (.getfield 28, 3) := by decide +kernel
theorem d_Mo_frameAt_65 : decode prog_12_method_12_code 65 = .ok (.aload_n 0, 1) := by decide +kernel
theorem d_Mo_frameAt_66 : decode prog_12_method_12_code 66 = .ok (.getfield 22, 3) := by decide +kernel
theorem d_Mo_frameAt_69 : decode prog_12_method_12_code 69 = .ok (.iload_n 1, 1) := by decide +kernel
theorem d_Mo_frameAt_70 : decode prog_12_method_12_code 70 = .ok (.iaload, 1) := by decide +kernel
theorem d_Mo_frameAt_71 : decode prog_12_method_12_code 71 = .ok (.iload_n 2, 1) := by decide +kernel
theorem d_Mo_frameAt_72 : decode prog_12_method_12_code 72 = .ok (.iadd, 1) := by decide +kernel
theorem d_Mo_frameAt_73 : decode prog_12_method_12_code 73 = .ok (.bipush 8, 2) := by decide +kernel
theorem d_Mo_frameAt_75 : decode prog_12_method_12_code 75 = .ok (.isub, 1) := by decide +kernel
theorem d_Mo_frameAt_76 : decode prog_12_method_12_code 76 = .ok (.aload_n 0, 1) := by decide +kernel
theorem d_Mo_frameAt_77 : decode prog_12_method_12_code 77 = .ok (.iload_n 1, 1) := by decide +kernel
theorem d_Mo_frameAt_78 : decode prog_12_method_12_code 78 = .ok (.invokevirtual 87, 3) := by decide +kernel
theorem d_Mo_frameAt_81 : decode prog_12_method_12_code 81 = .ok (.isub, 1) := by decide +kernel
theorem d_Mo_frameAt_82 : decode prog_12_method_12_code 82 = .ok (.iaload, 1) := by decide +kernel
theorem d_Mo_frameAt_83 : decode prog_12_method_12_code 83 = .ok (.ireturn, 1) := by decide +kernel
theorem d_Mo_pages_0 : decode prog_12_method_13_code 0 = .ok (.iload_n 0, 1) := by decide +kernel
theorem d_Mo_pages_1 : decode prog_12_method_13_code 1 = .ok (.bipush 64, 2) := by decide +kernel
theorem d_Mo_pages_3 : decode prog_12_method_13_code 3 = .ok (.iadd, 1) := by decide +kernel
theorem d_Mo_pages_4 : decode prog_12_method_13_code 4 = .ok (.iconst 1, 1) := by decide +kernel
theorem d_Mo_pages_5 : decode prog_12_method_13_code 5 = .ok (.isub, 1) := by decide +kernel
theorem d_Mo_pages_6 : decode prog_12_method_13_code 6 = .ok (.bipush 64, 2) := by decide +kernel
theorem d_Mo_pages_8 : decode prog_12_method_13_code 8 = .ok (.idiv, 1) := by decide +kernel
theorem d_Mo_pages_9 : decode prog_12_method_13_code 9 = .ok (.ireturn, 1) := by decide +kernel
theorem d_Mo_pagesUsed_0 : decode prog_12_method_14_code 0 = .ok (.iconst 0, 1) := by decide +kernel
theorem d_Mo_pagesUsed_1 : decode prog_12_method_14_code 1 = .ok (.istore_n 1, 1) := by decide +kernel
theorem d_Mo_pagesUsed_2 : decode prog_12_method_14_code 2 = .ok (.iconst 0, 1) := by decide +kernel
theorem d_Mo_pagesUsed_3 : decode prog_12_method_14_code 3 = .ok (.istore_n 2, 1) := by decide +kernel
theorem d_Mo_pagesUsed_4 : decode prog_12_method_14_code 4 = .ok (.iload_n 2, 1) := by decide +kernel
theorem d_Mo_pagesUsed_5 : decode prog_12_method_14_code 5 = .ok (.bipush 16, 2) := by decide +kernel
theorem d_Mo_pagesUsed_7 : decode prog_12_method_14_code 7 = .ok (.if_icmp .ge 41, 3) := by decide +kernel
theorem d_Mo_pagesUsed_10 : decode prog_12_method_14_code 10 = .ok (.iload_n 1, 1) := by decide +kernel
theorem d_Mo_pagesUsed_11 : decode prog_12_method_14_code 11 = .ok (.aload_n 0, 1) := by decide +kernel
theorem d_Mo_pagesUsed_12 : decode prog_12_method_14_code 12 = .ok (.getfield 37, 3) := by decide +kernel
theorem d_Mo_pagesUsed_15 : decode prog_12_method_14_code 15 = .ok (.iload_n 2, 1) := by decide +kernel
theorem d_Mo_pagesUsed_16 : decode prog_12_method_14_code 16 = .ok (.iaload, 1) := by decide +kernel
theorem d_Mo_pagesUsed_17 : decode prog_12_method_14_code 17 = .ok (.invokestatic 105, 3) := by decide +kernel
theorem d_Mo_pagesUsed_20 : decode prog_12_method_14_code 20 = .ok (.aload_n 0, 1) := by decide +kernel
theorem d_Mo_pagesUsed_21 : decode prog_12_method_14_code 21 = .ok (.getfield 37, 3) := by decide +kernel
theorem d_Mo_pagesUsed_24 : decode prog_12_method_14_code 24 = .ok (.bipush 16, 2) := by decide +kernel
theorem d_Mo_pagesUsed_26 : decode prog_12_method_14_code 26 = .ok (.iload_n 2, 1) := by decide +kernel
theorem d_Mo_pagesUsed_27 : decode prog_12_method_14_code 27 = .ok (.iadd, 1) := by decide +kernel
theorem d_Mo_pagesUsed_28 : decode prog_12_method_14_code 28 = .ok (.iaload, 1) := by decide +kernel
theorem d_Mo_pagesUsed_29 : decode prog_12_method_14_code 29 = .ok (.invokestatic 105, 3) := by decide +kernel
theorem d_Mo_pagesUsed_32 : decode prog_12_method_14_code 32 = .ok (.iadd, 1) := by decide +kernel
theorem d_Mo_pagesUsed_33 : decode prog_12_method_14_code 33 = .ok (.aload_n 0, 1) := by decide +kernel
theorem d_Mo_pagesUsed_34 : decode prog_12_method_14_code 34 = .ok (.getfield 47, 3) := by decide +kernel
theorem d_Mo_pagesUsed_37 : decode prog_12_method_14_code 37 = .ok (.iload_n 2, 1) := by decide +kernel
theorem d_Mo_pagesUsed_38 : decode prog_12_method_14_code 38 = .ok (.iaload, 1) := by decide +kernel
theorem d_Mo_pagesUsed_39 : decode prog_12_method_14_code 39 = .ok (.isub, 1) := by decide +kernel
theorem d_Mo_pagesUsed_40 : decode prog_12_method_14_code 40 = .ok (.iadd, 1) := by decide +kernel
theorem d_Mo_pagesUsed_41 : decode prog_12_method_14_code 41 = .ok (.istore_n 1, 1) := by decide +kernel
theorem d_Mo_pagesUsed_42 : decode prog_12_method_14_code 42 = .ok (.iinc 2 1, 3) := by decide +kernel
theorem d_Mo_pagesUsed_45 : decode prog_12_method_14_code 45 = .ok (.goto (-41), 3) := by decide +kernel
theorem d_Mo_pagesUsed_48 : decode prog_12_method_14_code 48 = .ok (.iload_n 1, 1) := by decide +kernel
theorem d_Mo_pagesUsed_49 : decode prog_12_method_14_code 49 = .ok (.ireturn, 1) := by decide +kernel
theorem d_Mo_needed_0 : decode prog_12_method_15_code 0 = .ok (.aload_n 0, 1) := by decide +kernel
theorem d_Mo_needed_1 : decode prog_12_method_15_code 1 = .ok (.getfield 37, 3) := by decide +kernel
theorem d_Mo_needed_4 : decode prog_12_method_15_code 4 = .ok (.iload_n 1, 1) := by decide +kernel
theorem d_Mo_needed_5 : decode prog_12_method_15_code 5 = .ok (.iaload, 1) := by decide +kernel
theorem d_Mo_needed_6 : decode prog_12_method_15_code 6 = .ok (.bipush 64, 2) := by decide +kernel
theorem d_Mo_needed_8 : decode prog_12_method_15_code 8 = .ok (.irem, 1) := by decide +kernel
theorem d_Mo_needed_9 : decode prog_12_method_15_code 9 = .ok (.ifCond .eq 25, 3) := by decide +kernel
theorem d_Mo_needed_12 : decode prog_12_method_15_code 12 = .ok (.aload_n 0, 1) := by decide +kernel
theorem d_Mo_needed_13 : decode prog_12_method_15_code 13 = .ok (.getfield 37, 3) := by decide +kernel
theorem d_Mo_needed_16 : decode prog_12_method_15_code 16 = .ok (.iload_n 1, 1) := by decide +kernel
theorem d_Mo_needed_17 : decode prog_12_method_15_code 17 = .ok (.iaload, 1) := by decide +kernel
theorem d_Mo_needed_18 : decode prog_12_method_15_code 18 = .ok (.bipush 64, 2) := by decide +kernel
theorem d_Mo_needed_20 : decode prog_12_method_15_code 20 = .ok (.idiv, 1) := by decide +kernel
theorem d_Mo_needed_21 : decode prog_12_method_15_code 21 = .ok (.aload_n 0, 1) := by decide +kernel
theorem d_Mo_needed_22 : decode prog_12_method_15_code 22 = .ok (.getfield 47, 3) := by decide +kernel
theorem d_Mo_needed_25 : decode prog_12_method_15_code 25 = .ok (.iload_n 1, 1) := by decide +kernel
theorem d_Mo_needed_26 : decode prog_12_method_15_code 26 = .ok (.iaload, 1) := by decide +kernel
theorem d_Mo_needed_27 : decode prog_12_method_15_code 27 = .ok (.if_icmp .ge 7, 3) := by decide +kernel
theorem d_Mo_needed_30 : decode prog_12_method_15_code 30 = .ok (.iconst 1, 1) := by decide +kernel
theorem d_Mo_needed_31 : decode prog_12_method_15_code 31 = .ok (.goto 4, 3) := by decide +kernel
theorem d_Mo_needed_34 : decode prog_12_method_15_code 34 = .ok (.iconst 0, 1) := by decide +kernel
theorem d_Mo_needed_35 : decode prog_12_method_15_code 35 = .ok (.istore_n 3, 1) := by decide +kernel
theorem d_Mo_needed_36 : decode prog_12_method_15_code 36 = .ok (.aload_n 0, 1) := by decide +kernel
theorem d_Mo_needed_37 : decode prog_12_method_15_code 37 = .ok (.getfield 37, 3) := by decide +kernel
theorem d_Mo_needed_40 : decode prog_12_method_15_code 40 = .ok (.iload_n 1, 1) := by decide +kernel
theorem d_Mo_needed_41 : decode prog_12_method_15_code 41 = .ok (.iaload, 1) := by decide +kernel
theorem d_Mo_needed_42 : decode prog_12_method_15_code 42 = .ok (.iload_n 2, 1) := by decide +kernel
theorem d_Mo_needed_43 : decode prog_12_method_15_code 43 = .ok (.iadd, 1) := by decide +kernel
theorem d_Mo_needed_44 : decode prog_12_method_15_code 44 = .ok (.invokestatic 105, 3) := by decide +kernel
theorem d_Mo_needed_47 : decode prog_12_method_15_code 47 = .ok (.aload_n 0, 1) := by decide +kernel
theorem d_Mo_needed_48 : decode prog_12_method_15_code 48 = .ok (.getfield 37, 3) := by decide +kernel
theorem d_Mo_needed_51 : decode prog_12_method_15_code 51 = .ok (.iload_n 1, 1) := by decide +kernel
theorem d_Mo_needed_52 : decode prog_12_method_15_code 52 = .ok (.iaload, 1) := by decide +kernel
theorem d_Mo_needed_53 : decode prog_12_method_15_code 53 = .ok (.invokestatic 105, 3) := by decide +kernel
theorem d_Mo_needed_56 : decode prog_12_method_15_code 56 = .ok (.isub, 1) := by decide +kernel
theorem d_Mo_needed_57 : decode prog_12_method_15_code 57 = .ok (.iload_n 3, 1) := by decide +kernel
theorem d_Mo_needed_58 : decode prog_12_method_15_code 58 = .ok (.ifCond .eq 7, 3) := by decide +kernel
theorem d_Mo_needed_61 : decode prog_12_method_15_code 61 = .ok (.iconst 1, 1) := by decide +kernel
theorem d_Mo_needed_62 : decode prog_12_method_15_code 62 = .ok (.goto 4, 3) := by decide +kernel
theorem d_Mo_needed_65 : decode prog_12_method_15_code 65 = .ok (.iconst 0, 1) := by decide +kernel
theorem d_Mo_needed_66 : decode prog_12_method_15_code 66 = .ok (.iadd, 1) := by decide +kernel
theorem d_Mo_needed_67 : decode prog_12_method_15_code 67 = .ok (.ireturn, 1) := by decide +kernel
theorem d_Mo_hasRoom_0 : decode prog_12_method_16_code 0 = .ok (.aload_n 0, 1) := by decide +kernel
theorem d_Mo_hasRoom_1 : decode prog_12_method_16_code 1 = .ok (.getfield 37, 3) := by decide +kernel
theorem d_Mo_hasRoom_4 : decode prog_12_method_16_code 4 = .ok (.iload_n 1, 1) := by decide +kernel
theorem d_Mo_hasRoom_5 : decode prog_12_method_16_code 5 = .ok (.iaload, 1) := by decide +kernel
theorem d_Mo_hasRoom_6 : decode prog_12_method_16_code 6 = .ok (.iload_n 2, 1) := by decide +kernel
theorem d_Mo_hasRoom_7 : decode prog_12_method_16_code 7 = .ok (.iadd, 1) := by decide +kernel
theorem d_Mo_hasRoom_8 : decode prog_12_method_16_code 8 = .ok (.invokestatic 105, 3) := by decide +kernel
theorem d_Mo_hasRoom_11 : decode prog_12_method_16_code 11 = .ok (.sipush 400, 3) := by decide +kernel
theorem d_Mo_hasRoom_14 : decode prog_12_method_16_code 14 = .ok (.if_icmp .gt 25, 3) := by decide +kernel
theorem d_Mo_hasRoom_17 : decode prog_12_method_16_code 17 = .ok (.aload_n 0, 1) := by decide +kernel
theorem d_Mo_hasRoom_18 : decode prog_12_method_16_code 18 = .ok (.iload_n 1, 1) := by decide +kernel
theorem d_Mo_hasRoom_19 : decode prog_12_method_16_code 19 = .ok (.iload_n 2, 1) := by decide +kernel
theorem d_Mo_hasRoom_20 : decode prog_12_method_16_code 20 = .ok (.invokevirtual 108, 3) := by decide +kernel
theorem d_Mo_hasRoom_23 : decode prog_12_method_16_code 23 = .ok (.aload_n 0, 1) := by decide +kernel
theorem d_Mo_hasRoom_24 : decode prog_12_method_16_code 24 = .ok (.getfield 66, 3) := by decide +kernel
theorem d_Mo_hasRoom_27 : decode prog_12_method_16_code 27 = .ok (.aload_n 0, 1) := by decide +kernel
theorem d_Mo_hasRoom_28 : decode prog_12_method_16_code 28 = .ok (.invokevirtual 111, 3) := by decide +kernel
theorem d_Mo_hasRoom_31 : decode prog_12_method_16_code 31 = .ok (.isub, 1) := by decide +kernel
theorem d_Mo_hasRoom_32 : decode prog_12_method_16_code 32 = .ok (.if_icmp .gt 7, 3) := by decide +kernel
theorem d_Mo_hasRoom_35 : decode prog_12_method_16_code 35 = .ok (.iconst 1, 1) := by decide +kernel
theorem d_Mo_hasRoom_36 : decode prog_12_method_16_code 36 = .ok (.goto 4, 3) := by decide +kernel
theorem d_Mo_hasRoom_39 : decode prog_12_method_16_code 39 = .ok (.iconst 0, 1) := by decide +kernel
theorem d_Mo_hasRoom_40 : decode prog_12_method_16_code 40 = .ok (.ireturn, 1) := by decide +kernel
theorem d_Mo_hasRoomAnew_0 : decode prog_12_method_17_code 0 = .ok (.aload_n 0, 1) := by decide +kernel
theorem d_Mo_hasRoomAnew_1 : decode prog_12_method_17_code 1 = .ok (.getfield 66, 3) := by decide +kernel
theorem d_Mo_hasRoomAnew_4 : decode prog_12_method_17_code 4 = .ok (.aload_n 0, 1) := by decide +kernel
theorem d_Mo_hasRoomAnew_5 : decode prog_12_method_17_code 5 = .ok (.invokevirtual 111, 3) := by decide +kernel
theorem d_Mo_hasRoomAnew_8 : decode prog_12_method_17_code 8 = .ok (.isub, 1) := by decide +kernel
theorem d_Mo_hasRoomAnew_9 : decode prog_12_method_17_code 9 = .ok (.aload_n 0, 1) := by decide +kernel
theorem d_Mo_hasRoomAnew_10 : decode prog_12_method_17_code 10 = .ok (.getfield 37, 3) := by decide +kernel
theorem d_Mo_hasRoomAnew_13 : decode prog_12_method_17_code 13 = .ok (.iload_n 1, 1) := by decide +kernel
theorem d_Mo_hasRoomAnew_14 : decode prog_12_method_17_code 14 = .ok (.iaload, 1) := by decide +kernel
theorem d_Mo_hasRoomAnew_15 : decode prog_12_method_17_code 15 = .ok (.invokestatic 105, 3) := by decide +kernel
theorem d_Mo_hasRoomAnew_18 : decode prog_12_method_17_code 18 = .ok (.iadd, 1) := by decide +kernel
theorem d_Mo_hasRoomAnew_19 : decode prog_12_method_17_code 19 = .ok (.aload_n 0, 1) := by decide +kernel
theorem d_Mo_hasRoomAnew_20 : decode prog_12_method_17_code 20 = .ok (.getfield 47, 3) := by decide +kernel
theorem d_Mo_hasRoomAnew_23 : decode prog_12_method_17_code 23 = .ok (.iload_n 1, 1) := by decide +kernel
theorem d_Mo_hasRoomAnew_24 : decode prog_12_method_17_code 24 = .ok (.iaload, 1) := by decide +kernel
theorem d_Mo_hasRoomAnew_25 : decode prog_12_method_17_code 25 = .ok (.isub, 1) := by decide +kernel
theorem d_Mo_hasRoomAnew_26 : decode prog_12_method_17_code 26 = .ok (.istore_n 3, 1) := by decide +kernel
theorem d_Mo_hasRoomAnew_27 : decode prog_12_method_17_code 27 = .ok (.iload_n 2, 1) := by decide +kernel
theorem d_Mo_hasRoomAnew_28 : decode prog_12_method_17_code 28 = .ok (.invokestatic 105, 3) := by decide +kernel
theorem d_Mo_hasRoomAnew_31 : decode prog_12_method_17_code 31 = .ok (.sipush 400, 3) := by decide +kernel
theorem d_Mo_hasRoomAnew_34 : decode prog_12_method_17_code 34 = .ok (.if_icmp .gt 15, 3) := by decide +kernel
theorem d_Mo_hasRoomAnew_37 : decode prog_12_method_17_code 37 = .ok (.iload_n 2, 1) := by decide +kernel
theorem d_Mo_hasRoomAnew_38 : decode prog_12_method_17_code 38 = .ok (.invokestatic 105, 3) := by decide +kernel
theorem d_Mo_hasRoomAnew_41 : decode prog_12_method_17_code 41 = .ok (.iload_n 3, 1) := by decide +kernel
theorem d_Mo_hasRoomAnew_42 : decode prog_12_method_17_code 42 = .ok (.if_icmp .gt 7, 3) := by decide +kernel
theorem d_Mo_hasRoomAnew_45 : decode prog_12_method_17_code 45 = .ok (.iconst 1, 1) := by decide +kernel
theorem d_Mo_hasRoomAnew_46 : decode prog_12_method_17_code 46 = .ok (.goto 4, 3) := by decide +kernel
theorem d_Mo_hasRoomAnew_49 : decode prog_12_method_17_code 49 = .ok (.iconst 0, 1) := by decide +kernel
theorem d_Mo_hasRoomAnew_50 : decode prog_12_method_17_code 50 = .ok (.ireturn, 1) := by decide +kernel
theorem d_Mo_cut_0 : decode prog_12_method_18_code 0 = .ok (.aload_n 0, 1) := by decide +kernel
theorem d_Mo_cut_1 : decode prog_12_method_18_code 1 = .ok (.getfield 37, 3) := by decide +kernel
theorem d_Mo_cut_4 : decode prog_12_method_18_code 4 = .ok (.iload_n 1, 1) := by decide +kernel
theorem d_Mo_cut_5 : decode prog_12_method_18_code 5 = .ok (.iload_n 2, 1) := by decide +kernel
theorem d_Mo_cut_6 : decode prog_12_method_18_code 6 = .ok (.iastore, 1) := by decide +kernel
theorem d_Mo_cut_7 : decode prog_12_method_18_code 7 = .ok (.iconst 0, 1) := by decide +kernel
theorem d_Mo_cut_8 : decode prog_12_method_18_code 8 = .ok (.istore_n 3, 1) := by decide +kernel
theorem d_Mo_cut_9 : decode prog_12_method_18_code 9 = .ok (.iconst 0, 1) := by decide +kernel
theorem d_Mo_cut_10 : decode prog_12_method_18_code 10 = .ok (.istore 4, 2) := by decide +kernel
theorem d_Mo_cut_12 : decode prog_12_method_18_code 12 = .ok (.iload 4, 2) := by decide +kernel
theorem d_Mo_cut_14 : decode prog_12_method_18_code 14 = .ok (.aload_n 0, 1) := by decide +kernel
theorem d_Mo_cut_15 : decode prog_12_method_18_code 15 = .ok (.getfield 34, 3) := by decide +kernel
theorem d_Mo_cut_18 : decode prog_12_method_18_code 18 = .ok (.iload_n 1, 1) := by decide +kernel
theorem d_Mo_cut_19 : decode prog_12_method_18_code 19 = .ok (.iaload, 1) := by decide +kernel
theorem d_Mo_cut_20 : decode prog_12_method_18_code 20 = .ok (.if_icmp .ge 34, 3) := by decide +kernel
theorem d_Mo_cut_23 : decode prog_12_method_18_code 23 = .ok (.iload_n 3, 1) := by decide +kernel
theorem d_Mo_cut_24 : decode prog_12_method_18_code 24 = .ok (.iload_n 2, 1) := by decide +kernel
theorem d_Mo_cut_25 : decode prog_12_method_18_code 25 = .ok (.if_icmp .ge 29, 3) := by decide +kernel
theorem d_Mo_cut_28 : decode prog_12_method_18_code 28 = .ok (.iload_n 3, 1) := by decide +kernel
theorem d_Mo_cut_29 : decode prog_12_method_18_code 29 = .ok (.aload_n 0, 1) := by decide +kernel
theorem d_Mo_cut_30 : decode prog_12_method_18_code 30 = .ok (.aload_n 0, 1) := by decide +kernel
theorem d_Mo_cut_31 : decode prog_12_method_18_code 31 = .ok (.getfield 31, 3) := by decide +kernel
theorem d_Mo_cut_34 : decode prog_12_method_18_code 34 = .ok (.sipush 330, 3) := by decide +kernel
theorem d_Mo_cut_37 : decode prog_12_method_18_code 37 = .ok (.iload_n 1, 1) := by decide +kernel
theorem d_Mo_cut_38 : decode prog_12_method_18_code 38 = .ok (.imul, 1) := by decide +kernel
theorem d_Mo_cut_39 : decode prog_12_method_18_code 39 = .ok (.iload 4, 2) := by decide +kernel
theorem d_Mo_cut_41 : decode prog_12_method_18_code 41 = .ok (.iadd, 1) := by decide +kernel
theorem d_Mo_cut_42 : decode prog_12_method_18_code 42 = .ok (.iaload, 1) := by decide +kernel
theorem d_Mo_cut_43 : decode prog_12_method_18_code 43 = .ok (.invokevirtual 115, 3) := by decide +kernel
theorem d_Mo_cut_46 : decode prog_12_method_18_code 46 = .ok (.iadd, 1) := by decide +kernel
theorem d_Mo_cut_47 : decode prog_12_method_18_code 47 = .ok (.istore_n 3, 1) := by decide +kernel
theorem d_Mo_cut_48 : decode prog_12_method_18_code 48 = .ok (.iinc 4 1, 3) := by decide +kernel
theorem d_Mo_cut_51 : decode prog_12_method_18_code 51 = .ok (.goto (-39), 3) := by decide +kernel
theorem d_Mo_cut_54 : decode prog_12_method_18_code 54 = .ok (.aload_n 0, 1) := by decide +kernel
theorem d_Mo_cut_55 : decode prog_12_method_18_code 55 = .ok (.getfield 34, 3) := by decide +kernel
theorem d_Mo_cut_58 : decode prog_12_method_18_code 58 = .ok (.iload_n 1, 1) := by decide +kernel
theorem d_Mo_cut_59 : decode prog_12_method_18_code 59 = .ok (.iload 4, 2) := by decide +kernel
theorem d_Mo_cut_61 : decode prog_12_method_18_code 61 = .ok (.iastore, 1) := by decide +kernel
theorem d_Mo_cut_62 : decode prog_12_method_18_code 62 = .ok (.aload_n 0, 1) := by decide +kernel
theorem d_Mo_cut_63 : decode prog_12_method_18_code 63 = .ok (.getfield 44, 3) := by decide +kernel
theorem d_Mo_cut_66 : decode prog_12_method_18_code 66 = .ok (.iload_n 1, 1) := by decide +kernel
theorem d_Mo_cut_67 : decode prog_12_method_18_code 67 = .ok (.aload_n 0, 1) := by decide +kernel
theorem d_Mo_cut_68 : decode prog_12_method_18_code 68 = .ok (.getfield 44, 3) := by decide +kernel
theorem d_Mo_cut_71 : decode prog_12_method_18_code 71 = .ok (.iload_n 1, 1) := by decide +kernel
theorem d_Mo_cut_72 : decode prog_12_method_18_code 72 = .ok (.iaload, 1) := by decide +kernel
theorem d_Mo_cut_73 : decode prog_12_method_18_code 73 = .ok (.iload_n 2, 1) := by decide +kernel
theorem d_Mo_cut_74 : decode prog_12_method_18_code 74 = .ok (.if_icmp .ge 12, 3) := by decide +kernel
theorem d_Mo_cut_77 : decode prog_12_method_18_code 77 = .ok (.aload_n 0, 1) := by decide +kernel
theorem d_Mo_cut_78 : decode prog_12_method_18_code 78 = .ok (.getfield 44, 3) := by decide +kernel
theorem d_Mo_cut_81 : decode prog_12_method_18_code 81 = .ok (.iload_n 1, 1) := by decide +kernel
theorem d_Mo_cut_82 : decode prog_12_method_18_code 82 = .ok (.iaload, 1) := by decide +kernel
theorem d_Mo_cut_83 : decode prog_12_method_18_code 83 = .ok (.goto 4, 3) := by decide +kernel
theorem d_Mo_cut_86 : decode prog_12_method_18_code 86 = .ok (.iload_n 2, 1) := by decide +kernel
theorem d_Mo_cut_87 : decode prog_12_method_18_code 87 = .ok (.iastore, 1) := by decide +kernel
theorem d_Mo_cut_88 : decode prog_12_method_18_code 88 = .ok (.aload_n 0, 1) := by decide +kernel
theorem d_Mo_cut_89 : decode prog_12_method_18_code 89 = .ok (.getfield 47, 3) := by decide +kernel
theorem d_Mo_cut_92 : decode prog_12_method_18_code 92 = .ok (.iload_n 1, 1) := by decide +kernel
theorem d_Mo_cut_93 : decode prog_12_method_18_code 93 = .ok (.aload_n 0, 1) := by decide +kernel
theorem d_Mo_cut_94 : decode prog_12_method_18_code 94 = .ok (.getfield 47, 3) := by decide +kernel
theorem d_Mo_cut_97 : decode prog_12_method_18_code 97 = .ok (.iload_n 1, 1) := by decide +kernel
theorem d_Mo_cut_98 : decode prog_12_method_18_code 98 = .ok (.iaload, 1) := by decide +kernel
theorem d_Mo_cut_99 : decode prog_12_method_18_code 99 = .ok (.iload_n 2, 1) := by decide +kernel
theorem d_Mo_cut_100 : decode prog_12_method_18_code 100 = .ok (.invokestatic 105, 3) := by decide +kernel
theorem d_Mo_cut_103 : decode prog_12_method_18_code 103 = .ok (.if_icmp .ge 12, 3) := by decide +kernel
theorem d_Mo_cut_106 : decode prog_12_method_18_code 106 = .ok (.aload_n 0, 1) := by decide +kernel
theorem d_Mo_cut_107 : decode prog_12_method_18_code 107 = .ok (.getfield 47, 3) := by decide +kernel
theorem d_Mo_cut_110 : decode prog_12_method_18_code 110 = .ok (.iload_n 1, 1) := by decide +kernel
theorem d_Mo_cut_111 : decode prog_12_method_18_code 111 = .ok (.iaload, 1) := by decide +kernel
theorem d_Mo_cut_112 : decode prog_12_method_18_code 112 = .ok (.goto 7, 3) := by decide +kernel
theorem d_Mo_cut_115 : decode prog_12_method_18_code 115 = .ok (.iload_n 2, 1) := by decide +kernel
theorem d_Mo_cut_116 : decode prog_12_method_18_code 116 = .ok (.invokestatic 105, 3) := by decide +kernel
theorem d_Mo_cut_119 : decode prog_12_method_18_code 119 = .ok (.iastore, 1) := by decide +kernel
theorem d_Mo_cut_120 : decode prog_12_method_18_code 120 = .ok (.return_, 1) := by decide +kernel
theorem d_Mo_remove_0 : decode prog_12_method_19_code 0 = .ok (.aload_n 0, 1) := by decide +kernel
theorem d_Mo_remove_1 : decode prog_12_method_19_code 1 = .ok (.iload_n 1, 1) := by decide +kernel
theorem d_Mo_remove_2 : decode prog_12_method_19_code 2 = .ok (.iconst 0, 1) := by decide +kernel
theorem d_Mo_remove_3 : decode prog_12_method_19_code 3 = .ok (.invokevirtual 118, 3) := by decide +kernel
theorem d_Mo_remove_6 : decode prog_12_method_19_code 6 = .ok (.aload_n 0, 1) := by decide +kernel
theorem d_Mo_remove_7 : decode prog_12_method_19_code 7 = .ok (.getfield 40, 3) := by decide +kernel
theorem d_Mo_remove_10 : decode prog_12_method_19_code 10 = .ok (.iload_n 1, 1) := by decide +kernel
theorem d_Mo_remove_11 : decode prog_12_method_19_code 11 = .ok (.iconst 0, 1) := by decide +kernel
theorem d_Mo_remove_12 : decode prog_12_method_19_code 12 = .ok (.bastore, 1) := by decide +kernel
theorem d_Mo_remove_13 : decode prog_12_method_19_code 13 = .ok (.return_, 1) := by decide +kernel
theorem d_Mo_put_0 : decode prog_12_method_20_code 0 = .ok (.aload_n 0, 1) := by decide +kernel
theorem d_Mo_put_1 : decode prog_12_method_20_code 1 = .ok (.getfield 37, 3) := by decide +kernel
theorem d_Mo_put_4 : decode prog_12_method_20_code 4 = .ok (.iload_n 1, 1) := by decide +kernel
theorem d_Mo_put_5 : decode prog_12_method_20_code 5 = .ok (.iaload, 1) := by decide +kernel
theorem d_Mo_put_6 : decode prog_12_method_20_code 6 = .ok (.bipush 64, 2) := by decide +kernel
theorem d_Mo_put_8 : decode prog_12_method_20_code 8 = .ok (.irem, 1) := by decide +kernel
theorem d_Mo_put_9 : decode prog_12_method_20_code 9 = .ok (.ifCond .eq 36, 3) := by decide +kernel
theorem d_Mo_put_12 : decode prog_12_method_20_code 12 = .ok (.aload_n 0, 1) := by decide +kernel
theorem d_Mo_put_13 : decode prog_12_method_20_code 13 = .ok (.getfield 37, 3) := by decide +kernel
theorem d_Mo_put_16 : decode prog_12_method_20_code 16 = .ok (.iload_n 1, 1) := by decide +kernel
theorem d_Mo_put_17 : decode prog_12_method_20_code 17 = .ok (.iaload, 1) := by decide +kernel
theorem d_Mo_put_18 : decode prog_12_method_20_code 18 = .ok (.bipush 64, 2) := by decide +kernel
theorem d_Mo_put_20 : decode prog_12_method_20_code 20 = .ok (.idiv, 1) := by decide +kernel
theorem d_Mo_put_21 : decode prog_12_method_20_code 21 = .ok (.aload_n 0, 1) := by decide +kernel
theorem d_Mo_put_22 : decode prog_12_method_20_code 22 = .ok (.getfield 47, 3) := by decide +kernel
theorem d_Mo_put_25 : decode prog_12_method_20_code 25 = .ok (.iload_n 1, 1) := by decide +kernel
theorem d_Mo_put_26 : decode prog_12_method_20_code 26 = .ok (.iaload, 1) := by decide +kernel
theorem d_Mo_put_27 : decode prog_12_method_20_code 27 = .ok (.if_icmp .ge 18, 3) := by decide +kernel
theorem d_Mo_put_30 : decode prog_12_method_20_code 30 = .ok (.aload_n 0, 1) := by decide +kernel
theorem d_Mo_put_31 : decode prog_12_method_20_code 31 = .ok (.getfield 47, 3) := by decide +kernel
theorem d_Mo_put_34 : decode prog_12_method_20_code 34 = .ok (.iload_n 1, 1) := by decide +kernel
theorem d_Mo_put_35 : decode prog_12_method_20_code 35 = .ok (.aload_n 0, 1) := by decide +kernel
theorem d_Mo_put_36 : decode prog_12_method_20_code 36 = .ok (.getfield 37, 3) := by decide +kernel
theorem d_Mo_put_39 : decode prog_12_method_20_code 39 = .ok (.iload_n 1, 1) := by decide +kernel
theorem d_Mo_put_40 : decode prog_12_method_20_code 40 = .ok (.iaload, 1) := by decide +kernel
theorem d_Mo_put_41 : decode prog_12_method_20_code 41 = .ok (.bipush 64, 2) := by decide +kernel
theorem d_Mo_put_43 : decode prog_12_method_20_code 43 = .ok (.idiv, 1) := by decide +kernel
theorem d_Mo_put_44 : decode prog_12_method_20_code 44 = .ok (.iastore, 1) := by decide +kernel
theorem d_Mo_put_45 : decode prog_12_method_20_code 45 = .ok (.aload_n 0, 1) := by decide +kernel
theorem d_Mo_put_46 : decode prog_12_method_20_code 46 = .ok (.getfield 31, 3) := by decide +kernel
theorem d_Mo_put_49 : decode prog_12_method_20_code 49 = .ok (.sipush 330, 3) := by decide +kernel
theorem d_Mo_put_52 : decode prog_12_method_20_code 52 = .ok (.iload_n 1, 1) := by decide +kernel
theorem d_Mo_put_53 : decode prog_12_method_20_code 53 = .ok (.imul, 1) := by decide +kernel
theorem d_Mo_put_54 : decode prog_12_method_20_code 54 = .ok (.aload_n 0, 1) := by decide +kernel
theorem d_Mo_put_55 : decode prog_12_method_20_code 55 = .ok (.getfield 34, 3) := by decide +kernel
theorem d_Mo_put_58 : decode prog_12_method_20_code 58 = .ok (.iload_n 1, 1) := by decide +kernel
theorem d_Mo_put_59 : decode prog_12_method_20_code 59 = .ok (.iaload, 1) := by decide +kernel
theorem d_Mo_put_60 : decode prog_12_method_20_code 60 = .ok (.iadd, 1) := by decide +kernel
theorem d_Mo_put_61 : decode prog_12_method_20_code 61 = .ok (.iload_n 2, 1) := by decide +kernel
theorem d_Mo_put_62 : decode prog_12_method_20_code 62 = .ok (.iastore, 1) := by decide +kernel
theorem d_Mo_put_63 : decode prog_12_method_20_code 63 = .ok (.aload_n 0, 1) := by decide +kernel
theorem d_Mo_put_64 : decode prog_12_method_20_code 64 = .ok (.getfield 34, 3) := by decide +kernel
theorem d_Mo_put_67 : decode prog_12_method_20_code 67 = .ok (.iload_n 1, 1) := by decide +kernel
theorem d_Mo_put_68 : decode prog_12_method_20_code 68 = .ok (.dup2, 1) := by decide +kernel
theorem d_Mo_put_69 : decode prog_12_method_20_code 69 = .ok (.iaload, 1) := by decide +kernel
theorem d_Mo_put_70 : decode prog_12_method_20_code 70 = .ok (.iconst 1, 1) := by decide +kernel
theorem d_Mo_put_71 : decode prog_12_method_20_code 71 = .ok (.iadd, 1) := by decide +kernel
theorem d_Mo_put_72 : decode prog_12_method_20_code 72 = .ok (.iastore, 1) := by decide +kernel
theorem d_Mo_put_73 : decode prog_12_method_20_code 73 = .ok (.aload_n 0, 1) := by decide +kernel
theorem d_Mo_put_74 : decode prog_12_method_20_code 74 = .ok (.getfield 37, 3) := by decide +kernel
theorem d_Mo_put_77 : decode prog_12_method_20_code 77 = .ok (.iload_n 1, 1) := by decide +kernel
theorem d_Mo_put_78 : decode prog_12_method_20_code 78 = .ok (.dup2, 1) := by decide +kernel
theorem d_Mo_put_79 : decode prog_12_method_20_code 79 = .ok (.iaload, 1) := by decide +kernel
theorem d_Mo_put_80 : decode prog_12_method_20_code 80 = .ok (.aload_n 0, 1) := by decide +kernel
theorem d_Mo_put_81 : decode prog_12_method_20_code 81 = .ok (.iload_n 2, 1) := by decide +kernel
theorem d_Mo_put_82 : decode prog_12_method_20_code 82 = .ok (.invokevirtual 115, 3) := by decide +kernel
theorem d_Mo_put_85 : decode prog_12_method_20_code 85 = .ok (.iadd, 1) := by decide +kernel
theorem d_Mo_put_86 : decode prog_12_method_20_code 86 = .ok (.iastore, 1) := by decide +kernel
theorem d_Mo_put_87 : decode prog_12_method_20_code 87 = .ok (.aload_n 0, 1) := by decide +kernel
theorem d_Mo_put_88 : decode prog_12_method_20_code 88 = .ok (.getfield 40, 3) := by decide +kernel
theorem d_Mo_put_91 : decode prog_12_method_20_code 91 = .ok (.iload_n 1, 1) := by decide +kernel
theorem d_Mo_put_92 : decode prog_12_method_20_code 92 = .ok (.iconst 1, 1) := by decide +kernel
theorem d_Mo_put_93 : decode prog_12_method_20_code 93 = .ok (.bastore, 1) := by decide +kernel
theorem d_Mo_put_94 : decode prog_12_method_20_code 94 = .ok (.return_, 1) := by decide +kernel
theorem d_Mo_copy_0 : decode prog_12_method_21_code 0 = .ok (.iconst 0, 1) := by decide +kernel
theorem d_Mo_copy_1 : decode prog_12_method_21_code 1 = .ok (.istore_n 3, 1) := by decide +kernel
theorem d_Mo_copy_2 : decode prog_12_method_21_code 2 = .ok (.iload_n 3, 1) := by decide +kernel
theorem d_Mo_copy_3 : decode prog_12_method_21_code 3 = .ok (.aload_n 0, 1) := by decide +kernel
theorem d_Mo_copy_4 : decode prog_12_method_21_code 4 = .ok (.getfield 34, 3) := by decide +kernel
theorem d_Mo_copy_7 : decode prog_12_method_21_code 7 = .ok (.iload_n 1, 1) := by decide +kernel
theorem d_Mo_copy_8 : decode prog_12_method_21_code 8 = .ok (.iaload, 1) := by decide +kernel
theorem d_Mo_copy_9 : decode prog_12_method_21_code 9 = .ok (.if_icmp .ge 33, 3) := by decide +kernel
theorem d_Mo_copy_12 : decode prog_12_method_21_code 12 = .ok (.aload_n 0, 1) := by decide +kernel
theorem d_Mo_copy_13 : decode prog_12_method_21_code 13 = .ok (.getfield 31, 3) := by decide +kernel
theorem d_Mo_copy_16 : decode prog_12_method_21_code 16 = .ok (.sipush 330, 3) := by decide +kernel
theorem d_Mo_copy_19 : decode prog_12_method_21_code 19 = .ok (.iload_n 2, 1) := by decide +kernel
theorem d_Mo_copy_20 : decode prog_12_method_21_code 20 = .ok (.imul, 1) := by decide +kernel
theorem d_Mo_copy_21 : decode prog_12_method_21_code 21 = .ok (.iload_n 3, 1) := by decide +kernel
theorem d_Mo_copy_22 : decode prog_12_method_21_code 22 = .ok (.iadd, 1) := by decide +kernel
theorem d_Mo_copy_23 : decode prog_12_method_21_code 23 = .ok (.aload_n 0, 1) := by decide +kernel
theorem d_Mo_copy_24 : decode prog_12_method_21_code 24 = .ok (.getfield 31, 3) := by decide +kernel
theorem d_Mo_copy_27 : decode prog_12_method_21_code 27 = .ok (.sipush 330, 3) := by decide +kernel
theorem d_Mo_copy_30 : decode prog_12_method_21_code 30 = .ok (.iload_n 1, 1) := by decide +kernel
theorem d_Mo_copy_31 : decode prog_12_method_21_code 31 = .ok (.imul, 1) := by decide +kernel
theorem d_Mo_copy_32 : decode prog_12_method_21_code 32 = .ok (.iload_n 3, 1) := by decide +kernel
theorem d_Mo_copy_33 : decode prog_12_method_21_code 33 = .ok (.iadd, 1) := by decide +kernel
theorem d_Mo_copy_34 : decode prog_12_method_21_code 34 = .ok (.iaload, 1) := by decide +kernel
theorem d_Mo_copy_35 : decode prog_12_method_21_code 35 = .ok (.iastore, 1) := by decide +kernel
theorem d_Mo_copy_36 : decode prog_12_method_21_code 36 = .ok (.iinc 3 1, 3) := by decide +kernel
theorem d_Mo_copy_39 : decode prog_12_method_21_code 39 = .ok (.goto (-37), 3) := by decide +kernel
theorem d_Mo_copy_42 : decode prog_12_method_21_code 42 = .ok (.aload_n 0, 1) := by decide +kernel
theorem d_Mo_copy_43 : decode prog_12_method_21_code 43 = .ok (.getfield 34, 3) := by decide +kernel
theorem d_Mo_copy_46 : decode prog_12_method_21_code 46 = .ok (.iload_n 2, 1) := by decide +kernel
theorem d_Mo_copy_47 : decode prog_12_method_21_code 47 = .ok (.aload_n 0, 1) := by decide +kernel
theorem d_Mo_copy_48 : decode prog_12_method_21_code 48 = .ok (.getfield 34, 3) := by decide +kernel
theorem d_Mo_copy_51 : decode prog_12_method_21_code 51 = .ok (.iload_n 1, 1) := by decide +kernel
theorem d_Mo_copy_52 : decode prog_12_method_21_code 52 = .ok (.iaload, 1) := by decide +kernel
theorem d_Mo_copy_53 : decode prog_12_method_21_code 53 = .ok (.iastore, 1) := by decide +kernel
theorem d_Mo_copy_54 : decode prog_12_method_21_code 54 = .ok (.aload_n 0, 1) := by decide +kernel
theorem d_Mo_copy_55 : decode prog_12_method_21_code 55 = .ok (.getfield 37, 3) := by decide +kernel
theorem d_Mo_copy_58 : decode prog_12_method_21_code 58 = .ok (.iload_n 2, 1) := by decide +kernel
theorem d_Mo_copy_59 : decode prog_12_method_21_code 59 = .ok (.aload_n 0, 1) := by decide +kernel
theorem d_Mo_copy_60 : decode prog_12_method_21_code 60 = .ok (.getfield 37, 3) := by decide +kernel
theorem d_Mo_copy_63 : decode prog_12_method_21_code 63 = .ok (.iload_n 1, 1) := by decide +kernel
theorem d_Mo_copy_64 : decode prog_12_method_21_code 64 = .ok (.iaload, 1) := by decide +kernel
theorem d_Mo_copy_65 : decode prog_12_method_21_code 65 = .ok (.iastore, 1) := by decide +kernel
theorem d_Mo_copy_66 : decode prog_12_method_21_code 66 = .ok (.aload_n 0, 1) := by decide +kernel
theorem d_Mo_copy_67 : decode prog_12_method_21_code 67 = .ok (.getfield 40, 3) := by decide +kernel
theorem d_Mo_copy_70 : decode prog_12_method_21_code 70 = .ok (.iload_n 2, 1) := by decide +kernel
theorem d_Mo_copy_71 : decode prog_12_method_21_code 71 = .ok (.aload_n 0, 1) := by decide +kernel
theorem d_Mo_copy_72 : decode prog_12_method_21_code 72 = .ok (.getfield 40, 3) := by decide +kernel
theorem d_Mo_copy_75 : decode prog_12_method_21_code 75 = .ok (.iload_n 1, 1) := by decide +kernel
theorem d_Mo_copy_76 : decode prog_12_method_21_code 76 = .ok (.baload, 1) := by decide +kernel
theorem d_Mo_copy_77 : decode prog_12_method_21_code 77 = .ok (.bastore, 1) := by decide +kernel
theorem d_Mo_copy_78 : decode prog_12_method_21_code 78 = .ok (.return_, 1) := by decide +kernel
theorem d_Mo_settle_0 : decode prog_12_method_22_code 0 = .ok (.aload_n 0, 1) := by decide +kernel
theorem d_Mo_settle_1 : decode prog_12_method_22_code 1 = .ok (.iload_n 1, 1) := by decide +kernel
theorem d_Mo_settle_2 : decode prog_12_method_22_code 2 = .ok (.bipush 16, 2) := by decide +kernel
theorem d_Mo_settle_4 : decode prog_12_method_22_code 4 = .ok (.iload_n 1, 1) := by decide +kernel
theorem d_Mo_settle_5 : decode prog_12_method_22_code 5 = .ok (.iadd, 1) := by decide +kernel
theorem d_Mo_settle_6 : decode prog_12_method_22_code 6 = .ok (.invokevirtual 122, 3) := by decide +kernel
theorem d_Mo_settle_9 : decode prog_12_method_22_code 9 = .ok (.aload_n 0, 1) := by decide +kernel
theorem d_Mo_settle_10 : decode prog_12_method_22_code 10 = .ok (.getfield 44, 3) := by decide +kernel
theorem d_Mo_settle_13 : decode prog_12_method_22_code 13 = .ok (.iload_n 1, 1) := by decide +kernel
theorem d_Mo_settle_14 : decode prog_12_method_22_code 14 = .ok (.aload_n 0, 1) := by decide +kernel
theorem d_Mo_settle_15 : decode prog_12_method_22_code 15 = .ok (.getfield 37, 3) := by decide +kernel
theorem d_Mo_settle_18 : decode prog_12_method_22_code 18 = .ok (.iload_n 1, 1) := by decide +kernel
theorem d_Mo_settle_19 : decode prog_12_method_22_code 19 = .ok (.iaload, 1) := by decide +kernel
theorem d_Mo_settle_20 : decode prog_12_method_22_code 20 = .ok (.iastore, 1) := by decide +kernel
theorem d_Mo_settle_21 : decode prog_12_method_22_code 21 = .ok (.aload_n 0, 1) := by decide +kernel
theorem d_Mo_settle_22 : decode prog_12_method_22_code 22 = .ok (.getfield 47, 3) := by decide +kernel
theorem d_Mo_settle_25 : decode prog_12_method_22_code 25 = .ok (.iload_n 1, 1) := by decide +kernel
theorem d_Mo_settle_26 : decode prog_12_method_22_code 26 = .ok (.aload_n 0, 1) := by decide +kernel
theorem d_Mo_settle_27 : decode prog_12_method_22_code 27 = .ok (.getfield 37, 3) := by decide +kernel
theorem d_Mo_settle_30 : decode prog_12_method_22_code 30 = .ok (.iload_n 1, 1) := by decide +kernel
theorem d_Mo_settle_31 : decode prog_12_method_22_code 31 = .ok (.iaload, 1) := by decide +kernel
theorem d_Mo_settle_32 : decode prog_12_method_22_code 32 = .ok (.invokestatic 105, 3) := by decide +kernel
theorem d_Mo_settle_35 : decode prog_12_method_22_code 35 = .ok (.iastore, 1) := by decide +kernel
theorem d_Mo_settle_36 : decode prog_12_method_22_code 36 = .ok (.return_, 1) := by decide +kernel
theorem d_Mo_feed_0 : decode prog_12_method_23_code 0 = .ok (.aload_n 0, 1) := by decide +kernel
theorem d_Mo_feed_1 : decode prog_12_method_23_code 1 = .ok (.iconst 0, 1) := by decide +kernel
theorem d_Mo_feed_2 : decode prog_12_method_23_code 2 = .ok (.putfield 78, 3) := by decide +kernel
theorem d_Mo_feed_5 : decode prog_12_method_23_code 5 = .ok (.iload_n 3, 1) := by decide +kernel
theorem d_Mo_feed_6 : decode prog_12_method_23_code 6 = .ok (.iconst 1, 1) := by decide +kernel
theorem d_Mo_feed_7 : decode prog_12_method_23_code 7 = .ok (.bipush 8, 2) := by decide +kernel
theorem d_Mo_feed_9 : decode prog_12_method_23_code 9 = .ok (.invokestatic 125, 3) := by decide +kernel
theorem d_Mo_feed_12 : decode prog_12_method_23_code 12 = .ok (.ifCond .ne 9, 3) := by decide +kernel
theorem d_Mo_feed_15 : decode prog_12_method_23_code 15 = .ok (.aload_n 0, 1) := by decide +kernel
theorem d_Mo_feed_16 : decode prog_12_method_23_code 16 = .ok (.iconst 1, 1) := by decide +kernel
theorem d_Mo_feed_17 : decode prog_12_method_23_code 17 = .ok (.invokevirtual 129, 3) := by decide +kernel
theorem d_Mo_feed_20 : decode prog_12_method_23_code 20 = .ok (.ireturn, 1) := by decide +kernel
theorem d_Mo_feed_21 : decode prog_12_method_23_code 21 = .ok (.aload_n 0, 1) := by decide +kernel
theorem d_Mo_feed_22 : decode prog_12_method_23_code 22 = .ok (.getfield 132, 3) := by decide +kernel
theorem d_Mo_feed_25 : decode prog_12_method_23_code 25 = .ok (.iload_n 3, 1) := by decide +kernel
theorem d_Mo_feed_26 : decode prog_12_method_23_code 26 = .ok (.iadd, 1) := by decide +kernel
theorem d_Mo_feed_27 : decode prog_12_method_23_code 27 = .ok (.sipush 4096, 3) := by decide +kernel
theorem d_Mo_feed_30 : decode prog_12_method_23_code 30 = .ok (.if_icmp .le 9, 3) := by decide +kernel
theorem d_Mo_feed_33 : decode prog_12_method_23_code 33 = .ok (.aload_n 0, 1) := by decide +kernel
theorem d_Mo_feed_34 : decode prog_12_method_23_code 34 = .ok (.iconst 2, 1) := by decide +kernel
theorem d_Mo_feed_35 : decode prog_12_method_23_code 35 = .ok (.invokevirtual 129, 3) := by decide +kernel
theorem d_Mo_feed_38 : decode prog_12_method_23_code 38 = .ok (.ireturn, 1) := by decide +kernel
theorem d_Mo_feed_39 : decode prog_12_method_23_code 39 = .ok (.iconst 0, 1) := by decide +kernel
theorem d_Mo_feed_40 : decode prog_12_method_23_code 40 = .ok (.istore 4, 2) := by decide +kernel
theorem d_Mo_feed_42 : decode prog_12_method_23_code 42 = .ok (.iload 4, 2) := by decide +kernel
theorem d_Mo_feed_44 : decode prog_12_method_23_code 44 = .ok (.iload_n 3, 1) := by decide +kernel
theorem d_Mo_feed_45 : decode prog_12_method_23_code 45 = .ok (.if_icmp .ge 27, 3) := by decide +kernel
theorem d_Mo_feed_48 : decode prog_12_method_23_code 48 = .ok (.aload_n 0, 1) := by decide +kernel
theorem d_Mo_feed_49 : decode prog_12_method_23_code 49 = .ok (.getfield 63, 3) := by decide +kernel
theorem d_Mo_feed_52 : decode prog_12_method_23_code 52 = .ok (.aload_n 0, 1) := by decide +kernel
theorem d_Mo_feed_53 : decode prog_12_method_23_code 53 = .ok (.getfield 132, 3) := by decide +kernel
theorem d_Mo_feed_56 : decode prog_12_method_23_code 56 = .ok (.iload 4, 2) := by decide +kernel
theorem d_Mo_feed_58 : decode prog_12_method_23_code 58 = .ok (.iadd, 1) := by decide +kernel
theorem d_Mo_feed_59 : decode prog_12_method_23_code 59 = .ok (.lload_n 1, 1) := by decide +kernel
theorem d_Mo_feed_60 : decode prog_12_method_23_code 60 = .ok (.iload 4, 2) := by decide +kernel
theorem d_Mo_feed_62 : decode prog_12_method_23_code 62 = .ok (.invokestatic 93, 3) := by decide +kernel
theorem d_Mo_feed_65 : decode prog_12_method_23_code 65 = .ok (.iastore, 1) := by decide +kernel
theorem d_Mo_feed_66 : decode prog_12_method_23_code 66 = .ok (.iinc 4 1, 3) := by decide +kernel
theorem d_Mo_feed_69 : decode prog_12_method_23_code 69 = .ok (.goto (-27), 3) := by decide +kernel
theorem d_Mo_feed_72 : decode prog_12_method_23_code 72 = .ok (.aload_n 0, 1) := by decide +kernel
theorem d_Mo_feed_73 : decode prog_12_method_23_code 73 = .ok (.dup, 1) := by decide +kernel
theorem d_Mo_feed_74 : decode prog_12_method_23_code 74 = .ok (.getfield 132, 3) := by decide +kernel
theorem d_Mo_feed_77 : decode prog_12_method_23_code 77 = .ok (.iload_n 3, 1) := by decide +kernel
theorem d_Mo_feed_78 : decode prog_12_method_23_code 78 = .ok (.iadd, 1) := by decide +kernel
theorem d_Mo_feed_79 : decode prog_12_method_23_code 79 = .ok (.putfield 132, 3) := by decide +kernel
theorem d_Mo_feed_82 : decode prog_12_method_23_code 82 = .ok (.aload_n 0, 1) := by decide +kernel
theorem d_Mo_feed_83 : decode prog_12_method_23_code 83 = .ok (.getfield 132, 3) := by decide +kernel
theorem d_Mo_feed_86 : decode prog_12_method_23_code 86 = .ok (.ireturn, 1) := by decide +kernel
theorem d_Mo_save_0 : decode prog_12_method_24_code 0 = .ok (.aload_n 0, 1) := by decide +kernel
theorem d_Mo_save_1 : decode prog_12_method_24_code 1 = .ok (.iconst 0, 1) := by decide +kernel
theorem d_Mo_save_2 : decode prog_12_method_24_code 2 = .ok (.putfield 78, 3) := by decide +kernel
theorem d_Mo_save_5 : decode prog_12_method_24_code 5 = .ok (.iload_n 1, 1) := by decide +kernel
theorem d_Mo_save_6 : decode prog_12_method_24_code 6 = .ok (.aload_n 0, 1) := by decide +kernel
theorem d_Mo_save_7 : decode prog_12_method_24_code 7 = .ok (.getfield 135, 3) := by decide +kernel
theorem d_Mo_save_10 : decode prog_12_method_24_code 10 = .ok (.ldc 138, 2) := by decide +kernel
theorem d_Mo_save_12 : decode prog_12_method_24_code 12 = .ok (.invokestatic 125, 3) := by decide +kernel
theorem d_Mo_save_15 : decode prog_12_method_24_code 15 = .ok (.ifCond .eq 13, 3) := by decide +kernel
theorem d_Mo_save_18 : decode prog_12_method_24_code 18 = .ok (.iload_n 2, 1) := by decide +kernel
theorem d_Mo_save_19 : decode prog_12_method_24_code 19 = .ok (.iconst (-1), 1) := by decide +kernel
theorem d_Mo_save_20 : decode prog_12_method_24_code 20 = .ok (.bipush 6, 2) := by decide +kernel
theorem d_Mo_save_22 : decode prog_12_method_24_code 22 = .ok (.invokestatic 125, 3) := by decide +kernel
theorem d_Mo_save_25 : decode prog_12_method_24_code 25 = .ok (.ifCond .ne 9, 3) := by decide +kernel
theorem d_Mo_save_28 : decode prog_12_method_24_code 28 = .ok (.aload_n 0, 1) := by decide +kernel
theorem d_Mo_save_29 : decode prog_12_method_24_code 29 = .ok (.iconst 1, 1) := by decide +kernel
theorem d_Mo_save_30 : decode prog_12_method_24_code 30 = .ok (.invokevirtual 129, 3) := by decide +kernel
theorem d_Mo_save_33 : decode prog_12_method_24_code 33 = .ok (.ireturn, 1) := by decide +kernel
theorem d_Mo_save_34 : decode prog_12_method_24_code 34 = .ok (.aload_n 0, 1) := by decide +kernel
theorem d_Mo_save_35 : decode prog_12_method_24_code 35 = .ok (.getfield 139, 3) := by decide +kernel
theorem d_Mo_save_38 : decode prog_12_method_24_code 38 = .ok (.ifCond .eq 10, 3) := by decide +kernel
theorem d_Mo_save_41 : decode prog_12_method_24_code 41 = .ok (.aload_n 0, 1) := by decide +kernel
theorem d_Mo_save_42 : decode prog_12_method_24_code 42 = .ok (.getfield 143, 3) := by decide +kernel
theorem d_Mo_save_45 : decode prog_12_method_24_code 45 = .ok (.goto 9, 3) := by decide +kernel
theorem d_Mo_save_48 : decode prog_12_method_24_code 48 = .ok (.iconst 1, 1) := by decide +kernel
theorem d_Mo_save_49 : decode prog_12_method_24_code 49 = .ok (.aload_n 0, 1) := by decide +kernel
theorem d_Mo_save_50 : decode prog_12_method_24_code 50 = .ok (.getfield 143, 3) := by decide +kernel
theorem d_Mo_save_53 : decode prog_12_method_24_code 53 = .ok (.isub, 1) := by decide +kernel
theorem d_Mo_save_54 : decode prog_12_method_24_code 54 = .ok (.istore_n 3, 1) := by decide +kernel
theorem d_Mo_save_55 : decode prog_12_method_24_code 55 = .ok (.aload_n 0, 1) := by decide +kernel
theorem d_Mo_save_56 : decode prog_12_method_24_code 56 = .ok (.iload_n 3, 1) := by decide +kernel
theorem d_Mo_save_57 : decode prog_12_method_24_code 57 = .ok (.bipush 32, 2) := by decide +kernel
theorem d_Mo_save_59 : decode prog_12_method_24_code 59 = .ok (.invokevirtual 146, 3) := by decide +kernel
theorem d_Mo_save_62 : decode prog_12_method_24_code 62 = .ok (.ifCond .ne 9, 3) := by decide +kernel
theorem d_Mo_save_65 : decode prog_12_method_24_code 65 = .ok (.aload_n 0, 1) := by decide +kernel
theorem d_Mo_save_66 : decode prog_12_method_24_code 66 = .ok (.iconst 2, 1) := by decide +kernel
theorem d_Mo_save_67 : decode prog_12_method_24_code 67 = .ok (.invokevirtual 129, 3) := by decide +kernel
theorem d_Mo_save_70 : decode prog_12_method_24_code 70 = .ok (.ireturn, 1) := by decide +kernel
theorem d_Mo_save_71 : decode prog_12_method_24_code 71 = .ok (.aload_n 0, 1) := by decide +kernel
theorem d_Mo_save_72 : decode prog_12_method_24_code 72 = .ok (.iload_n 1, 1) := by decide +kernel
theorem d_Mo_save_73 : decode prog_12_method_24_code 73 = .ok (.putfield 135, 3) := by decide +kernel
theorem d_Mo_save_76 : decode prog_12_method_24_code 76 = .ok (.aload_n 0, 1) := by decide +kernel
theorem d_Mo_save_77 : decode prog_12_method_24_code 77 = .ok (.iload_n 2, 1) := by decide +kernel
theorem d_Mo_save_78 : decode prog_12_method_24_code 78 = .ok (.putfield 53, 3) := by decide +kernel
theorem d_Mo_save_81 : decode prog_12_method_24_code 81 = .ok (.aload_n 0, 1) := by decide +kernel
theorem d_Mo_save_82 : decode prog_12_method_24_code 82 = .ok (.dup, 1) := by decide +kernel
theorem d_Mo_save_83 : decode prog_12_method_24_code 83 = .ok (.getfield 150, 3) := by decide +kernel
theorem d_Mo_save_86 : decode prog_12_method_24_code 86 = .ok (.iconst 1, 1) := by decide +kernel
theorem d_Mo_save_87 : decode prog_12_method_24_code 87 = .ok (.iadd, 1) := by decide +kernel
theorem d_Mo_save_88 : decode prog_12_method_24_code 88 = .ok (.putfield 150, 3) := by decide +kernel
theorem d_Mo_save_91 : decode prog_12_method_24_code 91 = .ok (.aload_n 0, 1) := by decide +kernel
theorem d_Mo_save_92 : decode prog_12_method_24_code 92 = .ok (.iload_n 3, 1) := by decide +kernel
theorem d_Mo_save_93 : decode prog_12_method_24_code 93 = .ok (.iconst 0, 1) := by decide +kernel
