theorem d_LogDisk_init_0 : decode prog_1_method_1_code 0 = .ok (.aload_n 0, 1) := by decide +kernel
theorem d_LogDisk_init_1 : decode prog_1_method_1_code 1 = .ok (.invokespecial 3, 3) := by decide +kernel
theorem d_LogDisk_init_4 : decode prog_1_method_1_code 4 = .ok (.aload_n 0, 1) := by decide +kernel
theorem d_LogDisk_init_5 : decode prog_1_method_1_code 5 = .ok (.bipush 16, 2) := by decide +kernel
theorem d_LogDisk_init_7 : decode prog_1_method_1_code 7 = .ok (.anewarray 9, 3) := by decide +kernel
theorem d_LogDisk_init_10 : decode prog_1_method_1_code 10 = .ok (.putfield 11, 3) := by decide +kernel
theorem d_LogDisk_init_13 : decode prog_1_method_1_code 13 = .ok (.aload_n 0, 1) := by decide +kernel
theorem d_LogDisk_init_14 : decode prog_1_method_1_code 14 = .ok (.bipush 16, 2) := by decide +kernel
theorem d_LogDisk_init_16 : decode prog_1_method_1_code 16 = .ok (.newarray .int, 2) := by decide +kernel
theorem d_LogDisk_init_18 : decode prog_1_method_1_code 18 = .ok (.putfield 15, 3) := by decide +kernel
theorem d_LogDisk_init_21 : decode prog_1_method_1_code 21 = .ok (.aload_n 0, 1) := by decide +kernel
theorem d_LogDisk_init_22 : decode prog_1_method_1_code 22 = .ok (.new 19, 3) := by decide +kernel
theorem d_LogDisk_init_25 : decode prog_1_method_1_code 25 = .ok (.dup, 1) := by decide +kernel
theorem d_LogDisk_init_26 : decode prog_1_method_1_code 26 = .ok (.invokespecial 21, 3) := by decide +kernel
theorem d_LogDisk_init_29 : decode prog_1_method_1_code 29 = .ok (.putfield 22, 3) := by decide +kernel
theorem d_LogDisk_init_32 : decode prog_1_method_1_code 32 = .ok (.aload_n 0, 1) := by decide +kernel
theorem d_LogDisk_init_33 : decode prog_1_method_1_code 33 = .ok (.new 26, 3) := by decide +kernel
theorem d_LogDisk_init_36 : decode prog_1_method_1_code 36 = .ok (.dup, 1) := by decide +kernel
theorem d_LogDisk_init_37 : decode prog_1_method_1_code 37 = .ok (.invokespecial 28, 3) := by decide +kernel
theorem d_LogDisk_init_40 : decode prog_1_method_1_code 40 = .ok (.putfield 29, 3) := by decide +kernel
theorem d_LogDisk_init_43 : decode prog_1_method_1_code 43 = .ok (.aload_n 0, 1) := by decide +kernel
theorem d_LogDisk_init_44 : decode prog_1_method_1_code 44 = .ok (.new 33, 3) := by decide +kernel
theorem d_LogDisk_init_47 : decode prog_1_method_1_code 47 = .ok (.dup, 1) := by decide +kernel
theorem d_LogDisk_init_48 : decode prog_1_method_1_code 48 = .ok (.invokespecial 35, 3) := by decide +kernel
theorem d_LogDisk_init_51 : decode prog_1_method_1_code 51 = .ok (.putfield 36, 3) := by decide +kernel
theorem d_LogDisk_init_54 : decode prog_1_method_1_code 54 = .ok (.aload_n 0, 1) := by decide +kernel
theorem d_LogDisk_init_55 : decode prog_1_method_1_code 55 = .ok (.new 40, 3) := by decide +kernel
theorem d_LogDisk_init_58 : decode prog_1_method_1_code 58 = .ok (.dup, 1) := by decide +kernel
theorem d_LogDisk_init_59 : decode prog_1_method_1_code 59 = .ok (.invokespecial 42, 3) := by decide +kernel
theorem d_LogDisk_init_62 : decode prog_1_method_1_code 62 = .ok (.putfield 43, 3) := by decide +kernel
theorem d_LogDisk_init_65 : decode prog_1_method_1_code 65 = .ok (.aload_n 0, 1) := by decide +kernel
theorem d_LogDisk_init_66 : decode prog_1_method_1_code 66 = .ok (.new 47, 3) := by decide +kernel
theorem d_LogDisk_init_69 : decode prog_1_method_1_code 69 = .ok (.dup, 1) := by decide +kernel
theorem d_LogDisk_init_70 : decode prog_1_method_1_code 70 = .ok (.invokespecial 49, 3) := by decide +kernel
theorem d_LogDisk_init_73 : decode prog_1_method_1_code 73 = .ok (.putfield 50, 3) := by decide +kernel
theorem d_LogDisk_init_76 : decode prog_1_method_1_code 76 = .ok (.aload_n 0, 1) := by decide +kernel
theorem d_LogDisk_init_77 : decode prog_1_method_1_code 77 = .ok (.new 54, 3) := by decide +kernel
theorem d_LogDisk_init_80 : decode prog_1_method_1_code 80 = .ok (.dup, 1) := by decide +kernel
theorem d_LogDisk_init_81 : decode prog_1_method_1_code 81 = .ok (.invokespecial 56, 3) := by decide +kernel
theorem d_LogDisk_init_84 : decode prog_1_method_1_code 84 = .ok (.putfield 57, 3) := by decide +kernel
theorem d_LogDisk_init_87 : decode prog_1_method_1_code 87 = .ok (.bipush 8, 2) := by decide +kernel
theorem d_LogDisk_init_89 : decode prog_1_method_1_code 89 = .ok (.sipush 1024, 3) := by decide +kernel
theorem d_LogDisk_init_92 : decode prog_1_method_1_code 92 = .ok (.iload_n 1, 1) := by decide +kernel
theorem d_LogDisk_init_93 : decode prog_1_method_1_code 93 = .ok (.invokestatic 61, 3) := by decide +kernel
theorem d_LogDisk_init_96 : decode prog_1_method_1_code 96 = .ok (.invokestatic 67, 3) := by decide +kernel
theorem d_LogDisk_init_99 : decode prog_1_method_1_code 99 = .ok (.istore_n 3, 1) := by decide +kernel
theorem d_LogDisk_init_100 : decode prog_1_method_1_code 100 = .ok (.new 70, 3) := by decide +kernel
theorem d_LogDisk_init_103 : decode prog_1_method_1_code 103 = .ok (.dup, 1) := by decide +kernel
theorem d_LogDisk_init_104 : decode prog_1_method_1_code 104 = .ok (.iload_n 3, 1) := by decide +kernel
theorem d_LogDisk_init_105 : decode prog_1_method_1_code 105 = .ok (.invokespecial 72, 3) := by decide +kernel
theorem d_LogDisk_init_108 : decode prog_1_method_1_code 108 = .ok (.astore 4, 2) := by decide +kernel
theorem d_LogDisk_init_110 : decode prog_1_method_1_code 110 = .ok (.iconst 0, 1) := by decide +kernel
theorem d_LogDisk_init_111 : decode prog_1_method_1_code 111 = .ok (.istore 5, 2) := by decide +kernel
theorem d_LogDisk_init_113 : decode prog_1_method_1_code 113 = .ok (.iload 5, 2) := by decide +kernel
theorem d_LogDisk_init_115 : decode prog_1_method_1_code 115 = .ok (.bipush 16, 2) := by decide +kernel
theorem d_LogDisk_init_117 : decode prog_1_method_1_code 117 = .ok (.if_icmp .ge 40, 3) := by decide +kernel
theorem d_LogDisk_init_120 : decode prog_1_method_1_code 120 = .ok (.aload_n 0, 1) := by decide +kernel
theorem d_LogDisk_init_121 : decode prog_1_method_1_code 121 = .ok (.getfield 11, 3) := by decide +kernel
theorem d_LogDisk_init_124 : decode prog_1_method_1_code 124 = .ok (.iload 5, 2) := by decide +kernel
theorem d_LogDisk_init_126 : decode prog_1_method_1_code 126 = .ok (.new 9, 3) := by decide +kernel
theorem d_LogDisk_init_129 : decode prog_1_method_1_code 129 = .ok (.dup, 1) := by decide +kernel
theorem d_LogDisk_init_130 : decode prog_1_method_1_code 130 = .ok (.aload 4, 2) := by decide +kernel
theorem d_LogDisk_init_132 : decode prog_1_method_1_code 132 = .ok (.iload_n 3, 1) := by decide +kernel
theorem d_LogDisk_init_133 : decode prog_1_method_1_code 133 = .ok (.sipush 400, 3) := by decide +kernel
theorem d_LogDisk_init_136 : decode prog_1_method_1_code 136 = .ok (.invokestatic 61, 3) := by decide +kernel
theorem d_LogDisk_init_139 : decode prog_1_method_1_code 139 = .ok (.invokespecial 75, 3) := by decide +kernel
theorem d_LogDisk_init_142 : decode prog_1_method_1_code 142 = .ok (.aastore, 1) := by decide +kernel
theorem d_LogDisk_init_143 : decode prog_1_method_1_code 143 = .ok (.aload_n 0, 1) := by decide +kernel
theorem d_LogDisk_init_144 : decode prog_1_method_1_code 144 = .ok (.getfield 15, 3) := by decide +kernel
theorem d_LogDisk_init_147 : decode prog_1_method_1_code 147 = .ok (.iload 5, 2) := by decide +kernel
theorem d_LogDisk_init_149 : decode prog_1_method_1_code 149 = .ok (.iconst (-1), 1) := by decide +kernel
theorem d_LogDisk_init_150 : decode prog_1_method_1_code 150 = .ok (.iastore, 1) := by decide +kernel
theorem d_LogDisk_init_151 : decode prog_1_method_1_code 151 = .ok (.iinc 5 1, 3) := by decide +kernel
theorem d_LogDisk_init_154 : decode prog_1_method_1_code 154 = .ok (.goto (-41), 3) := by decide +kernel
theorem d_LogDisk_init_157 : decode prog_1_method_1_code 157 = .ok (.aload_n 0, 1) := by decide +kernel
theorem d_LogDisk_init_158 : decode prog_1_method_1_code 158 = .ok (.aload 4, 2) := by decide +kernel
theorem d_LogDisk_init_160 : decode prog_1_method_1_code 160 = .ok (.putfield 78, 3) := by decide +kernel
theorem d_LogDisk_init_163 : decode prog_1_method_1_code 163 = .ok (.aload_n 0, 1) := by decide +kernel
theorem d_LogDisk_init_164 : decode prog_1_method_1_code 164 = .ok (.iload_n 2, 1) := by decide +kernel
theorem d_LogDisk_init_165 : decode prog_1_method_1_code 165 = .ok (.putfield 82, 3) := by decide +kernel
theorem d_LogDisk_init_168 : decode prog_1_method_1_code 168 = .ok (.aload_n 0, 1) := by decide +kernel
theorem d_LogDisk_init_169 : decode prog_1_method_1_code 169 = .ok (.getfield 43, 3) := by decide +kernel
theorem d_LogDisk_init_172 : decode prog_1_method_1_code 172 = .ok (.iload_n 2, 1) := by decide +kernel
theorem d_LogDisk_init_173 : decode prog_1_method_1_code 173 = .ok (.putfield 86, 3) := by decide +kernel
theorem d_LogDisk_init_176 : decode prog_1_method_1_code 176 = .ok (.return_, 1) := by decide +kernel
theorem d_LogDisk_feed_0 : decode prog_1_method_2_code 0 = .ok (.iload_n 3, 1) := by decide +kernel
theorem d_LogDisk_feed_1 : decode prog_1_method_2_code 1 = .ok (.iconst 1, 1) := by decide +kernel
theorem d_LogDisk_feed_2 : decode prog_1_method_2_code 2 = .ok (.if_icmp .lt 9, 3) := by decide +kernel
theorem d_LogDisk_feed_5 : decode prog_1_method_2_code 5 = .ok (.iload_n 3, 1) := by decide +kernel
theorem d_LogDisk_feed_6 : decode prog_1_method_2_code 6 = .ok (.bipush 8, 2) := by decide +kernel
theorem d_LogDisk_feed_8 : decode prog_1_method_2_code 8 = .ok (.if_icmp .le 13, 3) := by decide +kernel
theorem d_LogDisk_feed_11 : decode prog_1_method_2_code 11 = .ok (.new 89, 3) := by decide +kernel
theorem d_LogDisk_feed_14 : decode prog_1_method_2_code 14 = .ok (.dup, 1) := by decide +kernel
theorem d_LogDisk_feed_15 : decode prog_1_method_2_code 15 = .ok (.ldc 91, 2) := by decide +kernel
theorem d_LogDisk_feed_17 : decode prog_1_method_2_code 17 = .ok (.invokespecial 93, 3) := by decide +kernel
theorem d_LogDisk_feed_20 : decode prog_1_method_2_code 20 = .ok (.athrow, 1) := by decide +kernel
theorem d_LogDisk_feed_21 : decode prog_1_method_2_code 21 = .ok (.aload_n 0, 1) := by decide +kernel
theorem d_LogDisk_feed_22 : decode prog_1_method_2_code 22 = .ok (.getfield 22, 3) := by decide +kernel
theorem d_LogDisk_feed_25 : decode prog_1_method_2_code 25 = .ok (.getfield 96, 3) := by decide +kernel
theorem d_LogDisk_feed_28 : decode prog_1_method_2_code 28 = .ok (.sipush 4096, 3) := by decide +kernel
theorem d_LogDisk_feed_31 : decode prog_1_method_2_code 31 = .ok (.iload_n 3, 1) := by decide +kernel
theorem d_LogDisk_feed_32 : decode prog_1_method_2_code 32 = .ok (.isub, 1) := by decide +kernel
theorem d_LogDisk_feed_33 : decode prog_1_method_2_code 33 = .ok (.if_icmp .le 13, 3) := by decide +kernel
theorem d_LogDisk_feed_36 : decode prog_1_method_2_code 36 = .ok (.new 99, 3) := by decide +kernel
theorem d_LogDisk_feed_39 : decode prog_1_method_2_code 39 = .ok (.dup, 1) := by decide +kernel
theorem d_LogDisk_feed_40 : decode prog_1_method_2_code 40 = .ok (.ldc 101, 2) := by decide +kernel
theorem d_LogDisk_feed_42 : decode prog_1_method_2_code 42 = .ok (.invokespecial 103, 3) := by decide +kernel
theorem d_LogDisk_feed_45 : decode prog_1_method_2_code 45 = .ok (.athrow, 1) := by decide +kernel
theorem d_LogDisk_feed_46 : decode prog_1_method_2_code 46 = .ok (.iconst 0, 1) := by decide +kernel
theorem d_LogDisk_feed_47 : decode prog_1_method_2_code 47 = .ok (.istore 4, 2) := by decide +kernel
theorem d_LogDisk_feed_49 : decode prog_1_method_2_code 49 = .ok (.iload 4, 2) := by decide +kernel
theorem d_LogDisk_feed_51 : decode prog_1_method_2_code 51 = .ok (.iload_n 3, 1) := by decide +kernel
theorem d_LogDisk_feed_52 : decode prog_1_method_2_code 52 = .ok (.if_icmp .ge 46, 3) := by decide +kernel
theorem d_LogDisk_feed_55 : decode prog_1_method_2_code 55 = .ok (.aload_n 0, 1) := by decide +kernel
theorem d_LogDisk_feed_56 : decode prog_1_method_2_code 56 = .ok (.getfield 22, 3) := by decide +kernel
theorem d_LogDisk_feed_59 : decode prog_1_method_2_code 59 = .ok (.getfield 104, 3) := by decide +kernel
theorem d_LogDisk_feed_62 : decode prog_1_method_2_code 62 = .ok (.aload_n 0, 1) := by decide +kernel
theorem d_LogDisk_feed_63 : decode prog_1_method_2_code 63 = .ok (.getfield 22, 3) := by decide +kernel
theorem d_LogDisk_feed_66 : decode prog_1_method_2_code 66 = .ok (.getfield 96, 3) := by decide +kernel
theorem d_LogDisk_feed_69 : decode prog_1_method_2_code 69 = .ok (.lload_n 1, 1) := by decide +kernel
theorem d_LogDisk_feed_70 : decode prog_1_method_2_code 70 = .ok (.bipush 8, 2) := by decide +kernel
theorem d_LogDisk_feed_72 : decode prog_1_method_2_code 72 = .ok (.iload 4, 2) := by decide +kernel
theorem d_LogDisk_feed_74 : decode prog_1_method_2_code 74 = .ok (.imul, 1) := by decide +kernel
theorem d_LogDisk_feed_75 : decode prog_1_method_2_code 75 = .ok (.lushr, 1) := by decide +kernel
theorem d_LogDisk_feed_76 : decode prog_1_method_2_code 76 = .ok (.l2i, 1) := by decide +kernel
theorem d_LogDisk_feed_77 : decode prog_1_method_2_code 77 = .ok (.i2b, 1) := by decide +kernel
theorem d_LogDisk_feed_78 : decode prog_1_method_2_code 78 = .ok (.bastore, 1) := by decide +kernel
theorem d_LogDisk_feed_79 : decode prog_1_method_2_code 79 = .ok (.aload_n 0, 1) := by decide +kernel
theorem d_LogDisk_feed_80 : decode prog_1_method_2_code 80 = .ok (.getfield 22, 3) := by decide +kernel
theorem d_LogDisk_feed_83 : decode prog_1_method_2_code 83 = .ok (.dup, 1) := by decide +kernel
theorem d_LogDisk_feed_84 : decode prog_1_method_2_code 84 = .ok (.getfield 96, 3) := by decide +kernel
theorem d_LogDisk_feed_87 : decode prog_1_method_2_code 87 = .ok (.iconst 1, 1) := by decide +kernel
theorem d_LogDisk_feed_88 : decode prog_1_method_2_code 88 = .ok (.iadd, 1) := by decide +kernel
theorem d_LogDisk_feed_89 : decode prog_1_method_2_code 89 = .ok (.putfield 96, 3) := by decide +kernel
theorem d_LogDisk_feed_92 : decode prog_1_method_2_code 92 = .ok (.iinc 4 1, 3) := by decide +kernel
theorem d_LogDisk_feed_95 : decode prog_1_method_2_code 95 = .ok (.goto (-46), 3) := by decide +kernel
theorem d_LogDisk_feed_98 : decode prog_1_method_2_code 98 = .ok (.aload_n 0, 1) := by decide +kernel
theorem d_LogDisk_feed_99 : decode prog_1_method_2_code 99 = .ok (.getfield 22, 3) := by decide +kernel
theorem d_LogDisk_feed_102 : decode prog_1_method_2_code 102 = .ok (.getfield 96, 3) := by decide +kernel
theorem d_LogDisk_feed_105 : decode prog_1_method_2_code 105 = .ok (.ireturn, 1) := by decide +kernel
theorem d_LogDisk_save_0 : decode prog_1_method_3_code 0 = .ok (.iload_n 1, 1) := by decide +kernel
theorem d_LogDisk_save_1 : decode prog_1_method_3_code 1 = .ok (.aload_n 0, 1) := by decide +kernel
theorem d_LogDisk_save_2 : decode prog_1_method_3_code 2 = .ok (.getfield 36, 3) := by decide +kernel
theorem d_LogDisk_save_5 : decode prog_1_method_3_code 5 = .ok (.getfield 108, 3) := by decide +kernel
theorem d_LogDisk_save_8 : decode prog_1_method_3_code 8 = .ok (.if_icmp .lt 9, 3) := by decide +kernel
theorem d_LogDisk_save_11 : decode prog_1_method_3_code 11 = .ok (.iload_n 1, 1) := by decide +kernel
theorem d_LogDisk_save_12 : decode prog_1_method_3_code 12 = .ok (.ldc 111, 2) := by decide +kernel
theorem d_LogDisk_save_14 : decode prog_1_method_3_code 14 = .ok (.if_icmp .le 13, 3) := by decide +kernel
theorem d_LogDisk_save_17 : decode prog_1_method_3_code 17 = .ok (.new 89, 3) := by decide +kernel
theorem d_LogDisk_save_20 : decode prog_1_method_3_code 20 = .ok (.dup, 1) := by decide +kernel
theorem d_LogDisk_save_21 : decode prog_1_method_3_code 21 = .ok (.ldc 112, 2) := by decide +kernel
theorem d_LogDisk_save_23 : decode prog_1_method_3_code 23 = .ok (.invokespecial 93, 3) := by decide +kernel
theorem d_LogDisk_save_26 : decode prog_1_method_3_code 26 = .ok (.athrow, 1) := by decide +kernel
theorem d_LogDisk_save_27 : decode prog_1_method_3_code 27 = .ok (.iload_n 2, 1) := by decide +kernel
theorem d_LogDisk_save_28 : decode prog_1_method_3_code 28 = .ok (.iconst (-1), 1) := by decide +kernel
theorem d_LogDisk_save_29 : decode prog_1_method_3_code 29 = .ok (.if_icmp .lt 9, 3) := by decide +kernel
theorem d_LogDisk_save_32 : decode prog_1_method_3_code 32 = .ok (.iload_n 2, 1) := by decide +kernel
theorem d_LogDisk_save_33 : decode prog_1_method_3_code 33 = .ok (.bipush 6, 2) := by decide +kernel
theorem d_LogDisk_save_35 : decode prog_1_method_3_code 35 = .ok (.if_icmp .le 13, 3) := by decide +kernel
theorem d_LogDisk_save_38 : decode prog_1_method_3_code 38 = .ok (.new 89, 3) := by decide +kernel
theorem d_LogDisk_save_41 : decode prog_1_method_3_code 41 = .ok (.dup, 1) := by decide +kernel
theorem d_LogDisk_save_42 : decode prog_1_method_3_code 42 = .ok (.ldc 114, 2) := by decide +kernel
theorem d_LogDisk_save_44 : decode prog_1_method_3_code 44 = .ok (.invokespecial 93, 3) := by decide +kernel
theorem d_LogDisk_save_47 : decode prog_1_method_3_code 47 = .ok (.athrow, 1) := by decide +kernel
theorem d_LogDisk_save_48 : decode prog_1_method_3_code 48 = .ok (.aload_n 0, 1) := by decide +kernel
theorem d_LogDisk_save_49 : decode prog_1_method_3_code 49 = .ok (.getfield 36, 3) := by decide +kernel
theorem d_LogDisk_save_52 : decode prog_1_method_3_code 52 = .ok (.invokevirtual 116, 3) := by decide +kernel
theorem d_LogDisk_save_55 : decode prog_1_method_3_code 55 = .ok (.istore_n 3, 1) := by decide +kernel
theorem d_LogDisk_save_56 : decode prog_1_method_3_code 56 = .ok (.aload_n 0, 1) := by decide +kernel
theorem d_LogDisk_save_57 : decode prog_1_method_3_code 57 = .ok (.getfield 11, 3) := by decide +kernel
theorem d_LogDisk_save_60 : decode prog_1_method_3_code 60 = .ok (.iload_n 3, 1) := by decide +kernel
theorem d_LogDisk_save_61 : decode prog_1_method_3_code 61 = .ok (.aaload, 1) := by decide +kernel
theorem d_LogDisk_save_62 : decode prog_1_method_3_code 62 = .ok (.bipush 32, 2) := by decide +kernel
theorem d_LogDisk_save_64 : decode prog_1_method_3_code 64 = .ok (.invokevirtual 120, 3) := by decide +kernel
theorem d_LogDisk_save_67 : decode prog_1_method_3_code 67 = .ok (.ifCond .ne 13, 3) := by decide +kernel
theorem d_LogDisk_save_70 : decode prog_1_method_3_code 70 = .ok (.new 124, 3) := by decide +kernel
theorem d_LogDisk_save_73 : decode prog_1_method_3_code 73 = .ok (.dup, 1) := by decide +kernel
theorem d_LogDisk_save_74 : decode prog_1_method_3_code 74 = .ok (.ldc 126, 2) := by decide +kernel
theorem d_LogDisk_save_76 : decode prog_1_method_3_code 76 = .ok (.invokespecial 128, 3) := by decide +kernel
theorem d_LogDisk_save_79 : decode prog_1_method_3_code 79 = .ok (.athrow, 1) := by decide +kernel
theorem d_LogDisk_save_80 : decode prog_1_method_3_code 80 = .ok (.aload_n 0, 1) := by decide +kernel
theorem d_LogDisk_save_81 : decode prog_1_method_3_code 81 = .ok (.getfield 36, 3) := by decide +kernel
theorem d_LogDisk_save_84 : decode prog_1_method_3_code 84 = .ok (.iload_n 3, 1) := by decide +kernel
theorem d_LogDisk_save_85 : decode prog_1_method_3_code 85 = .ok (.aload_n 0, 1) := by decide +kernel
theorem d_LogDisk_save_86 : decode prog_1_method_3_code 86 = .ok (.getfield 36, 3) := by decide +kernel
theorem d_LogDisk_save_89 : decode prog_1_method_3_code 89 = .ok (.getfield 129, 3) := by decide +kernel
theorem d_LogDisk_save_92 : decode prog_1_method_3_code 92 = .ok (.lconst 1, 1) := by decide +kernel
theorem d_LogDisk_save_93 : decode prog_1_method_3_code 93 = .ok (.ladd, 1) := by decide +kernel
theorem d_LogDisk_save_94 : decode prog_1_method_3_code 94 = .ok (.iload_n 1, 1) := by decide +kernel
theorem d_LogDisk_save_95 : decode prog_1_method_3_code 95 = .ok (.iload_n 2, 1) := by decide +kernel
theorem d_LogDisk_save_96 : decode prog_1_method_3_code 96 = .ok (.invokevirtual 133, 3) := by decide +kernel
theorem d_LogDisk_save_99 : decode prog_1_method_3_code 99 = .ok (.aload_n 0, 1) := by decide +kernel
theorem d_LogDisk_save_100 : decode prog_1_method_3_code 100 = .ok (.getfield 36, 3) := by decide +kernel
theorem d_LogDisk_save_103 : decode prog_1_method_3_code 103 = .ok (.iconst 1, 1) := by decide +kernel
theorem d_LogDisk_save_104 : decode prog_1_method_3_code 104 = .ok (.putfield 137, 3) := by decide +kernel
theorem d_LogDisk_save_107 : decode prog_1_method_3_code 107 = .ok (.aload_n 0, 1) := by decide +kernel
theorem d_LogDisk_save_108 : decode prog_1_method_3_code 108 = .ok (.invokevirtual 141, 3) := by decide +kernel
theorem d_LogDisk_save_111 : decode prog_1_method_3_code 111 = .ok (.aload_n 0, 1) := by decide +kernel
theorem d_LogDisk_save_112 : decode prog_1_method_3_code 112 = .ok (.iconst 1, 1) := by decide +kernel
theorem d_LogDisk_save_113 : decode prog_1_method_3_code 113 = .ok (.putfield 144, 3) := by decide +kernel
theorem d_LogDisk_save_116 : decode prog_1_method_3_code 116 = .ok (.iload_n 3, 1) := by decide +kernel
theorem d_LogDisk_save_117 : decode prog_1_method_3_code 117 = .ok (.ireturn, 1) := by decide +kernel
theorem d_LogDisk_append_0 : decode prog_1_method_4_code 0 = .ok (.aload_n 0, 1) := by decide +kernel
theorem d_LogDisk_append_1 : decode prog_1_method_4_code 1 = .ok (.getfield 22, 3) := by decide +kernel
theorem d_LogDisk_append_4 : decode prog_1_method_4_code 4 = .ok (.invokevirtual 147, 3) := by decide +kernel
theorem d_LogDisk_append_7 : decode prog_1_method_4_code 7 = .ok (.istore_n 3, 1) := by decide +kernel
theorem d_LogDisk_append_8 : decode prog_1_method_4_code 8 = .ok (.iload_n 1, 1) := by decide +kernel
theorem d_LogDisk_append_9 : decode prog_1_method_4_code 9 = .ok (.aload_n 0, 1) := by decide +kernel
theorem d_LogDisk_append_10 : decode prog_1_method_4_code 10 = .ok (.aload_n 0, 1) := by decide +kernel
theorem d_LogDisk_append_11 : decode prog_1_method_4_code 11 = .ok (.getfield 150, 3) := by decide +kernel
theorem d_LogDisk_append_14 : decode prog_1_method_4_code 14 = .ok (.invokevirtual 153, 3) := by decide +kernel
theorem d_LogDisk_append_17 : decode prog_1_method_4_code 17 = .ok (.if_icmp .lt 9, 3) := by decide +kernel
theorem d_LogDisk_append_20 : decode prog_1_method_4_code 20 = .ok (.iload_n 1, 1) := by decide +kernel
theorem d_LogDisk_append_21 : decode prog_1_method_4_code 21 = .ok (.ldc 111, 2) := by decide +kernel
theorem d_LogDisk_append_23 : decode prog_1_method_4_code 23 = .ok (.if_icmp .le 13, 3) := by decide +kernel
theorem d_LogDisk_append_26 : decode prog_1_method_4_code 26 = .ok (.new 89, 3) := by decide +kernel
theorem d_LogDisk_append_29 : decode prog_1_method_4_code 29 = .ok (.dup, 1) := by decide +kernel
theorem d_LogDisk_append_30 : decode prog_1_method_4_code 30 = .ok (.ldc 157, 2) := by decide +kernel
theorem d_LogDisk_append_32 : decode prog_1_method_4_code 32 = .ok (.invokespecial 93, 3) := by decide +kernel
theorem d_LogDisk_append_35 : decode prog_1_method_4_code 35 = .ok (.athrow, 1) := by decide +kernel
theorem d_LogDisk_append_36 : decode prog_1_method_4_code 36 = .ok (.iload_n 2, 1) := by decide +kernel
theorem d_LogDisk_append_37 : decode prog_1_method_4_code 37 = .ok (.ifCond .lt 8, 3) := by decide +kernel
theorem d_LogDisk_append_40 : decode prog_1_method_4_code 40 = .ok (.iload_n 2, 1) := by decide +kernel
theorem d_LogDisk_append_41 : decode prog_1_method_4_code 41 = .ok (.iconst 2, 1) := by decide +kernel
theorem d_LogDisk_append_42 : decode prog_1_method_4_code 42 = .ok (.if_icmp .le 13, 3) := by decide +kernel
theorem d_LogDisk_append_45 : decode prog_1_method_4_code 45 = .ok (.new 89, 3) := by decide +kernel
theorem d_LogDisk_append_48 : decode prog_1_method_4_code 48 = .ok (.dup, 1) := by decide +kernel
theorem d_LogDisk_append_49 : decode prog_1_method_4_code 49 = .ok (.ldc 159, 2) := by decide +kernel
theorem d_LogDisk_append_51 : decode prog_1_method_4_code 51 = .ok (.invokespecial 93, 3) := by decide +kernel
theorem d_LogDisk_append_54 : decode prog_1_method_4_code 54 = .ok (.athrow, 1) := by decide +kernel
theorem d_LogDisk_append_55 : decode prog_1_method_4_code 55 = .ok (.aload_n 0, 1) := by decide +kernel
theorem d_LogDisk_append_56 : decode prog_1_method_4_code 56 = .ok (.getfield 150, 3) := by decide +kernel
theorem d_LogDisk_append_59 : decode prog_1_method_4_code 59 = .ok (.aload_n 0, 1) := by decide +kernel
theorem d_LogDisk_append_60 : decode prog_1_method_4_code 60 = .ok (.getfield 43, 3) := by decide +kernel
theorem d_LogDisk_append_63 : decode prog_1_method_4_code 63 = .ok (.getfield 161, 3) := by decide +kernel
theorem d_LogDisk_append_66 : decode prog_1_method_4_code 66 = .ok (.isub, 1) := by decide +kernel
theorem d_LogDisk_append_67 : decode prog_1_method_4_code 67 = .ok (.sipush 300, 3) := by decide +kernel
theorem d_LogDisk_append_70 : decode prog_1_method_4_code 70 = .ok (.if_icmp .lt 13, 3) := by decide +kernel
theorem d_LogDisk_append_73 : decode prog_1_method_4_code 73 = .ok (.new 99, 3) := by decide +kernel
theorem d_LogDisk_append_76 : decode prog_1_method_4_code 76 = .ok (.dup, 1) := by decide +kernel
theorem d_LogDisk_append_77 : decode prog_1_method_4_code 77 = .ok (.ldc 164, 2) := by decide +kernel
theorem d_LogDisk_append_79 : decode prog_1_method_4_code 79 = .ok (.invokespecial 103, 3) := by decide +kernel
theorem d_LogDisk_append_82 : decode prog_1_method_4_code 82 = .ok (.athrow, 1) := by decide +kernel
theorem d_LogDisk_append_83 : decode prog_1_method_4_code 83 = .ok (.aload_n 0, 1) := by decide +kernel
theorem d_LogDisk_append_84 : decode prog_1_method_4_code 84 = .ok (.invokevirtual 166, 3) := by decide +kernel
theorem d_LogDisk_append_87 : decode prog_1_method_4_code 87 = .ok (.istore 4, 2) := by decide +kernel
theorem d_LogDisk_append_89 : decode prog_1_method_4_code 89 = .ok (.iload 4, 2) := by decide +kernel
theorem d_LogDisk_append_91 : decode prog_1_method_4_code 91 = .ok (.ifCond .eq 10, 3) := by decide +kernel
theorem d_LogDisk_append_94 : decode prog_1_method_4_code 94 = .ok (.aload_n 0, 1) := by decide +kernel
theorem d_LogDisk_append_95 : decode prog_1_method_4_code 95 = .ok (.invokevirtual 170, 3) := by decide +kernel
theorem d_LogDisk_append_98 : decode prog_1_method_4_code 98 = .ok (.goto 10, 3) := by decide +kernel
theorem d_LogDisk_append_101 : decode prog_1_method_4_code 101 = .ok (.aload_n 0, 1) := by decide +kernel
theorem d_LogDisk_append_102 : decode prog_1_method_4_code 102 = .ok (.getfield 50, 3) := by decide +kernel
theorem d_LogDisk_append_105 : decode prog_1_method_4_code 105 = .ok (.invokevirtual 173, 3) := by decide +kernel
theorem d_LogDisk_append_108 : decode prog_1_method_4_code 108 = .ok (.istore 5, 2) := by decide +kernel
theorem d_LogDisk_append_110 : decode prog_1_method_4_code 110 = .ok (.iload 4, 2) := by decide +kernel
theorem d_LogDisk_append_112 : decode prog_1_method_4_code 112 = .ok (.ifCond .eq 8, 3) := by decide +kernel
theorem d_LogDisk_append_115 : decode prog_1_method_4_code 115 = .ok (.bipush 24, 2) := by decide +kernel
theorem d_LogDisk_append_117 : decode prog_1_method_4_code 117 = .ok (.goto 4, 3) := by decide +kernel
theorem d_LogDisk_append_120 : decode prog_1_method_4_code 120 = .ok (.iconst 0, 1) := by decide +kernel
theorem d_LogDisk_append_121 : decode prog_1_method_4_code 121 = .ok (.bipush 25, 2) := by decide +kernel
theorem d_LogDisk_append_123 : decode prog_1_method_4_code 123 = .ok (.iadd, 1) := by decide +kernel
theorem d_LogDisk_append_124 : decode prog_1_method_4_code 124 = .ok (.iload_n 3, 1) := by decide +kernel
theorem d_LogDisk_append_125 : decode prog_1_method_4_code 125 = .ok (.iadd, 1) := by decide +kernel
theorem d_LogDisk_append_126 : decode prog_1_method_4_code 126 = .ok (.istore 6, 2) := by decide +kernel
theorem d_LogDisk_append_128 : decode prog_1_method_4_code 128 = .ok (.iload 5, 2) := by decide +kernel
theorem d_LogDisk_append_130 : decode prog_1_method_4_code 130 = .ok (.iconst (-1), 1) := by decide +kernel
theorem d_LogDisk_append_131 : decode prog_1_method_4_code 131 = .ok (.if_icmp .eq 18, 3) := by decide +kernel
theorem d_LogDisk_append_134 : decode prog_1_method_4_code 134 = .ok (.aload_n 0, 1) := by decide +kernel
theorem d_LogDisk_append_135 : decode prog_1_method_4_code 135 = .ok (.getfield 11, 3) := by decide +kernel
theorem d_LogDisk_append_138 : decode prog_1_method_4_code 138 = .ok (.iload 5, 2) := by decide +kernel
theorem d_LogDisk_append_140 : decode prog_1_method_4_code 140 = .ok (.aaload, 1) := by decide +kernel
theorem d_LogDisk_append_141 : decode prog_1_method_4_code 141 = .ok (.iload 6, 2) := by decide +kernel
theorem d_LogDisk_append_143 : decode prog_1_method_4_code 143 = .ok (.invokevirtual 176, 3) := by decide +kernel
theorem d_LogDisk_append_146 : decode prog_1_method_4_code 146 = .ok (.ifCond .ne 13, 3) := by decide +kernel
theorem d_LogDisk_append_149 : decode prog_1_method_4_code 149 = .ok (.new 124, 3) := by decide +kernel
theorem d_LogDisk_append_152 : decode prog_1_method_4_code 152 = .ok (.dup, 1) := by decide +kernel
theorem d_LogDisk_append_153 : decode prog_1_method_4_code 153 = .ok (.ldc 126, 2) := by decide +kernel
theorem d_LogDisk_append_155 : decode prog_1_method_4_code 155 = .ok (.invokespecial 128, 3) := by decide +kernel
theorem d_LogDisk_append_158 : decode prog_1_method_4_code 158 = .ok (.athrow, 1) := by decide +kernel
theorem d_LogDisk_append_159 : decode prog_1_method_4_code 159 = .ok (.iload 4, 2) := by decide +kernel
theorem d_LogDisk_append_161 : decode prog_1_method_4_code 161 = .ok (.ifCond .eq 9, 3) := by decide +kernel
theorem d_LogDisk_append_164 : decode prog_1_method_4_code 164 = .ok (.aload_n 0, 1) := by decide +kernel
theorem d_LogDisk_append_165 : decode prog_1_method_4_code 165 = .ok (.iload 5, 2) := by decide +kernel
theorem d_LogDisk_append_167 : decode prog_1_method_4_code 167 = .ok (.invokevirtual 179, 3) := by decide +kernel
theorem d_LogDisk_append_170 : decode prog_1_method_4_code 170 = .ok (.aload_n 0, 1) := by decide +kernel
theorem d_LogDisk_append_171 : decode prog_1_method_4_code 171 = .ok (.iload 5, 2) := by decide +kernel
theorem d_LogDisk_append_173 : decode prog_1_method_4_code 173 = .ok (.iload_n 1, 1) := by decide +kernel
theorem d_LogDisk_append_174 : decode prog_1_method_4_code 174 = .ok (.iload_n 2, 1) := by decide +kernel
theorem d_LogDisk_append_175 : decode prog_1_method_4_code 175 = .ok (.iload_n 3, 1) := by decide +kernel
theorem d_LogDisk_append_176 : decode prog_1_method_4_code 176 = .ok (.invokevirtual 182, 3) := by decide +kernel
theorem d_LogDisk_append_179 : decode prog_1_method_4_code 179 = .ok (.aload_n 0, 1) := by decide +kernel
theorem d_LogDisk_append_180 : decode prog_1_method_4_code 180 = .ok (.iconst 1, 1) := by decide +kernel
theorem d_LogDisk_append_181 : decode prog_1_method_4_code 181 = .ok (.putfield 144, 3) := by decide +kernel
theorem d_LogDisk_append_184 : decode prog_1_method_4_code 184 = .ok (.aload_n 0, 1) := by decide +kernel
theorem d_LogDisk_append_185 : decode prog_1_method_4_code 185 = .ok (.getfield 150, 3) := by decide +kernel
theorem d_LogDisk_append_188 : decode prog_1_method_4_code 188 = .ok (.ireturn, 1) := by decide +kernel
theorem d_LogDisk_cutFrom_0 : decode prog_1_method_5_code 0 = .ok (.aload_n 0, 1) := by decide +kernel
theorem d_LogDisk_cutFrom_1 : decode prog_1_method_5_code 1 = .ok (.iload_n 1, 1) := by decide +kernel
theorem d_LogDisk_cutFrom_2 : decode prog_1_method_5_code 2 = .ok (.invokevirtual 186, 3) := by decide +kernel
theorem d_LogDisk_cutFrom_5 : decode prog_1_method_5_code 5 = .ok (.ifCond .ne 13, 3) := by decide +kernel
theorem d_LogDisk_cutFrom_8 : decode prog_1_method_5_code 8 = .ok (.new 189, 3) := by decide +kernel
theorem d_LogDisk_cutFrom_11 : decode prog_1_method_5_code 11 = .ok (.dup, 1) := by decide +kernel
theorem d_LogDisk_cutFrom_12 : decode prog_1_method_5_code 12 = .ok (.ldc 191, 2) := by decide +kernel
theorem d_LogDisk_cutFrom_14 : decode prog_1_method_5_code 14 = .ok (.invokespecial 193, 3) := by decide +kernel
theorem d_LogDisk_cutFrom_17 : decode prog_1_method_5_code 17 = .ok (.athrow, 1) := by decide +kernel
theorem d_LogDisk_cutFrom_18 : decode prog_1_method_5_code 18 = .ok (.aload_n 0, 1) := by decide +kernel
theorem d_LogDisk_cutFrom_19 : decode prog_1_method_5_code 19 = .ok (.getfield 150, 3) := by decide +kernel
theorem d_LogDisk_cutFrom_22 : decode prog_1_method_5_code 22 = .ok (.iload_n 1, 1) := by decide +kernel
theorem d_LogDisk_cutFrom_23 : decode prog_1_method_5_code 23 = .ok (.isub, 1) := by decide +kernel
theorem d_LogDisk_cutFrom_24 : decode prog_1_method_5_code 24 = .ok (.iconst 1, 1) := by decide +kernel
theorem d_LogDisk_cutFrom_25 : decode prog_1_method_5_code 25 = .ok (.iadd, 1) := by decide +kernel
theorem d_LogDisk_cutFrom_26 : decode prog_1_method_5_code 26 = .ok (.istore_n 2, 1) := by decide +kernel
theorem d_LogDisk_cutFrom_27 : decode prog_1_method_5_code 27 = .ok (.aload_n 0, 1) := by decide +kernel
theorem d_LogDisk_cutFrom_28 : decode prog_1_method_5_code 28 = .ok (.getfield 50, 3) := by decide +kernel
theorem d_LogDisk_cutFrom_31 : decode prog_1_method_5_code 31 = .ok (.getfield 194, 3) := by decide +kernel
theorem d_LogDisk_cutFrom_34 : decode prog_1_method_5_code 34 = .ok (.iconst 1, 1) := by decide +kernel
theorem d_LogDisk_cutFrom_35 : decode prog_1_method_5_code 35 = .ok (.isub, 1) := by decide +kernel
theorem d_LogDisk_cutFrom_36 : decode prog_1_method_5_code 36 = .ok (.istore_n 3, 1) := by decide +kernel
theorem d_LogDisk_cutFrom_37 : decode prog_1_method_5_code 37 = .ok (.iload_n 3, 1) := by decide +kernel
theorem d_LogDisk_cutFrom_38 : decode prog_1_method_5_code 38 = .ok (.ifCond .lt 52, 3) := by decide +kernel
theorem d_LogDisk_cutFrom_41 : decode prog_1_method_5_code 41 = .ok (.aload_n 0, 1) := by decide +kernel
theorem d_LogDisk_cutFrom_42 : decode prog_1_method_5_code 42 = .ok (.getfield 50, 3) := by decide +kernel
theorem d_LogDisk_cutFrom_45 : decode prog_1_method_5_code 45 = .ok (.getfield 197, 3) := by decide +kernel
theorem d_LogDisk_cutFrom_48 : decode prog_1_method_5_code 48 = .ok (.iload_n 3, 1) := by decide +kernel
theorem d_LogDisk_cutFrom_49 : decode prog_1_method_5_code 49 = .ok (.iaload, 1) := by decide +kernel
theorem d_LogDisk_cutFrom_50 : decode prog_1_method_5_code 50 = .ok (.iload_n 1, 1) := by decide +kernel
theorem d_LogDisk_cutFrom_51 : decode prog_1_method_5_code 51 = .ok (.if_icmp .lt 39, 3) := by decide +kernel
theorem d_LogDisk_cutFrom_54 : decode prog_1_method_5_code 54 = .ok (.aload_n 0, 1) := by decide +kernel
theorem d_LogDisk_cutFrom_55 : decode prog_1_method_5_code 55 = .ok (.getfield 11, 3) := by decide +kernel
theorem d_LogDisk_cutFrom_58 : decode prog_1_method_5_code 58 = .ok (.aload_n 0, 1) := by decide +kernel
theorem d_LogDisk_cutFrom_59 : decode prog_1_method_5_code 59 = .ok (.getfield 50, 3) := by decide +kernel
theorem d_LogDisk_cutFrom_62 : decode prog_1_method_5_code 62 = .ok (.getfield 200, 3) := by decide +kernel
theorem d_LogDisk_cutFrom_65 : decode prog_1_method_5_code 65 = .ok (.iload_n 3, 1) := by decide +kernel
theorem d_LogDisk_cutFrom_66 : decode prog_1_method_5_code 66 = .ok (.iaload, 1) := by decide +kernel
theorem d_LogDisk_cutFrom_67 : decode prog_1_method_5_code 67 = .ok (.aaload, 1) := by decide +kernel
theorem d_LogDisk_cutFrom_68 : decode prog_1_method_5_code 68 = .ok (.invokevirtual 203, 3) := by decide +kernel
theorem d_LogDisk_cutFrom_71 : decode prog_1_method_5_code 71 = .ok (.aload_n 0, 1) := by decide +kernel
theorem d_LogDisk_cutFrom_72 : decode prog_1_method_5_code 72 = .ok (.getfield 50, 3) := by decide +kernel
theorem d_LogDisk_cutFrom_75 : decode prog_1_method_5_code 75 = .ok (.dup, 1) := by decide +kernel
theorem d_LogDisk_cutFrom_76 : decode prog_1_method_5_code 76 = .ok (.getfield 194, 3) := by decide +kernel
theorem d_LogDisk_cutFrom_79 : decode prog_1_method_5_code 79 = .ok (.iconst 1, 1) := by decide +kernel
theorem d_LogDisk_cutFrom_80 : decode prog_1_method_5_code 80 = .ok (.isub, 1) := by decide +kernel
theorem d_LogDisk_cutFrom_81 : decode prog_1_method_5_code 81 = .ok (.putfield 194, 3) := by decide +kernel
theorem d_LogDisk_cutFrom_84 : decode prog_1_method_5_code 84 = .ok (.iinc 3 (-1), 3) := by decide +kernel
theorem d_LogDisk_cutFrom_87 : decode prog_1_method_5_code 87 = .ok (.goto (-50), 3) := by decide +kernel
theorem d_LogDisk_cutFrom_90 : decode prog_1_method_5_code 90 = .ok (.aload_n 0, 1) := by decide +kernel
theorem d_LogDisk_cutFrom_91 : decode prog_1_method_5_code 91 = .ok (.getfield 57, 3) := by decide +kernel
theorem d_LogDisk_cutFrom_94 : decode prog_1_method_5_code 94 = .ok (.iload_n 1, 1) := by decide +kernel
theorem d_LogDisk_cutFrom_95 : decode prog_1_method_5_code 95 = .ok (.invokevirtual 206, 3) := by decide +kernel
theorem d_LogDisk_cutFrom_98 : decode prog_1_method_5_code 98 = .ok (.istore_n 3, 1) := by decide +kernel
theorem d_LogDisk_cutFrom_99 : decode prog_1_method_5_code 99 = .ok (.aload_n 0, 1) := by decide +kernel
theorem d_LogDisk_cutFrom_100 : decode prog_1_method_5_code 100 = .ok (.getfield 50, 3) := by decide +kernel
theorem d_LogDisk_cutFrom_103 : decode prog_1_method_5_code 103 = .ok (.invokevirtual 173, 3) := by decide +kernel
theorem d_LogDisk_cutFrom_106 : decode prog_1_method_5_code 106 = .ok (.aload_n 0, 1) := by decide +kernel
theorem d_LogDisk_cutFrom_107 : decode prog_1_method_5_code 107 = .ok (.getfield 57, 3) := by decide +kernel
theorem d_LogDisk_cutFrom_110 : decode prog_1_method_5_code 110 = .ok (.getfield 209, 3) := by decide +kernel
theorem d_LogDisk_cutFrom_113 : decode prog_1_method_5_code 113 = .ok (.iload_n 3, 1) := by decide +kernel
theorem d_LogDisk_cutFrom_114 : decode prog_1_method_5_code 114 = .ok (.iaload, 1) := by decide +kernel
theorem d_LogDisk_cutFrom_115 : decode prog_1_method_5_code 115 = .ok (.if_icmp .ne 29, 3) := by decide +kernel
theorem d_LogDisk_cutFrom_118 : decode prog_1_method_5_code 118 = .ok (.aload_n 0, 1) := by decide +kernel
theorem d_LogDisk_cutFrom_119 : decode prog_1_method_5_code 119 = .ok (.getfield 11, 3) := by decide +kernel
theorem d_LogDisk_cutFrom_122 : decode prog_1_method_5_code 122 = .ok (.aload_n 0, 1) := by decide +kernel
theorem d_LogDisk_cutFrom_123 : decode prog_1_method_5_code 123 = .ok (.getfield 57, 3) := by decide +kernel
theorem d_LogDisk_cutFrom_126 : decode prog_1_method_5_code 126 = .ok (.getfield 209, 3) := by decide +kernel
theorem d_LogDisk_cutFrom_129 : decode prog_1_method_5_code 129 = .ok (.iload_n 3, 1) := by decide +kernel
theorem d_LogDisk_cutFrom_130 : decode prog_1_method_5_code 130 = .ok (.iaload, 1) := by decide +kernel
theorem d_LogDisk_cutFrom_131 : decode prog_1_method_5_code 131 = .ok (.aaload, 1) := by decide +kernel
theorem d_LogDisk_cutFrom_132 : decode prog_1_method_5_code 132 = .ok (.aload_n 0, 1) := by decide +kernel
theorem d_LogDisk_cutFrom_133 : decode prog_1_method_5_code 133 = .ok (.getfield 57, 3) := by decide +kernel
theorem d_LogDisk_cutFrom_136 : decode prog_1_method_5_code 136 = .ok (.getfield 210, 3) := by decide +kernel
theorem d_LogDisk_cutFrom_139 : decode prog_1_method_5_code 139 = .ok (.iload_n 3, 1) := by decide +kernel
theorem d_LogDisk_cutFrom_140 : decode prog_1_method_5_code 140 = .ok (.iaload, 1) := by decide +kernel
theorem d_LogDisk_cutFrom_141 : decode prog_1_method_5_code 141 = .ok (.invokevirtual 213, 3) := by decide +kernel
theorem d_LogDisk_cutFrom_144 : decode prog_1_method_5_code 144 = .ok (.aload_n 0, 1) := by decide +kernel
theorem d_LogDisk_cutFrom_145 : decode prog_1_method_5_code 145 = .ok (.iload_n 1, 1) := by decide +kernel
theorem d_LogDisk_cutFrom_146 : decode prog_1_method_5_code 146 = .ok (.iconst 1, 1) := by decide +kernel
theorem d_LogDisk_cutFrom_147 : decode prog_1_method_5_code 147 = .ok (.isub, 1) := by decide +kernel
theorem d_LogDisk_cutFrom_148 : decode prog_1_method_5_code 148 = .ok (.putfield 150, 3) := by decide +kernel
theorem d_LogDisk_cutFrom_151 : decode prog_1_method_5_code 151 = .ok (.aload_n 0, 1) := by decide +kernel
theorem d_LogDisk_cutFrom_152 : decode prog_1_method_5_code 152 = .ok (.iconst 1, 1) := by decide +kernel
theorem d_LogDisk_cutFrom_153 : decode prog_1_method_5_code 153 = .ok (.putfield 144, 3) := by decide +kernel
theorem d_LogDisk_cutFrom_156 : decode prog_1_method_5_code 156 = .ok (.iload_n 2, 1) := by decide +kernel
theorem d_LogDisk_cutFrom_157 : decode prog_1_method_5_code 157 = .ok (.ireturn, 1) := by decide +kernel
theorem d_LogDisk_compact_0 : decode prog_1_method_6_code 0 = .ok (.aload_n 0, 1) := by decide +kernel
theorem d_LogDisk_compact_1 : decode prog_1_method_6_code 1 = .ok (.getfield 22, 3) := by decide +kernel
theorem d_LogDisk_compact_4 : decode prog_1_method_6_code 4 = .ok (.invokevirtual 147, 3) := by decide +kernel
theorem d_LogDisk_compact_7 : decode prog_1_method_6_code 7 = .ok (.istore_n 3, 1) := by decide +kernel
theorem d_LogDisk_compact_8 : decode prog_1_method_6_code 8 = .ok (.aload_n 0, 1) := by decide +kernel
theorem d_LogDisk_compact_9 : decode prog_1_method_6_code 9 = .ok (.iload_n 1, 1) := by decide +kernel
theorem d_LogDisk_compact_10 : decode prog_1_method_6_code 10 = .ok (.invokevirtual 186, 3) := by decide +kernel
theorem d_LogDisk_compact_13 : decode prog_1_method_6_code 13 = .ok (.ifCond .ne 13, 3) := by decide +kernel
theorem d_LogDisk_compact_16 : decode prog_1_method_6_code 16 = .ok (.new 189, 3) := by decide +kernel
theorem d_LogDisk_compact_19 : decode prog_1_method_6_code 19 = .ok (.dup, 1) := by decide +kernel
theorem d_LogDisk_compact_20 : decode prog_1_method_6_code 20 = .ok (.ldc 191, 2) := by decide +kernel
theorem d_LogDisk_compact_22 : decode prog_1_method_6_code 22 = .ok (.invokespecial 193, 3) := by decide +kernel
theorem d_LogDisk_compact_25 : decode prog_1_method_6_code 25 = .ok (.athrow, 1) := by decide +kernel
theorem d_LogDisk_compact_26 : decode prog_1_method_6_code 26 = .ok (.aload_n 0, 1) := by decide +kernel
theorem d_LogDisk_compact_27 : decode prog_1_method_6_code 27 = .ok (.getfield 11, 3) := by decide +kernel
theorem d_LogDisk_compact_30 : decode prog_1_method_6_code 30 = .ok (.aload_n 0, 1) := by decide +kernel
theorem d_LogDisk_compact_31 : decode prog_1_method_6_code 31 = .ok (.getfield 43, 3) := by decide +kernel
theorem d_LogDisk_compact_34 : decode prog_1_method_6_code 34 = .ok (.invokevirtual 216, 3) := by decide +kernel
theorem d_LogDisk_compact_37 : decode prog_1_method_6_code 37 = .ok (.aaload, 1) := by decide +kernel
theorem d_LogDisk_compact_38 : decode prog_1_method_6_code 38 = .ok (.bipush 20, 2) := by decide +kernel
theorem d_LogDisk_compact_40 : decode prog_1_method_6_code 40 = .ok (.iload_n 3, 1) := by decide +kernel
theorem d_LogDisk_compact_41 : decode prog_1_method_6_code 41 = .ok (.iadd, 1) := by decide +kernel
theorem d_LogDisk_compact_42 : decode prog_1_method_6_code 42 = .ok (.invokevirtual 120, 3) := by decide +kernel
theorem d_LogDisk_compact_45 : decode prog_1_method_6_code 45 = .ok (.ifCond .ne 13, 3) := by decide +kernel
theorem d_LogDisk_compact_48 : decode prog_1_method_6_code 48 = .ok (.new 124, 3) := by decide +kernel
theorem d_LogDisk_compact_51 : decode prog_1_method_6_code 51 = .ok (.dup, 1) := by decide +kernel
theorem d_LogDisk_compact_52 : decode prog_1_method_6_code 52 = .ok (.ldc 126, 2) := by decide +kernel
theorem d_LogDisk_compact_54 : decode prog_1_method_6_code 54 = .ok (.invokespecial 128, 3) := by decide +kernel
theorem d_LogDisk_compact_57 : decode prog_1_method_6_code 57 = .ok (.athrow, 1) := by decide +kernel
theorem d_LogDisk_compact_58 : decode prog_1_method_6_code 58 = .ok (.iload_n 1, 1) := by decide +kernel
theorem d_LogDisk_compact_59 : decode prog_1_method_6_code 59 = .ok (.aload_n 0, 1) := by decide +kernel
theorem d_LogDisk_compact_60 : decode prog_1_method_6_code 60 = .ok (.getfield 43, 3) := by decide +kernel
theorem d_LogDisk_compact_63 : decode prog_1_method_6_code 63 = .ok (.getfield 161, 3) := by decide +kernel
theorem d_LogDisk_compact_66 : decode prog_1_method_6_code 66 = .ok (.isub, 1) := by decide +kernel
theorem d_LogDisk_compact_67 : decode prog_1_method_6_code 67 = .ok (.istore 4, 2) := by decide +kernel
theorem d_LogDisk_compact_69 : decode prog_1_method_6_code 69 = .ok (.aload_n 0, 1) := by decide +kernel
theorem d_LogDisk_compact_70 : decode prog_1_method_6_code 70 = .ok (.iload_n 1, 1) := by decide +kernel
theorem d_LogDisk_compact_71 : decode prog_1_method_6_code 71 = .ok (.aload_n 0, 1) := by decide +kernel
theorem d_LogDisk_compact_72 : decode prog_1_method_6_code 72 = .ok (.iload_n 1, 1) := by decide +kernel
theorem d_LogDisk_compact_73 : decode prog_1_method_6_code 73 = .ok (.invokevirtual 153, 3) := by decide +kernel
theorem d_LogDisk_compact_76 : decode prog_1_method_6_code 76 = .ok (.iload_n 2, 1) := by decide +kernel
theorem d_LogDisk_compact_77 : decode prog_1_method_6_code 77 = .ok (.iload_n 3, 1) := by decide +kernel
theorem d_LogDisk_compact_78 : decode prog_1_method_6_code 78 = .ok (.invokevirtual 217, 3) := by decide +kernel
theorem d_LogDisk_compact_81 : decode prog_1_method_6_code 81 = .ok (.iload 4, 2) := by decide +kernel
theorem d_LogDisk_compact_83 : decode prog_1_method_6_code 83 = .ok (.ireturn, 1) := by decide +kernel
theorem d_LogDisk_take_0 : decode prog_1_method_7_code 0 = .ok (.aload_n 0, 1) := by decide +kernel
theorem d_LogDisk_take_1 : decode prog_1_method_7_code 1 = .ok (.getfield 22, 3) := by decide +kernel
theorem d_LogDisk_take_4 : decode prog_1_method_7_code 4 = .ok (.invokevirtual 147, 3) := by decide +kernel
theorem d_LogDisk_take_7 : decode prog_1_method_7_code 7 = .ok (.istore 4, 2) := by decide +kernel
theorem d_LogDisk_take_9 : decode prog_1_method_7_code 9 = .ok (.iload_n 1, 1) := by decide +kernel
theorem d_LogDisk_take_10 : decode prog_1_method_7_code 10 = .ok (.aload_n 0, 1) := by decide +kernel
theorem d_LogDisk_take_11 : decode prog_1_method_7_code 11 = .ok (.getfield 43, 3) := by decide +kernel
theorem d_LogDisk_take_14 : decode prog_1_method_7_code 14 = .ok (.getfield 161, 3) := by decide +kernel
theorem d_LogDisk_take_17 : decode prog_1_method_7_code 17 = .ok (.if_icmp .le 9, 3) := by decide +kernel
theorem d_LogDisk_take_20 : decode prog_1_method_7_code 20 = .ok (.iload_n 1, 1) := by decide +kernel
theorem d_LogDisk_take_21 : decode prog_1_method_7_code 21 = .ok (.ldc 111, 2) := by decide +kernel
theorem d_LogDisk_take_23 : decode prog_1_method_7_code 23 = .ok (.if_icmp .le 13, 3) := by decide +kernel
theorem d_LogDisk_take_26 : decode prog_1_method_7_code 26 = .ok (.new 89, 3) := by decide +kernel
theorem d_LogDisk_take_29 : decode prog_1_method_7_code 29 = .ok (.dup, 1) := by decide +kernel
theorem d_LogDisk_take_30 : decode prog_1_method_7_code 30 = .ok (.ldc 220, 2) := by decide +kernel
theorem d_LogDisk_take_32 : decode prog_1_method_7_code 32 = .ok (.invokespecial 93, 3) := by decide +kernel
theorem d_LogDisk_take_35 : decode prog_1_method_7_code 35 = .ok (.athrow, 1) := by decide +kernel
theorem d_LogDisk_take_36 : decode prog_1_method_7_code 36 = .ok (.iload_n 2, 1) := by decide +kernel
theorem d_LogDisk_take_37 : decode prog_1_method_7_code 37 = .ok (.ifCond .lt 9, 3) := by decide +kernel
theorem d_LogDisk_take_40 : decode prog_1_method_7_code 40 = .ok (.iload_n 2, 1) := by decide +kernel
theorem d_LogDisk_take_41 : decode prog_1_method_7_code 41 = .ok (.ldc 111, 2) := by decide +kernel
theorem d_LogDisk_take_43 : decode prog_1_method_7_code 43 = .ok (.if_icmp .le 13, 3) := by decide +kernel
theorem d_LogDisk_take_46 : decode prog_1_method_7_code 46 = .ok (.new 89, 3) := by decide +kernel
theorem d_LogDisk_take_49 : decode prog_1_method_7_code 49 = .ok (.dup, 1) := by decide +kernel
theorem d_LogDisk_take_50 : decode prog_1_method_7_code 50 = .ok (.ldc 222, 2) := by decide +kernel
theorem d_LogDisk_take_52 : decode prog_1_method_7_code 52 = .ok (.invokespecial 93, 3) := by decide +kernel
theorem d_LogDisk_take_55 : decode prog_1_method_7_code 55 = .ok (.athrow, 1) := by decide +kernel
theorem d_LogDisk_take_56 : decode prog_1_method_7_code 56 = .ok (.aload_n 0, 1) := by decide +kernel
theorem d_LogDisk_take_57 : decode prog_1_method_7_code 57 = .ok (.getfield 11, 3) := by decide +kernel
theorem d_LogDisk_take_60 : decode prog_1_method_7_code 60 = .ok (.aload_n 0, 1) := by decide +kernel
theorem d_LogDisk_take_61 : decode prog_1_method_7_code 61 = .ok (.getfield 43, 3) := by decide +kernel
theorem d_LogDisk_take_64 : decode prog_1_method_7_code 64 = .ok (.invokevirtual 216, 3) := by decide +kernel
theorem d_LogDisk_take_67 : decode prog_1_method_7_code 67 = .ok (.aaload, 1) := by decide +kernel
theorem d_LogDisk_take_68 : decode prog_1_method_7_code 68 = .ok (.bipush 20, 2) := by decide +kernel
theorem d_LogDisk_take_70 : decode prog_1_method_7_code 70 = .ok (.iload 4, 2) := by decide +kernel
theorem d_LogDisk_take_72 : decode prog_1_method_7_code 72 = .ok (.iadd, 1) := by decide +kernel
theorem d_LogDisk_take_73 : decode prog_1_method_7_code 73 = .ok (.invokevirtual 120, 3) := by decide +kernel
theorem d_LogDisk_take_76 : decode prog_1_method_7_code 76 = .ok (.ifCond .ne 13, 3) := by decide +kernel
theorem d_LogDisk_take_79 : decode prog_1_method_7_code 79 = .ok (.new 124, 3) := by decide +kernel
theorem d_LogDisk_take_82 : decode prog_1_method_7_code 82 = .ok (.dup, 1) := by decide +kernel
theorem d_LogDisk_take_83 : decode prog_1_method_7_code 83 = .ok (.ldc 126, 2) := by decide +kernel
theorem d_LogDisk_take_85 : decode prog_1_method_7_code 85 = .ok (.invokespecial 128, 3) := by decide +kernel
theorem d_LogDisk_take_88 : decode prog_1_method_7_code 88 = .ok (.athrow, 1) := by decide +kernel
theorem d_LogDisk_take_89 : decode prog_1_method_7_code 89 = .ok (.aload_n 0, 1) := by decide +kernel
theorem d_LogDisk_take_90 : decode prog_1_method_7_code 90 = .ok (.iload_n 1, 1) := by decide +kernel
theorem d_LogDisk_take_91 : decode prog_1_method_7_code 91 = .ok (.invokevirtual 186, 3) := by decide +kernel
theorem d_LogDisk_take_94 : decode prog_1_method_7_code 94 = .ok (.ifCond .eq 12, 3) := by decide +kernel
theorem d_LogDisk_take_97 : decode prog_1_method_7_code 97 = .ok (.aload_n 0, 1) := by decide +kernel
theorem d_LogDisk_take_98 : decode prog_1_method_7_code 98 = .ok (.iload_n 1, 1) := by decide +kernel
theorem d_LogDisk_take_99 : decode prog_1_method_7_code 99 = .ok (.invokevirtual 153, 3) := by decide +kernel
theorem d_LogDisk_take_102 : decode prog_1_method_7_code 102 = .ok (.iload_n 2, 1) := by decide +kernel
theorem d_LogDisk_take_103 : decode prog_1_method_7_code 103 = .ok (.if_icmp .eq 8, 3) := by decide +kernel
theorem d_LogDisk_take_106 : decode prog_1_method_7_code 106 = .ok (.aload_n 0, 1) := by decide +kernel
theorem d_LogDisk_take_107 : decode prog_1_method_7_code 107 = .ok (.iload_n 1, 1) := by decide +kernel
theorem d_LogDisk_take_108 : decode prog_1_method_7_code 108 = .ok (.putfield 150, 3) := by decide +kernel
theorem d_LogDisk_take_111 : decode prog_1_method_7_code 111 = .ok (.aload_n 0, 1) := by decide +kernel
theorem d_LogDisk_take_112 : decode prog_1_method_7_code 112 = .ok (.iload_n 1, 1) := by decide +kernel
theorem d_LogDisk_take_113 : decode prog_1_method_7_code 113 = .ok (.iload_n 2, 1) := by decide +kernel
theorem d_LogDisk_take_114 : decode prog_1_method_7_code 114 = .ok (.iload_n 3, 1) := by decide +kernel
theorem d_LogDisk_take_115 : decode prog_1_method_7_code 115 = .ok (.iload 4, 2) := by decide +kernel
theorem d_LogDisk_take_117 : decode prog_1_method_7_code 117 = .ok (.invokevirtual 217, 3) := by decide +kernel
theorem d_LogDisk_take_120 : decode prog_1_method_7_code 120 = .ok (.aload_n 0, 1) := by decide +kernel
theorem d_LogDisk_take_121 : decode prog_1_method_7_code 121 = .ok (.getfield 150, 3) := by decide +kernel
theorem d_LogDisk_take_124 : decode prog_1_method_7_code 124 = .ok (.ireturn, 1) := by decide +kernel
theorem d_LogDisk_sync_0 : decode prog_1_method_8_code 0 = .ok (.aload_n 0, 1) := by decide +kernel
theorem d_LogDisk_sync_1 : decode prog_1_method_8_code 1 = .ok (.getfield 144, 3) := by decide +kernel
theorem d_LogDisk_sync_4 : decode prog_1_method_8_code 4 = .ok (.istore_n 1, 1) := by decide +kernel
theorem d_LogDisk_sync_5 : decode prog_1_method_8_code 5 = .ok (.aload_n 0, 1) := by decide +kernel
theorem d_LogDisk_sync_6 : decode prog_1_method_8_code 6 = .ok (.invokevirtual 224, 3) := by decide +kernel
theorem d_LogDisk_sync_9 : decode prog_1_method_8_code 9 = .ok (.iload_n 1, 1) := by decide +kernel
theorem d_LogDisk_sync_10 : decode prog_1_method_8_code 10 = .ok (.ireturn, 1) := by decide +kernel
theorem d_LogDisk_keep_0 : decode prog_1_method_9_code 0 = .ok (.iload_n 1, 1) := by decide +kernel
theorem d_LogDisk_keep_1 : decode prog_1_method_9_code 1 = .ok (.invokestatic 227, 3) := by decide +kernel
theorem d_LogDisk_keep_4 : decode prog_1_method_9_code 4 = .ok (.ifCond .ne 13, 3) := by decide +kernel
theorem d_LogDisk_keep_7 : decode prog_1_method_9_code 7 = .ok (.new 189, 3) := by decide +kernel
theorem d_LogDisk_keep_10 : decode prog_1_method_9_code 10 = .ok (.dup, 1) := by decide +kernel
theorem d_LogDisk_keep_11 : decode prog_1_method_9_code 11 = .ok (.ldc 230, 2) := by decide +kernel
theorem d_LogDisk_keep_13 : decode prog_1_method_9_code 13 = .ok (.invokespecial 193, 3) := by decide +kernel
theorem d_LogDisk_keep_16 : decode prog_1_method_9_code 16 = .ok (.athrow, 1) := by decide +kernel
theorem d_LogDisk_keep_17 : decode prog_1_method_9_code 17 = .ok (.iload_n 2, 1) := by decide +kernel
theorem d_LogDisk_keep_18 : decode prog_1_method_9_code 18 = .ok (.ifCond .ge 13, 3) := by decide +kernel
theorem d_LogDisk_keep_21 : decode prog_1_method_9_code 21 = .ok (.new 89, 3) := by decide +kernel
theorem d_LogDisk_keep_24 : decode prog_1_method_9_code 24 = .ok (.dup, 1) := by decide +kernel
theorem d_LogDisk_keep_25 : decode prog_1_method_9_code 25 = .ok (.ldc 232, 2) := by decide +kernel
theorem d_LogDisk_keep_27 : decode prog_1_method_9_code 27 = .ok (.invokespecial 93, 3) := by decide +kernel
theorem d_LogDisk_keep_30 : decode prog_1_method_9_code 30 = .ok (.athrow, 1) := by decide +kernel
theorem d_LogDisk_keep_31 : decode prog_1_method_9_code 31 = .ok (.aload_n 0, 1) := by decide +kernel
theorem d_LogDisk_keep_32 : decode prog_1_method_9_code 32 = .ok (.getfield 15, 3) := by decide +kernel
theorem d_LogDisk_keep_35 : decode prog_1_method_9_code 35 = .ok (.iload_n 1, 1) := by decide +kernel
theorem d_LogDisk_keep_36 : decode prog_1_method_9_code 36 = .ok (.iload_n 2, 1) := by decide +kernel
theorem d_LogDisk_keep_37 : decode prog_1_method_9_code 37 = .ok (.iastore, 1) := by decide +kernel
theorem d_LogDisk_keep_38 : decode prog_1_method_9_code 38 = .ok (.return_, 1) := by decide +kernel
theorem d_LogDisk_crash_0 : decode prog_1_method_10_code 0 = .ok (.aload_n 0, 1) := by decide +kernel
theorem d_LogDisk_crash_1 : decode prog_1_method_10_code 1 = .ok (.lload_n 1, 1) := by decide +kernel
theorem d_LogDisk_crash_2 : decode prog_1_method_10_code 2 = .ok (.invokevirtual 234, 3) := by decide +kernel
theorem d_LogDisk_crash_5 : decode prog_1_method_10_code 5 = .ok (.aload_n 0, 1) := by decide +kernel
theorem d_LogDisk_crash_6 : decode prog_1_method_10_code 6 = .ok (.invokevirtual 238, 3) := by decide +kernel
theorem d_LogDisk_crash_9 : decode prog_1_method_10_code 9 = .ok (.aload_n 0, 1) := by decide +kernel
theorem d_LogDisk_crash_10 : decode prog_1_method_10_code 10 = .ok (.invokevirtual 241, 3) := by decide +kernel
theorem d_LogDisk_crash_13 : decode prog_1_method_10_code 13 = .ok (.aload_n 0, 1) := by decide +kernel
theorem d_LogDisk_crash_14 : decode prog_1_method_10_code 14 = .ok (.invokevirtual 244, 3) := by decide +kernel
theorem d_LogDisk_crash_17 : decode prog_1_method_10_code 17 = .ok (.aload_n 0, 1) := by decide +kernel
theorem d_LogDisk_crash_18 : decode prog_1_method_10_code 18 = .ok (.invokevirtual 224, 3) := by decide +kernel
theorem d_LogDisk_crash_21 : decode prog_1_method_10_code 21 = .ok (.aload_n 0, 1) := by decide +kernel
theorem d_LogDisk_crash_22 : decode prog_1_method_10_code 22 = .ok (.getfield 150, 3) := by decide +kernel
theorem d_LogDisk_crash_25 : decode prog_1_method_10_code 25 = .ok (.ireturn, 1) := by decide +kernel
theorem d_LogDisk_state_0 : decode prog_1_method_11_code 0 = .ok (.iload_n 1, 1) := by decide +kernel
theorem d_LogDisk_state_1 : decode prog_1_method_11_code 1 = .ok (.tableswitch 146 0 10 #[59, 67, 75, 83, 91, 99, 104, 109, 122, 130, 138], 59) := by decide +kernel
theorem d_LogDisk_state_60 : decode prog_1_method_11_code 60 = .ok (.aload_n 0, 1) := by decide +kernel
theorem d_LogDisk_state_61 : decode prog_1_method_11_code 61 = .ok (.getfield 36, 3) := by decide +kernel
theorem d_LogDisk_state_64 : decode prog_1_method_11_code 64 = .ok (.getfield 108, 3) := by decide +kernel
theorem d_LogDisk_state_67 : decode prog_1_method_11_code 67 = .ok (.ireturn, 1) := by decide +kernel
theorem d_LogDisk_state_68 : decode prog_1_method_11_code 68 = .ok (.aload_n 0, 1) := by decide +kernel
theorem d_LogDisk_state_69 : decode prog_1_method_11_code 69 = .ok (.getfield 36, 3) := by decide +kernel
theorem d_LogDisk_state_72 : decode prog_1_method_11_code 72 = .ok (.getfield 247, 3) := by decide +kernel
theorem d_LogDisk_state_75 : decode prog_1_method_11_code 75 = .ok (.ireturn, 1) := by decide +kernel
theorem d_LogDisk_state_76 : decode prog_1_method_11_code 76 = .ok (.aload_n 0, 1) := by decide +kernel
theorem d_LogDisk_state_77 : decode prog_1_method_11_code 77 = .ok (.getfield 43, 3) := by decide +kernel
theorem d_LogDisk_state_80 : decode prog_1_method_11_code 80 = .ok (.getfield 161, 3) := by decide +kernel
theorem d_LogDisk_state_83 : decode prog_1_method_11_code 83 = .ok (.ireturn, 1) := by decide +kernel
theorem d_LogDisk_state_84 : decode prog_1_method_11_code 84 = .ok (.aload_n 0, 1) := by decide +kernel
theorem d_LogDisk_state_85 : decode prog_1_method_11_code 85 = .ok (.getfield 43, 3) := by decide +kernel
theorem d_LogDisk_state_88 : decode prog_1_method_11_code 88 = .ok (.getfield 250, 3) := by decide +kernel
theorem d_LogDisk_state_91 : decode prog_1_method_11_code 91 = .ok (.ireturn, 1) := by decide +kernel
theorem d_LogDisk_state_92 : decode prog_1_method_11_code 92 = .ok (.aload_n 0, 1) := by decide +kernel
theorem d_LogDisk_state_93 : decode prog_1_method_11_code 93 = .ok (.getfield 43, 3) := by decide +kernel
theorem d_LogDisk_state_96 : decode prog_1_method_11_code 96 = .ok (.getfield 86, 3) := by decide +kernel
theorem d_LogDisk_state_99 : decode prog_1_method_11_code 99 = .ok (.ireturn, 1) := by decide +kernel
theorem d_LogDisk_state_100 : decode prog_1_method_11_code 100 = .ok (.aload_n 0, 1) := by decide +kernel
theorem d_LogDisk_state_101 : decode prog_1_method_11_code 101 = .ok (.invokevirtual 251, 3) := by decide +kernel
theorem d_LogDisk_state_104 : decode prog_1_method_11_code 104 = .ok (.ireturn, 1) := by decide +kernel
theorem d_LogDisk_state_105 : decode prog_1_method_11_code 105 = .ok (.aload_n 0, 1) := by decide +kernel
theorem d_LogDisk_state_106 : decode prog_1_method_11_code 106 = .ok (.getfield 150, 3) := by decide +kernel
theorem d_LogDisk_state_109 : decode prog_1_method_11_code 109 = .ok (.ireturn, 1) := by decide +kernel
theorem d_LogDisk_state_110 : decode prog_1_method_11_code 110 = .ok (.aload_n 0, 1) := by decide +kernel
theorem d_LogDisk_state_111 : decode prog_1_method_11_code 111 = .ok (.getfield 144, 3) := by decide +kernel
theorem d_LogDisk_state_114 : decode prog_1_method_11_code 114 = .ok (.ifCond .eq 7, 3) := by decide +kernel
theorem d_LogDisk_state_117 : decode prog_1_method_11_code 117 = .ok (.iconst 1, 1) := by decide +kernel
theorem d_LogDisk_state_118 : decode prog_1_method_11_code 118 = .ok (.goto 4, 3) := by decide +kernel
theorem d_LogDisk_state_121 : decode prog_1_method_11_code 121 = .ok (.iconst 0, 1) := by decide +kernel
theorem d_LogDisk_state_122 : decode prog_1_method_11_code 122 = .ok (.ireturn, 1) := by decide +kernel
theorem d_LogDisk_state_123 : decode prog_1_method_11_code 123 = .ok (.aload_n 0, 1) := by decide +kernel
theorem d_LogDisk_state_124 : decode prog_1_method_11_code 124 = .ok (.getfield 50, 3) := by decide +kernel
theorem d_LogDisk_state_127 : decode prog_1_method_11_code 127 = .ok (.getfield 194, 3) := by decide +kernel
theorem d_LogDisk_state_130 : decode prog_1_method_11_code 130 = .ok (.ireturn, 1) := by decide +kernel
theorem d_LogDisk_state_131 : decode prog_1_method_11_code 131 = .ok (.aload_n 0, 1) := by decide +kernel
theorem d_LogDisk_state_132 : decode prog_1_method_11_code 132 = .ok (.getfield 78, 3) := by decide +kernel
theorem d_LogDisk_state_135 : decode prog_1_method_11_code 135 = .ok (.invokevirtual 254, 3) := by decide +kernel
theorem d_LogDisk_state_138 : decode prog_1_method_11_code 138 = .ok (.ireturn, 1) := by decide +kernel
theorem d_LogDisk_state_139 : decode prog_1_method_11_code 139 = .ok (.aload_n 0, 1) := by decide +kernel
theorem d_LogDisk_state_140 : decode prog_1_method_11_code 140 = .ok (.getfield 22, 3) := by decide +kernel
theorem d_LogDisk_state_143 : decode prog_1_method_11_code 143 = .ok (.getfield 96, 3) := by decide +kernel
theorem d_LogDisk_state_146 : decode prog_1_method_11_code 146 = .ok (.ireturn, 1) := by decide +kernel
theorem d_LogDisk_state_147 : decode prog_1_method_11_code 147 = .ok (.new 189, 3) := by decide +kernel
theorem d_LogDisk_state_150 : decode prog_1_method_11_code 150 = .ok (.dup, 1) := by decide +kernel
theorem d_LogDisk_state_151 : decode prog_1_method_11_code 151 = .ok (.ldc_w 257, 3) := by decide +kernel
theorem d_LogDisk_state_154 : decode prog_1_method_11_code 154 = .ok (.invokespecial 193, 3) := by decide +kernel
theorem d_LogDisk_state_157 : decode prog_1_method_11_code 157 = .ok (.athrow, 1) := by decide +kernel
theorem d_LogDisk_entry_0 : decode prog_1_method_12_code 0 = .ok (.iload_n 1, 1) := by decide +kernel
theorem d_LogDisk_entry_1 : decode prog_1_method_12_code 1 = .ok (.aload_n 0, 1) := by decide +kernel
theorem d_LogDisk_entry_2 : decode prog_1_method_12_code 2 = .ok (.getfield 43, 3) := by decide +kernel
theorem d_LogDisk_entry_5 : decode prog_1_method_12_code 5 = .ok (.getfield 161, 3) := by decide +kernel
theorem d_LogDisk_entry_8 : decode prog_1_method_12_code 8 = .ok (.if_icmp .ne 15, 3) := by decide +kernel
theorem d_LogDisk_entry_11 : decode prog_1_method_12_code 11 = .ok (.iload_n 2, 1) := by decide +kernel
theorem d_LogDisk_entry_12 : decode prog_1_method_12_code 12 = .ok (.ifCond .ne 11, 3) := by decide +kernel
theorem d_LogDisk_entry_15 : decode prog_1_method_12_code 15 = .ok (.aload_n 0, 1) := by decide +kernel
theorem d_LogDisk_entry_16 : decode prog_1_method_12_code 16 = .ok (.getfield 43, 3) := by decide +kernel
theorem d_LogDisk_entry_19 : decode prog_1_method_12_code 19 = .ok (.getfield 250, 3) := by decide +kernel
theorem d_LogDisk_entry_22 : decode prog_1_method_12_code 22 = .ok (.ireturn, 1) := by decide +kernel
theorem d_LogDisk_entry_23 : decode prog_1_method_12_code 23 = .ok (.aload_n 0, 1) := by decide +kernel
theorem d_LogDisk_entry_24 : decode prog_1_method_12_code 24 = .ok (.iload_n 1, 1) := by decide +kernel
theorem d_LogDisk_entry_25 : decode prog_1_method_12_code 25 = .ok (.invokevirtual 186, 3) := by decide +kernel
theorem d_LogDisk_entry_28 : decode prog_1_method_12_code 28 = .ok (.ifCond .ne 14, 3) := by decide +kernel
theorem d_LogDisk_entry_31 : decode prog_1_method_12_code 31 = .ok (.new 189, 3) := by decide +kernel
theorem d_LogDisk_entry_34 : decode prog_1_method_12_code 34 = .ok (.dup, 1) := by decide +kernel
theorem d_LogDisk_entry_35 : decode prog_1_method_12_code 35 = .ok (.ldc_w 259, 3) := by decide +kernel
theorem d_LogDisk_entry_38 : decode prog_1_method_12_code 38 = .ok (.invokespecial 193, 3) := by decide +kernel
theorem d_LogDisk_entry_41 : decode prog_1_method_12_code 41 = .ok (.athrow, 1) := by decide +kernel
theorem d_LogDisk_entry_42 : decode prog_1_method_12_code 42 = .ok (.aload_n 0, 1) := by decide +kernel
theorem d_LogDisk_entry_43 : decode prog_1_method_12_code 43 = .ok (.getfield 57, 3) := by decide +kernel
theorem d_LogDisk_entry_46 : decode prog_1_method_12_code 46 = .ok (.iload_n 1, 1) := by decide +kernel
theorem d_LogDisk_entry_47 : decode prog_1_method_12_code 47 = .ok (.invokevirtual 206, 3) := by decide +kernel
theorem d_LogDisk_entry_50 : decode prog_1_method_12_code 50 = .ok (.istore_n 3, 1) := by decide +kernel
theorem d_LogDisk_entry_51 : decode prog_1_method_12_code 51 = .ok (.iload_n 2, 1) := by decide +kernel
theorem d_LogDisk_entry_52 : decode prog_1_method_12_code 52 = .ok (.tableswitch 86 0 4 #[36, 46, 56, 66, 76], 36) := by decide +kernel
theorem d_LogDisk_entry_88 : decode prog_1_method_12_code 88 = .ok (.aload_n 0, 1) := by decide +kernel
theorem d_LogDisk_entry_89 : decode prog_1_method_12_code 89 = .ok (.getfield 57, 3) := by decide +kernel
theorem d_LogDisk_entry_92 : decode prog_1_method_12_code 92 = .ok (.getfield 261, 3) := by decide +kernel
theorem d_LogDisk_entry_95 : decode prog_1_method_12_code 95 = .ok (.iload_n 3, 1) := by decide +kernel
theorem d_LogDisk_entry_96 : decode prog_1_method_12_code 96 = .ok (.iaload, 1) := by decide +kernel
theorem d_LogDisk_entry_97 : decode prog_1_method_12_code 97 = .ok (.ireturn, 1) := by decide +kernel
theorem d_LogDisk_entry_98 : decode prog_1_method_12_code 98 = .ok (.aload_n 0, 1) := by decide +kernel
theorem d_LogDisk_entry_99 : decode prog_1_method_12_code 99 = .ok (.getfield 57, 3) := by decide +kernel
theorem d_LogDisk_entry_102 : decode prog_1_method_12_code 102 = .ok (.getfield 263, 3) := by decide +kernel
theorem d_LogDisk_entry_105 : decode prog_1_method_12_code 105 = .ok (.iload_n 3, 1) := by decide +kernel
theorem d_LogDisk_entry_106 : decode prog_1_method_12_code 106 = .ok (.iaload, 1) := by decide +kernel
theorem d_LogDisk_entry_107 : decode prog_1_method_12_code 107 = .ok (.ireturn, 1) := by decide +kernel
theorem d_LogDisk_entry_108 : decode prog_1_method_12_code 108 = .ok (.aload_n 0, 1) := by decide +kernel
theorem d_LogDisk_entry_109 : decode prog_1_method_12_code 109 = .ok (.getfield 57, 3) := by decide +kernel
theorem d_LogDisk_entry_112 : decode prog_1_method_12_code 112 = .ok (.getfield 266, 3) := by decide +kernel
theorem d_LogDisk_entry_115 : decode prog_1_method_12_code 115 = .ok (.iload_n 3, 1) := by decide +kernel
theorem d_LogDisk_entry_116 : decode prog_1_method_12_code 116 = .ok (.iaload, 1) := by decide +kernel
theorem d_LogDisk_entry_117 : decode prog_1_method_12_code 117 = .ok (.ireturn, 1) := by decide +kernel
theorem d_LogDisk_entry_118 : decode prog_1_method_12_code 118 = .ok (.aload_n 0, 1) := by decide +kernel
theorem d_LogDisk_entry_119 : decode prog_1_method_12_code 119 = .ok (.getfield 57, 3) := by decide +kernel
theorem d_LogDisk_entry_122 : decode prog_1_method_12_code 122 = .ok (.getfield 209, 3) := by decide +kernel
theorem d_LogDisk_entry_125 : decode prog_1_method_12_code 125 = .ok (.iload_n 3, 1) := by decide +kernel
theorem d_LogDisk_entry_126 : decode prog_1_method_12_code 126 = .ok (.iaload, 1) := by decide +kernel
theorem d_LogDisk_entry_127 : decode prog_1_method_12_code 127 = .ok (.ireturn, 1) := by decide +kernel
theorem d_LogDisk_entry_128 : decode prog_1_method_12_code 128 = .ok (.aload_n 0, 1) := by decide +kernel
theorem d_LogDisk_entry_129 : decode prog_1_method_12_code 129 = .ok (.getfield 57, 3) := by decide +kernel
theorem d_LogDisk_entry_132 : decode prog_1_method_12_code 132 = .ok (.getfield 210, 3) := by decide +kernel
theorem d_LogDisk_entry_135 : decode prog_1_method_12_code 135 = .ok (.iload_n 3, 1) := by decide +kernel
theorem d_LogDisk_entry_136 : decode prog_1_method_12_code 136 = .ok (.iaload, 1) := by decide +kernel
theorem d_LogDisk_entry_137 : decode prog_1_method_12_code 137 = .ok (.ireturn, 1) := by decide +kernel
theorem d_LogDisk_entry_138 : decode prog_1_method_12_code 138 = .ok (.new 189, 3) := by decide +kernel
theorem d_LogDisk_entry_141 : decode prog_1_method_12_code 141 = .ok (.dup, 1) := by decide +kernel
theorem d_LogDisk_entry_142 : decode prog_1_method_12_code 142 = .ok (.ldc_w 257, 3) := by decide +kernel
theorem d_LogDisk_entry_145 : decode prog_1_method_12_code 145 = .ok (.invokespecial 193, 3) := by decide +kernel
theorem d_LogDisk_entry_148 : decode prog_1_method_12_code 148 = .ok (.athrow, 1) := by decide +kernel
theorem d_LogDisk_contentAt_0 : decode prog_1_method_13_code 0 = .ok (.aload_n 0, 1) := by decide +kernel
theorem d_LogDisk_contentAt_1 : decode prog_1_method_13_code 1 = .ok (.iload_n 1, 1) := by decide +kernel
theorem d_LogDisk_contentAt_2 : decode prog_1_method_13_code 2 = .ok (.invokevirtual 186, 3) := by decide +kernel
theorem d_LogDisk_contentAt_5 : decode prog_1_method_13_code 5 = .ok (.ifCond .ne 14, 3) := by decide +kernel
theorem d_LogDisk_contentAt_8 : decode prog_1_method_13_code 8 = .ok (.new 189, 3) := by decide +kernel
theorem d_LogDisk_contentAt_11 : decode prog_1_method_13_code 11 = .ok (.dup, 1) := by decide +kernel
theorem d_LogDisk_contentAt_12 : decode prog_1_method_13_code 12 = .ok (.ldc_w 268, 3) := by decide +kernel
theorem d_LogDisk_contentAt_15 : decode prog_1_method_13_code 15 = .ok (.invokespecial 193, 3) := by decide +kernel
theorem d_LogDisk_contentAt_18 : decode prog_1_method_13_code 18 = .ok (.athrow, 1) := by decide +kernel
theorem d_LogDisk_contentAt_19 : decode prog_1_method_13_code 19 = .ok (.aload_n 0, 1) := by decide +kernel
theorem d_LogDisk_contentAt_20 : decode prog_1_method_13_code 20 = .ok (.getfield 57, 3) := by decide +kernel
theorem d_LogDisk_contentAt_23 : decode prog_1_method_13_code 23 = .ok (.iload_n 1, 1) := by decide +kernel
theorem d_LogDisk_contentAt_24 : decode prog_1_method_13_code 24 = .ok (.invokevirtual 206, 3) := by decide +kernel
theorem d_LogDisk_contentAt_27 : decode prog_1_method_13_code 27 = .ok (.istore_n 3, 1) := by decide +kernel
theorem d_LogDisk_contentAt_28 : decode prog_1_method_13_code 28 = .ok (.iload_n 2, 1) := by decide +kernel
theorem d_LogDisk_contentAt_29 : decode prog_1_method_13_code 29 = .ok (.ifCond .lt 16, 3) := by decide +kernel
theorem d_LogDisk_contentAt_32 : decode prog_1_method_13_code 32 = .ok (.iload_n 2, 1) := by decide +kernel
theorem d_LogDisk_contentAt_33 : decode prog_1_method_13_code 33 = .ok (.aload_n 0, 1) := by decide +kernel
theorem d_LogDisk_contentAt_34 : decode prog_1_method_13_code 34 = .ok (.getfield 57, 3) := by decide +kernel
theorem d_LogDisk_contentAt_37 : decode prog_1_method_13_code 37 = .ok (.getfield 266, 3) := by decide +kernel
theorem d_LogDisk_contentAt_40 : decode prog_1_method_13_code 40 = .ok (.iload_n 3, 1) := by decide +kernel
theorem d_LogDisk_contentAt_41 : decode prog_1_method_13_code 41 = .ok (.iaload, 1) := by decide +kernel
theorem d_LogDisk_contentAt_42 : decode prog_1_method_13_code 42 = .ok (.if_icmp .lt 14, 3) := by decide +kernel
theorem d_LogDisk_contentAt_45 : decode prog_1_method_13_code 45 = .ok (.new 270, 3) := by decide +kernel
theorem d_LogDisk_contentAt_48 : decode prog_1_method_13_code 48 = .ok (.dup, 1) := by decide +kernel
theorem d_LogDisk_contentAt_49 : decode prog_1_method_13_code 49 = .ok (.ldc_w 272, 3) := by decide +kernel
theorem d_LogDisk_contentAt_52 : decode prog_1_method_13_code 52 = .ok (.invokespecial 274, 3) := by decide +kernel
theorem d_LogDisk_contentAt_55 : decode prog_1_method_13_code 55 = .ok (.athrow, 1) := by decide +kernel
theorem d_LogDisk_contentAt_56 : decode prog_1_method_13_code 56 = .ok (.aload_n 0, 1) := by decide +kernel
theorem d_LogDisk_contentAt_57 : decode prog_1_method_13_code 57 = .ok (.getfield 11, 3) := by decide +kernel
theorem d_LogDisk_contentAt_60 : decode prog_1_method_13_code 60 = .ok (.aload_n 0, 1) := by decide +kernel
theorem d_LogDisk_contentAt_61 : decode prog_1_method_13_code 61 = .ok (.getfield 57, 3) := by decide +kernel
theorem d_LogDisk_contentAt_64 : decode prog_1_method_13_code 64 = .ok (.getfield 209, 3) := by decide +kernel
theorem d_LogDisk_contentAt_67 : decode prog_1_method_13_code 67 = .ok (.iload_n 3, 1) := by decide +kernel
theorem d_LogDisk_contentAt_68 : decode prog_1_method_13_code 68 = .ok (.iaload, 1) := by decide +kernel
theorem d_LogDisk_contentAt_69 : decode prog_1_method_13_code 69 = .ok (.aaload, 1) := by decide +kernel
theorem d_LogDisk_contentAt_70 : decode prog_1_method_13_code 70 = .ok (.aload_n 0, 1) := by decide +kernel
theorem d_LogDisk_contentAt_71 : decode prog_1_method_13_code 71 = .ok (.getfield 57, 3) := by decide +kernel
theorem d_LogDisk_contentAt_74 : decode prog_1_method_13_code 74 = .ok (.getfield 210, 3) := by decide +kernel
theorem d_LogDisk_contentAt_77 : decode prog_1_method_13_code 77 = .ok (.iload_n 3, 1) := by decide +kernel
theorem d_LogDisk_contentAt_78 : decode prog_1_method_13_code 78 = .ok (.iaload, 1) := by decide +kernel
theorem d_LogDisk_contentAt_79 : decode prog_1_method_13_code 79 = .ok (.bipush 25, 2) := by decide +kernel
theorem d_LogDisk_contentAt_81 : decode prog_1_method_13_code 81 = .ok (.iadd, 1) := by decide +kernel
theorem d_LogDisk_contentAt_82 : decode prog_1_method_13_code 82 = .ok (.iload_n 2, 1) := by decide +kernel
theorem d_LogDisk_contentAt_83 : decode prog_1_method_13_code 83 = .ok (.iadd, 1) := by decide +kernel
theorem d_LogDisk_contentAt_84 : decode prog_1_method_13_code 84 = .ok (.invokevirtual 275, 3) := by decide +kernel
theorem d_LogDisk_contentAt_87 : decode prog_1_method_13_code 87 = .ok (.ireturn, 1) := by decide +kernel
theorem d_LogDisk_snapshotAt_0 : decode prog_1_method_14_code 0 = .ok (.iload_n 1, 1) := by decide +kernel
theorem d_LogDisk_snapshotAt_1 : decode prog_1_method_14_code 1 = .ok (.ifCond .lt 11, 3) := by decide +kernel
theorem d_LogDisk_snapshotAt_4 : decode prog_1_method_14_code 4 = .ok (.iload_n 1, 1) := by decide +kernel
theorem d_LogDisk_snapshotAt_5 : decode prog_1_method_14_code 5 = .ok (.aload_n 0, 1) := by decide +kernel
theorem d_LogDisk_snapshotAt_6 : decode prog_1_method_14_code 6 = .ok (.invokevirtual 251, 3) := by decide +kernel
theorem d_LogDisk_snapshotAt_9 : decode prog_1_method_14_code 9 = .ok (.if_icmp .lt 14, 3) := by decide +kernel
theorem d_LogDisk_snapshotAt_12 : decode prog_1_method_14_code 12 = .ok (.new 189, 3) := by decide +kernel
theorem d_LogDisk_snapshotAt_15 : decode prog_1_method_14_code 15 = .ok (.dup, 1) := by decide +kernel
theorem d_LogDisk_snapshotAt_16 : decode prog_1_method_14_code 16 = .ok (.ldc_w 272, 3) := by decide +kernel
theorem d_LogDisk_snapshotAt_19 : decode prog_1_method_14_code 19 = .ok (.invokespecial 193, 3) := by decide +kernel
theorem d_LogDisk_snapshotAt_22 : decode prog_1_method_14_code 22 = .ok (.athrow, 1) := by decide +kernel
theorem d_LogDisk_snapshotAt_23 : decode prog_1_method_14_code 23 = .ok (.aload_n 0, 1) := by decide +kernel
theorem d_LogDisk_snapshotAt_24 : decode prog_1_method_14_code 24 = .ok (.getfield 11, 3) := by decide +kernel
theorem d_LogDisk_snapshotAt_27 : decode prog_1_method_14_code 27 = .ok (.aload_n 0, 1) := by decide +kernel
theorem d_LogDisk_snapshotAt_28 : decode prog_1_method_14_code 28 = .ok (.getfield 43, 3) := by decide +kernel
theorem d_LogDisk_snapshotAt_31 : decode prog_1_method_14_code 31 = .ok (.getfield 278, 3) := by decide +kernel
theorem d_LogDisk_snapshotAt_34 : decode prog_1_method_14_code 34 = .ok (.aaload, 1) := by decide +kernel
theorem d_LogDisk_snapshotAt_35 : decode prog_1_method_14_code 35 = .ok (.bipush 20, 2) := by decide +kernel
theorem d_LogDisk_snapshotAt_37 : decode prog_1_method_14_code 37 = .ok (.iload_n 1, 1) := by decide +kernel
theorem d_LogDisk_snapshotAt_38 : decode prog_1_method_14_code 38 = .ok (.iadd, 1) := by decide +kernel
theorem d_LogDisk_snapshotAt_39 : decode prog_1_method_14_code 39 = .ok (.invokevirtual 275, 3) := by decide +kernel
theorem d_LogDisk_snapshotAt_42 : decode prog_1_method_14_code 42 = .ok (.ireturn, 1) := by decide +kernel
theorem d_LogDisk_segment_0 : decode prog_1_method_15_code 0 = .ok (.iload_n 1, 1) := by decide +kernel
theorem d_LogDisk_segment_1 : decode prog_1_method_15_code 1 = .ok (.ifCond .lt 14, 3) := by decide +kernel
theorem d_LogDisk_segment_4 : decode prog_1_method_15_code 4 = .ok (.iload_n 1, 1) := by decide +kernel
theorem d_LogDisk_segment_5 : decode prog_1_method_15_code 5 = .ok (.aload_n 0, 1) := by decide +kernel
theorem d_LogDisk_segment_6 : decode prog_1_method_15_code 6 = .ok (.getfield 50, 3) := by decide +kernel
theorem d_LogDisk_segment_9 : decode prog_1_method_15_code 9 = .ok (.getfield 194, 3) := by decide +kernel
theorem d_LogDisk_segment_12 : decode prog_1_method_15_code 12 = .ok (.if_icmp .lt 14, 3) := by decide +kernel
theorem d_LogDisk_segment_15 : decode prog_1_method_15_code 15 = .ok (.new 189, 3) := by decide +kernel
theorem d_LogDisk_segment_18 : decode prog_1_method_15_code 18 = .ok (.dup, 1) := by decide +kernel
theorem d_LogDisk_segment_19 : decode prog_1_method_15_code 19 = .ok (.ldc_w 280, 3) := by decide +kernel
theorem d_LogDisk_segment_22 : decode prog_1_method_15_code 22 = .ok (.invokespecial 193, 3) := by decide +kernel
theorem d_LogDisk_segment_25 : decode prog_1_method_15_code 25 = .ok (.athrow, 1) := by decide +kernel
theorem d_LogDisk_segment_26 : decode prog_1_method_15_code 26 = .ok (.iload_n 2, 1) := by decide +kernel
theorem d_LogDisk_segment_27 : decode prog_1_method_15_code 27 = .ok (.lookupswitch 45 #[(0, 25), (1, 35)], 25) := by decide +kernel
theorem d_LogDisk_segment_52 : decode prog_1_method_15_code 52 = .ok (.aload_n 0, 1) := by decide +kernel
theorem d_LogDisk_segment_53 : decode prog_1_method_15_code 53 = .ok (.getfield 50, 3) := by decide +kernel
theorem d_LogDisk_segment_56 : decode prog_1_method_15_code 56 = .ok (.getfield 200, 3) := by decide +kernel
theorem d_LogDisk_segment_59 : decode prog_1_method_15_code 59 = .ok (.iload_n 1, 1) := by decide +kernel
theorem d_LogDisk_segment_60 : decode prog_1_method_15_code 60 = .ok (.iaload, 1) := by decide +kernel
theorem d_LogDisk_segment_61 : decode prog_1_method_15_code 61 = .ok (.ireturn, 1) := by decide +kernel
theorem d_LogDisk_segment_62 : decode prog_1_method_15_code 62 = .ok (.aload_n 0, 1) := by decide +kernel
theorem d_LogDisk_segment_63 : decode prog_1_method_15_code 63 = .ok (.getfield 50, 3) := by decide +kernel
theorem d_LogDisk_segment_66 : decode prog_1_method_15_code 66 = .ok (.getfield 197, 3) := by decide +kernel
theorem d_LogDisk_segment_69 : decode prog_1_method_15_code 69 = .ok (.iload_n 1, 1) := by decide +kernel
theorem d_LogDisk_segment_70 : decode prog_1_method_15_code 70 = .ok (.iaload, 1) := by decide +kernel
theorem d_LogDisk_segment_71 : decode prog_1_method_15_code 71 = .ok (.ireturn, 1) := by decide +kernel
theorem d_LogDisk_segment_72 : decode prog_1_method_15_code 72 = .ok (.new 189, 3) := by decide +kernel
theorem d_LogDisk_segment_75 : decode prog_1_method_15_code 75 = .ok (.dup, 1) := by decide +kernel
theorem d_LogDisk_segment_76 : decode prog_1_method_15_code 76 = .ok (.ldc_w 257, 3) := by decide +kernel
theorem d_LogDisk_segment_79 : decode prog_1_method_15_code 79 = .ok (.invokespecial 193, 3) := by decide +kernel
theorem d_LogDisk_segment_82 : decode prog_1_method_15_code 82 = .ok (.athrow, 1) := by decide +kernel
theorem d_LogDisk_file_0 : decode prog_1_method_16_code 0 = .ok (.iload_n 1, 1) := by decide +kernel
theorem d_LogDisk_file_1 : decode prog_1_method_16_code 1 = .ok (.invokestatic 227, 3) := by decide +kernel
theorem d_LogDisk_file_4 : decode prog_1_method_16_code 4 = .ok (.ifCond .ne 13, 3) := by decide +kernel
theorem d_LogDisk_file_7 : decode prog_1_method_16_code 7 = .ok (.new 189, 3) := by decide +kernel
theorem d_LogDisk_file_10 : decode prog_1_method_16_code 10 = .ok (.dup, 1) := by decide +kernel
theorem d_LogDisk_file_11 : decode prog_1_method_16_code 11 = .ok (.ldc 230, 2) := by decide +kernel
theorem d_LogDisk_file_13 : decode prog_1_method_16_code 13 = .ok (.invokespecial 193, 3) := by decide +kernel
theorem d_LogDisk_file_16 : decode prog_1_method_16_code 16 = .ok (.athrow, 1) := by decide +kernel
theorem d_LogDisk_file_17 : decode prog_1_method_16_code 17 = .ok (.aload_n 0, 1) := by decide +kernel
theorem d_LogDisk_file_18 : decode prog_1_method_16_code 18 = .ok (.getfield 11, 3) := by decide +kernel
theorem d_LogDisk_file_21 : decode prog_1_method_16_code 21 = .ok (.iload_n 1, 1) := by decide +kernel
theorem d_LogDisk_file_22 : decode prog_1_method_16_code 22 = .ok (.aaload, 1) := by decide +kernel
theorem d_LogDisk_file_23 : decode prog_1_method_16_code 23 = .ok (.astore_n 3, 1) := by decide +kernel
theorem d_LogDisk_file_24 : decode prog_1_method_16_code 24 = .ok (.iload_n 2, 1) := by decide +kernel
theorem d_LogDisk_file_25 : decode prog_1_method_16_code 25 = .ok (.tableswitch 88 0 4 #[35, 43, 51, 56, 72], 35) := by decide +kernel
theorem d_LogDisk_file_60 : decode prog_1_method_16_code 60 = .ok (.aload_n 3, 1) := by decide +kernel
theorem d_LogDisk_file_61 : decode prog_1_method_16_code 61 = .ok (.getfield 282, 3) := by decide +kernel
theorem d_LogDisk_file_64 : decode prog_1_method_16_code 64 = .ok (.getfield 286, 3) := by decide +kernel
theorem d_LogDisk_file_67 : decode prog_1_method_16_code 67 = .ok (.ireturn, 1) := by decide +kernel
theorem d_LogDisk_file_68 : decode prog_1_method_16_code 68 = .ok (.aload_n 3, 1) := by decide +kernel
theorem d_LogDisk_file_69 : decode prog_1_method_16_code 69 = .ok (.getfield 289, 3) := by decide +kernel
theorem d_LogDisk_file_72 : decode prog_1_method_16_code 72 = .ok (.getfield 286, 3) := by decide +kernel
theorem d_LogDisk_file_75 : decode prog_1_method_16_code 75 = .ok (.ireturn, 1) := by decide +kernel
theorem d_LogDisk_file_76 : decode prog_1_method_16_code 76 = .ok (.aload_n 3, 1) := by decide +kernel
theorem d_LogDisk_file_77 : decode prog_1_method_16_code 77 = .ok (.getfield 292, 3) := by decide +kernel
theorem d_LogDisk_file_80 : decode prog_1_method_16_code 80 = .ok (.ireturn, 1) := by decide +kernel
theorem d_LogDisk_file_81 : decode prog_1_method_16_code 81 = .ok (.aload_n 3, 1) := by decide +kernel
theorem d_LogDisk_file_82 : decode prog_1_method_16_code 82 = .ok (.getfield 282, 3) := by decide +kernel
theorem d_LogDisk_file_85 : decode prog_1_method_16_code 85 = .ok (.getfield 295, 3) := by decide +kernel
theorem d_LogDisk_file_88 : decode prog_1_method_16_code 88 = .ok (.ifCond .eq 7, 3) := by decide +kernel
theorem d_LogDisk_file_91 : decode prog_1_method_16_code 91 = .ok (.iconst 1, 1) := by decide +kernel
theorem d_LogDisk_file_92 : decode prog_1_method_16_code 92 = .ok (.goto 4, 3) := by decide +kernel
theorem d_LogDisk_file_95 : decode prog_1_method_16_code 95 = .ok (.iconst 0, 1) := by decide +kernel
theorem d_LogDisk_file_96 : decode prog_1_method_16_code 96 = .ok (.ireturn, 1) := by decide +kernel
theorem d_LogDisk_file_97 : decode prog_1_method_16_code 97 = .ok (.aload_n 3, 1) := by decide +kernel
theorem d_LogDisk_file_98 : decode prog_1_method_16_code 98 = .ok (.getfield 289, 3) := by decide +kernel
theorem d_LogDisk_file_101 : decode prog_1_method_16_code 101 = .ok (.getfield 295, 3) := by decide +kernel
theorem d_LogDisk_file_104 : decode prog_1_method_16_code 104 = .ok (.ifCond .eq 7, 3) := by decide +kernel
theorem d_LogDisk_file_107 : decode prog_1_method_16_code 107 = .ok (.iconst 1, 1) := by decide +kernel
theorem d_LogDisk_file_108 : decode prog_1_method_16_code 108 = .ok (.goto 4, 3) := by decide +kernel
theorem d_LogDisk_file_111 : decode prog_1_method_16_code 111 = .ok (.iconst 0, 1) := by decide +kernel
theorem d_LogDisk_file_112 : decode prog_1_method_16_code 112 = .ok (.ireturn, 1) := by decide +kernel
theorem d_LogDisk_file_113 : decode prog_1_method_16_code 113 = .ok (.new 189, 3) := by decide +kernel
theorem d_LogDisk_file_116 : decode prog_1_method_16_code 116 = .ok (.dup, 1) := by decide +kernel
theorem d_LogDisk_file_117 : decode prog_1_method_16_code 117 = .ok (.ldc_w 257, 3) := by decide +kernel
theorem d_LogDisk_file_120 : decode prog_1_method_16_code 120 = .ok (.invokespecial 193, 3) := by decide +kernel
theorem d_LogDisk_file_123 : decode prog_1_method_16_code 123 = .ok (.athrow, 1) := by decide +kernel
theorem d_LogDisk_byteAt_0 : decode prog_1_method_17_code 0 = .ok (.iload_n 1, 1) := by decide +kernel
theorem d_LogDisk_byteAt_1 : decode prog_1_method_17_code 1 = .ok (.invokestatic 227, 3) := by decide +kernel
theorem d_LogDisk_byteAt_4 : decode prog_1_method_17_code 4 = .ok (.ifCond .eq 23, 3) := by decide +kernel
theorem d_LogDisk_byteAt_7 : decode prog_1_method_17_code 7 = .ok (.iload_n 2, 1) := by decide +kernel
theorem d_LogDisk_byteAt_8 : decode prog_1_method_17_code 8 = .ok (.ifCond .lt 19, 3) := by decide +kernel
theorem d_LogDisk_byteAt_11 : decode prog_1_method_17_code 11 = .ok (.iload_n 2, 1) := by decide +kernel
theorem d_LogDisk_byteAt_12 : decode prog_1_method_17_code 12 = .ok (.aload_n 0, 1) := by decide +kernel
theorem d_LogDisk_byteAt_13 : decode prog_1_method_17_code 13 = .ok (.getfield 11, 3) := by decide +kernel
theorem d_LogDisk_byteAt_16 : decode prog_1_method_17_code 16 = .ok (.iload_n 1, 1) := by decide +kernel
theorem d_LogDisk_byteAt_17 : decode prog_1_method_17_code 17 = .ok (.aaload, 1) := by decide +kernel
theorem d_LogDisk_byteAt_18 : decode prog_1_method_17_code 18 = .ok (.getfield 282, 3) := by decide +kernel
theorem d_LogDisk_byteAt_21 : decode prog_1_method_17_code 21 = .ok (.getfield 286, 3) := by decide +kernel
theorem d_LogDisk_byteAt_24 : decode prog_1_method_17_code 24 = .ok (.if_icmp .lt 14, 3) := by decide +kernel
theorem d_LogDisk_byteAt_27 : decode prog_1_method_17_code 27 = .ok (.new 189, 3) := by decide +kernel
theorem d_LogDisk_byteAt_30 : decode prog_1_method_17_code 30 = .ok (.dup, 1) := by decide +kernel
theorem d_LogDisk_byteAt_31 : decode prog_1_method_17_code 31 = .ok (.ldc_w 272, 3) := by decide +kernel
theorem d_LogDisk_byteAt_34 : decode prog_1_method_17_code 34 = .ok (.invokespecial 193, 3) := by decide +kernel
theorem d_LogDisk_byteAt_37 : decode prog_1_method_17_code 37 = .ok (.athrow, 1) := by decide +kernel
theorem d_LogDisk_byteAt_38 : decode prog_1_method_17_code 38 = .ok (.aload_n 0, 1) := by decide +kernel
theorem d_LogDisk_byteAt_39 : decode prog_1_method_17_code 39 = .ok (.getfield 11, 3) := by decide +kernel
theorem d_LogDisk_byteAt_42 : decode prog_1_method_17_code 42 = .ok (.iload_n 1, 1) := by decide +kernel
theorem d_LogDisk_byteAt_43 : decode prog_1_method_17_code 43 = .ok (.aaload, 1) := by decide +kernel
theorem d_LogDisk_byteAt_44 : decode prog_1_method_17_code 44 = .ok (.iload_n 2, 1) := by decide +kernel
theorem d_LogDisk_byteAt_45 : decode prog_1_method_17_code 45 = .ok (.invokevirtual 275, 3) := by decide +kernel
theorem d_LogDisk_byteAt_48 : decode prog_1_method_17_code 48 = .ok (.ireturn, 1) := by decide +kernel
theorem d_LogDisk_isFile_0 : decode prog_1_method_18_code 0 = .ok (.iload_n 0, 1) := by decide +kernel
theorem d_LogDisk_isFile_1 : decode prog_1_method_18_code 1 = .ok (.ifCond .lt 13, 3) := by decide +kernel
theorem d_LogDisk_isFile_4 : decode prog_1_method_18_code 4 = .ok (.iload_n 0, 1) := by decide +kernel
theorem d_LogDisk_isFile_5 : decode prog_1_method_18_code 5 = .ok (.bipush 16, 2) := by decide +kernel
theorem d_LogDisk_isFile_7 : decode prog_1_method_18_code 7 = .ok (.if_icmp .ge 7, 3) := by decide +kernel
theorem d_LogDisk_isFile_10 : decode prog_1_method_18_code 10 = .ok (.iconst 1, 1) := by decide +kernel
theorem d_LogDisk_isFile_11 : decode prog_1_method_18_code 11 = .ok (.goto 4, 3) := by decide +kernel
theorem d_LogDisk_isFile_14 : decode prog_1_method_18_code 14 = .ok (.iconst 0, 1) := by decide +kernel
theorem d_LogDisk_isFile_15 : decode prog_1_method_18_code 15 = .ok (.ireturn, 1) := by decide +kernel
theorem d_LogDisk_isInLog_0 : decode prog_1_method_19_code 0 = .ok (.iload_n 1, 1) := by decide +kernel
theorem d_LogDisk_isInLog_1 : decode prog_1_method_19_code 1 = .ok (.aload_n 0, 1) := by decide +kernel
theorem d_LogDisk_isInLog_2 : decode prog_1_method_19_code 2 = .ok (.getfield 43, 3) := by decide +kernel
theorem d_LogDisk_isInLog_5 : decode prog_1_method_19_code 5 = .ok (.getfield 161, 3) := by decide +kernel
theorem d_LogDisk_isInLog_8 : decode prog_1_method_19_code 8 = .ok (.if_icmp .le 15, 3) := by decide +kernel
theorem d_LogDisk_isInLog_11 : decode prog_1_method_19_code 11 = .ok (.iload_n 1, 1) := by decide +kernel
theorem d_LogDisk_isInLog_12 : decode prog_1_method_19_code 12 = .ok (.aload_n 0, 1) := by decide +kernel
theorem d_LogDisk_isInLog_13 : decode prog_1_method_19_code 13 = .ok (.getfield 150, 3) := by decide +kernel
theorem d_LogDisk_isInLog_16 : decode prog_1_method_19_code 16 = .ok (.if_icmp .gt 7, 3) := by decide +kernel
theorem d_LogDisk_isInLog_19 : decode prog_1_method_19_code 19 = .ok (.iconst 1, 1) := by decide +kernel
theorem d_LogDisk_isInLog_20 : decode prog_1_method_19_code 20 = .ok (.goto 4, 3) := by decide +kernel
theorem d_LogDisk_isInLog_23 : decode prog_1_method_19_code 23 = .ok (.iconst 0, 1) := by decide +kernel
theorem d_LogDisk_isInLog_24 : decode prog_1_method_19_code 24 = .ok (.ireturn, 1) := by decide +kernel
theorem d_LogDisk_termAt_0 : decode prog_1_method_20_code 0 = .ok (.aload_n 0, 1) := by decide +kernel
theorem d_LogDisk_termAt_1 : decode prog_1_method_20_code 1 = .ok (.iload_n 1, 1) := by decide +kernel
theorem d_LogDisk_termAt_2 : decode prog_1_method_20_code 2 = .ok (.invokevirtual 186, 3) := by decide +kernel
theorem d_LogDisk_termAt_5 : decode prog_1_method_20_code 5 = .ok (.ifCond .eq 22, 3) := by decide +kernel
theorem d_LogDisk_termAt_8 : decode prog_1_method_20_code 8 = .ok (.aload_n 0, 1) := by decide +kernel
theorem d_LogDisk_termAt_9 : decode prog_1_method_20_code 9 = .ok (.getfield 57, 3) := by decide +kernel
theorem d_LogDisk_termAt_12 : decode prog_1_method_20_code 12 = .ok (.getfield 261, 3) := by decide +kernel
