theorem d_Mo_firstSegment_10 : decode prog_12_method_42_code 10 = .ok (.aload_n 0, 1) := by decide +kernel
theorem d_Mo_firstSegment_11 : decode prog_12_method_42_code 11 = .ok (.iload_n 2, 1) := by decide +kernel
theorem d_Mo_firstSegment_12 : decode prog_12_method_42_code 12 = .ok (.invokevirtual 210, 3) := by decide +kernel
theorem d_Mo_firstSegment_15 : decode prog_12_method_42_code 15 = .ok (.ifCond .le 36, 3) := by decide +kernel
theorem d_Mo_firstSegment_18 : decode prog_12_method_42_code 18 = .ok (.aload_n 0, 1) := by decide +kernel
theorem d_Mo_firstSegment_19 : decode prog_12_method_42_code 19 = .ok (.iload_n 2, 1) := by decide +kernel
theorem d_Mo_firstSegment_20 : decode prog_12_method_42_code 20 = .ok (.invokevirtual 187, 3) := by decide +kernel
theorem d_Mo_firstSegment_23 : decode prog_12_method_42_code 23 = .ok (.aload_n 0, 1) := by decide +kernel
theorem d_Mo_firstSegment_24 : decode prog_12_method_42_code 24 = .ok (.getfield 163, 3) := by decide +kernel
theorem d_Mo_firstSegment_27 : decode prog_12_method_42_code 27 = .ok (.iconst 1, 1) := by decide +kernel
theorem d_Mo_firstSegment_28 : decode prog_12_method_42_code 28 = .ok (.iadd, 1) := by decide +kernel
theorem d_Mo_firstSegment_29 : decode prog_12_method_42_code 29 = .ok (.if_icmp .gt 22, 3) := by decide +kernel
theorem d_Mo_firstSegment_32 : decode prog_12_method_42_code 32 = .ok (.iload_n 1, 1) := by decide +kernel
theorem d_Mo_firstSegment_33 : decode prog_12_method_42_code 33 = .ok (.ifCond .lt 16, 3) := by decide +kernel
theorem d_Mo_firstSegment_36 : decode prog_12_method_42_code 36 = .ok (.aload_n 0, 1) := by decide +kernel
theorem d_Mo_firstSegment_37 : decode prog_12_method_42_code 37 = .ok (.iload_n 2, 1) := by decide +kernel
theorem d_Mo_firstSegment_38 : decode prog_12_method_42_code 38 = .ok (.invokevirtual 187, 3) := by decide +kernel
theorem d_Mo_firstSegment_41 : decode prog_12_method_42_code 41 = .ok (.aload_n 0, 1) := by decide +kernel
theorem d_Mo_firstSegment_42 : decode prog_12_method_42_code 42 = .ok (.iload_n 1, 1) := by decide +kernel
theorem d_Mo_firstSegment_43 : decode prog_12_method_42_code 43 = .ok (.invokevirtual 187, 3) := by decide +kernel
theorem d_Mo_firstSegment_46 : decode prog_12_method_42_code 46 = .ok (.if_icmp .le 5, 3) := by decide +kernel
theorem d_Mo_firstSegment_49 : decode prog_12_method_42_code 49 = .ok (.iload_n 2, 1) := by decide +kernel
theorem d_Mo_firstSegment_50 : decode prog_12_method_42_code 50 = .ok (.istore_n 1, 1) := by decide +kernel
theorem d_Mo_firstSegment_51 : decode prog_12_method_42_code 51 = .ok (.iinc 2 1, 3) := by decide +kernel
theorem d_Mo_firstSegment_54 : decode prog_12_method_42_code 54 = .ok (.goto (-50), 3) := by decide +kernel
theorem d_Mo_firstSegment_57 : decode prog_12_method_42_code 57 = .ok (.iload_n 1, 1) := by decide +kernel
theorem d_Mo_firstSegment_58 : decode prog_12_method_42_code 58 = .ok (.ifCond .ge 5, 3) := by decide +kernel
theorem d_Mo_firstSegment_61 : decode prog_12_method_42_code 61 = .ok (.iconst (-1), 1) := by decide +kernel
theorem d_Mo_firstSegment_62 : decode prog_12_method_42_code 62 = .ok (.ireturn, 1) := by decide +kernel
theorem d_Mo_firstSegment_63 : decode prog_12_method_42_code 63 = .ok (.aload_n 0, 1) := by decide +kernel
theorem d_Mo_firstSegment_64 : decode prog_12_method_42_code 64 = .ok (.iload_n 1, 1) := by decide +kernel
theorem d_Mo_firstSegment_65 : decode prog_12_method_42_code 65 = .ok (.invokevirtual 187, 3) := by decide +kernel
theorem d_Mo_firstSegment_68 : decode prog_12_method_42_code 68 = .ok (.aload_n 0, 1) := by decide +kernel
theorem d_Mo_firstSegment_69 : decode prog_12_method_42_code 69 = .ok (.getfield 163, 3) := by decide +kernel
theorem d_Mo_firstSegment_72 : decode prog_12_method_42_code 72 = .ok (.iconst 1, 1) := by decide +kernel
theorem d_Mo_firstSegment_73 : decode prog_12_method_42_code 73 = .ok (.iadd, 1) := by decide +kernel
theorem d_Mo_firstSegment_74 : decode prog_12_method_42_code 74 = .ok (.if_icmp .ne 31, 3) := by decide +kernel
theorem d_Mo_firstSegment_77 : decode prog_12_method_42_code 77 = .ok (.aload_n 0, 1) := by decide +kernel
theorem d_Mo_firstSegment_78 : decode prog_12_method_42_code 78 = .ok (.getfield 16, 3) := by decide +kernel
theorem d_Mo_firstSegment_81 : decode prog_12_method_42_code 81 = .ok (.aload_n 0, 1) := by decide +kernel
theorem d_Mo_firstSegment_82 : decode prog_12_method_42_code 82 = .ok (.getfield 31, 3) := by decide +kernel
theorem d_Mo_firstSegment_85 : decode prog_12_method_42_code 85 = .ok (.sipush 330, 3) := by decide +kernel
theorem d_Mo_firstSegment_88 : decode prog_12_method_42_code 88 = .ok (.iload_n 1, 1) := by decide +kernel
theorem d_Mo_firstSegment_89 : decode prog_12_method_42_code 89 = .ok (.imul, 1) := by decide +kernel
theorem d_Mo_firstSegment_90 : decode prog_12_method_42_code 90 = .ok (.iaload, 1) := by decide +kernel
theorem d_Mo_firstSegment_91 : decode prog_12_method_42_code 91 = .ok (.iaload, 1) := by decide +kernel
theorem d_Mo_firstSegment_92 : decode prog_12_method_42_code 92 = .ok (.aload_n 0, 1) := by decide +kernel
theorem d_Mo_firstSegment_93 : decode prog_12_method_42_code 93 = .ok (.getfield 166, 3) := by decide +kernel
theorem d_Mo_firstSegment_96 : decode prog_12_method_42_code 96 = .ok (.if_icmp .ne 7, 3) := by decide +kernel
theorem d_Mo_firstSegment_99 : decode prog_12_method_42_code 99 = .ok (.iload_n 1, 1) := by decide +kernel
theorem d_Mo_firstSegment_100 : decode prog_12_method_42_code 100 = .ok (.goto 4, 3) := by decide +kernel
theorem d_Mo_firstSegment_103 : decode prog_12_method_42_code 103 = .ok (.iconst (-1), 1) := by decide +kernel
theorem d_Mo_firstSegment_104 : decode prog_12_method_42_code 104 = .ok (.ireturn, 1) := by decide +kernel
theorem d_Mo_firstSegment_105 : decode prog_12_method_42_code 105 = .ok (.aload_n 0, 1) := by decide +kernel
theorem d_Mo_firstSegment_106 : decode prog_12_method_42_code 106 = .ok (.getfield 163, 3) := by decide +kernel
theorem d_Mo_firstSegment_109 : decode prog_12_method_42_code 109 = .ok (.aload_n 0, 1) := by decide +kernel
theorem d_Mo_firstSegment_110 : decode prog_12_method_42_code 110 = .ok (.iload_n 1, 1) := by decide +kernel
theorem d_Mo_firstSegment_111 : decode prog_12_method_42_code 111 = .ok (.invokevirtual 187, 3) := by decide +kernel
theorem d_Mo_firstSegment_114 : decode prog_12_method_42_code 114 = .ok (.isub, 1) := by decide +kernel
theorem d_Mo_firstSegment_115 : decode prog_12_method_42_code 115 = .ok (.iconst 1, 1) := by decide +kernel
theorem d_Mo_firstSegment_116 : decode prog_12_method_42_code 116 = .ok (.iadd, 1) := by decide +kernel
theorem d_Mo_firstSegment_117 : decode prog_12_method_42_code 117 = .ok (.istore_n 2, 1) := by decide +kernel
theorem d_Mo_firstSegment_118 : decode prog_12_method_42_code 118 = .ok (.iload_n 2, 1) := by decide +kernel
theorem d_Mo_firstSegment_119 : decode prog_12_method_42_code 119 = .ok (.aload_n 0, 1) := by decide +kernel
theorem d_Mo_firstSegment_120 : decode prog_12_method_42_code 120 = .ok (.iload_n 1, 1) := by decide +kernel
theorem d_Mo_firstSegment_121 : decode prog_12_method_42_code 121 = .ok (.invokevirtual 210, 3) := by decide +kernel
theorem d_Mo_firstSegment_124 : decode prog_12_method_42_code 124 = .ok (.if_icmp .ge 31, 3) := by decide +kernel
theorem d_Mo_firstSegment_127 : decode prog_12_method_42_code 127 = .ok (.aload_n 0, 1) := by decide +kernel
theorem d_Mo_firstSegment_128 : decode prog_12_method_42_code 128 = .ok (.getfield 16, 3) := by decide +kernel
theorem d_Mo_firstSegment_131 : decode prog_12_method_42_code 131 = .ok (.aload_n 0, 1) := by decide +kernel
theorem d_Mo_firstSegment_132 : decode prog_12_method_42_code 132 = .ok (.getfield 31, 3) := by decide +kernel
theorem d_Mo_firstSegment_135 : decode prog_12_method_42_code 135 = .ok (.sipush 330, 3) := by decide +kernel
theorem d_Mo_firstSegment_138 : decode prog_12_method_42_code 138 = .ok (.iload_n 1, 1) := by decide +kernel
theorem d_Mo_firstSegment_139 : decode prog_12_method_42_code 139 = .ok (.imul, 1) := by decide +kernel
theorem d_Mo_firstSegment_140 : decode prog_12_method_42_code 140 = .ok (.iload_n 2, 1) := by decide +kernel
theorem d_Mo_firstSegment_141 : decode prog_12_method_42_code 141 = .ok (.iadd, 1) := by decide +kernel
theorem d_Mo_firstSegment_142 : decode prog_12_method_42_code 142 = .ok (.iaload, 1) := by decide +kernel
theorem d_Mo_firstSegment_143 : decode prog_12_method_42_code 143 = .ok (.iaload, 1) := by decide +kernel
theorem d_Mo_firstSegment_144 : decode prog_12_method_42_code 144 = .ok (.aload_n 0, 1) := by decide +kernel
theorem d_Mo_firstSegment_145 : decode prog_12_method_42_code 145 = .ok (.getfield 166, 3) := by decide +kernel
theorem d_Mo_firstSegment_148 : decode prog_12_method_42_code 148 = .ok (.if_icmp .ne 7, 3) := by decide +kernel
theorem d_Mo_firstSegment_151 : decode prog_12_method_42_code 151 = .ok (.iload_n 1, 1) := by decide +kernel
theorem d_Mo_firstSegment_152 : decode prog_12_method_42_code 152 = .ok (.goto 4, 3) := by decide +kernel
theorem d_Mo_firstSegment_155 : decode prog_12_method_42_code 155 = .ok (.iconst (-1), 1) := by decide +kernel
theorem d_Mo_firstSegment_156 : decode prog_12_method_42_code 156 = .ok (.ireturn, 1) := by decide +kernel
theorem d_Mo_join_0 : decode prog_12_method_43_code 0 = .ok (.aload_n 0, 1) := by decide +kernel
theorem d_Mo_join_1 : decode prog_12_method_43_code 1 = .ok (.iload_n 1, 1) := by decide +kernel
theorem d_Mo_join_2 : decode prog_12_method_43_code 2 = .ok (.invokevirtual 210, 3) := by decide +kernel
theorem d_Mo_join_5 : decode prog_12_method_43_code 5 = .ok (.istore_n 2, 1) := by decide +kernel
theorem d_Mo_join_6 : decode prog_12_method_43_code 6 = .ok (.iconst 0, 1) := by decide +kernel
theorem d_Mo_join_7 : decode prog_12_method_43_code 7 = .ok (.istore_n 3, 1) := by decide +kernel
theorem d_Mo_join_8 : decode prog_12_method_43_code 8 = .ok (.iconst 0, 1) := by decide +kernel
theorem d_Mo_join_9 : decode prog_12_method_43_code 9 = .ok (.istore 4, 2) := by decide +kernel
theorem d_Mo_join_11 : decode prog_12_method_43_code 11 = .ok (.iload 4, 2) := by decide +kernel
theorem d_Mo_join_13 : decode prog_12_method_43_code 13 = .ok (.iload_n 2, 1) := by decide +kernel
theorem d_Mo_join_14 : decode prog_12_method_43_code 14 = .ok (.if_icmp .ge 84, 3) := by decide +kernel
theorem d_Mo_join_17 : decode prog_12_method_43_code 17 = .ok (.aload_n 0, 1) := by decide +kernel
theorem d_Mo_join_18 : decode prog_12_method_43_code 18 = .ok (.getfield 31, 3) := by decide +kernel
theorem d_Mo_join_21 : decode prog_12_method_43_code 21 = .ok (.sipush 330, 3) := by decide +kernel
theorem d_Mo_join_24 : decode prog_12_method_43_code 24 = .ok (.iload_n 1, 1) := by decide +kernel
theorem d_Mo_join_25 : decode prog_12_method_43_code 25 = .ok (.imul, 1) := by decide +kernel
theorem d_Mo_join_26 : decode prog_12_method_43_code 26 = .ok (.iload 4, 2) := by decide +kernel
theorem d_Mo_join_28 : decode prog_12_method_43_code 28 = .ok (.iadd, 1) := by decide +kernel
theorem d_Mo_join_29 : decode prog_12_method_43_code 29 = .ok (.iaload, 1) := by decide +kernel
theorem d_Mo_join_30 : decode prog_12_method_43_code 30 = .ok (.istore 5, 2) := by decide +kernel
theorem d_Mo_join_32 : decode prog_12_method_43_code 32 = .ok (.iload_n 3, 1) := by decide +kernel
theorem d_Mo_join_33 : decode prog_12_method_43_code 33 = .ok (.aload_n 0, 1) := by decide +kernel
theorem d_Mo_join_34 : decode prog_12_method_43_code 34 = .ok (.iload 5, 2) := by decide +kernel
theorem d_Mo_join_36 : decode prog_12_method_43_code 36 = .ok (.invokevirtual 115, 3) := by decide +kernel
theorem d_Mo_join_39 : decode prog_12_method_43_code 39 = .ok (.iadd, 1) := by decide +kernel
theorem d_Mo_join_40 : decode prog_12_method_43_code 40 = .ok (.istore_n 3, 1) := by decide +kernel
theorem d_Mo_join_41 : decode prog_12_method_43_code 41 = .ok (.iload 4, 2) := by decide +kernel
theorem d_Mo_join_43 : decode prog_12_method_43_code 43 = .ok (.ifCond .le 49, 3) := by decide +kernel
theorem d_Mo_join_46 : decode prog_12_method_43_code 46 = .ok (.aload_n 0, 1) := by decide +kernel
theorem d_Mo_join_47 : decode prog_12_method_43_code 47 = .ok (.getfield 13, 3) := by decide +kernel
theorem d_Mo_join_50 : decode prog_12_method_43_code 50 = .ok (.iload 5, 2) := by decide +kernel
theorem d_Mo_join_52 : decode prog_12_method_43_code 52 = .ok (.iaload, 1) := by decide +kernel
theorem d_Mo_join_53 : decode prog_12_method_43_code 53 = .ok (.aload_n 0, 1) := by decide +kernel
theorem d_Mo_join_54 : decode prog_12_method_43_code 54 = .ok (.getfield 163, 3) := by decide +kernel
theorem d_Mo_join_57 : decode prog_12_method_43_code 57 = .ok (.if_icmp .le 35, 3) := by decide +kernel
theorem d_Mo_join_60 : decode prog_12_method_43_code 60 = .ok (.aload_n 0, 1) := by decide +kernel
theorem d_Mo_join_61 : decode prog_12_method_43_code 61 = .ok (.getfield 60, 3) := by decide +kernel
theorem d_Mo_join_64 : decode prog_12_method_43_code 64 = .ok (.aload_n 0, 1) := by decide +kernel
theorem d_Mo_join_65 : decode prog_12_method_43_code 65 = .ok (.getfield 13, 3) := by decide +kernel
theorem d_Mo_join_68 : decode prog_12_method_43_code 68 = .ok (.iload 5, 2) := by decide +kernel
theorem d_Mo_join_70 : decode prog_12_method_43_code 70 = .ok (.iaload, 1) := by decide +kernel
theorem d_Mo_join_71 : decode prog_12_method_43_code 71 = .ok (.aload_n 0, 1) := by decide +kernel
theorem d_Mo_join_72 : decode prog_12_method_43_code 72 = .ok (.getfield 163, 3) := by decide +kernel
theorem d_Mo_join_75 : decode prog_12_method_43_code 75 = .ok (.isub, 1) := by decide +kernel
theorem d_Mo_join_76 : decode prog_12_method_43_code 76 = .ok (.iconst 1, 1) := by decide +kernel
theorem d_Mo_join_77 : decode prog_12_method_43_code 77 = .ok (.isub, 1) := by decide +kernel
theorem d_Mo_join_78 : decode prog_12_method_43_code 78 = .ok (.iload 5, 2) := by decide +kernel
theorem d_Mo_join_80 : decode prog_12_method_43_code 80 = .ok (.iastore, 1) := by decide +kernel
theorem d_Mo_join_81 : decode prog_12_method_43_code 81 = .ok (.aload_n 0, 1) := by decide +kernel
theorem d_Mo_join_82 : decode prog_12_method_43_code 82 = .ok (.aload_n 0, 1) := by decide +kernel
theorem d_Mo_join_83 : decode prog_12_method_43_code 83 = .ok (.getfield 13, 3) := by decide +kernel
theorem d_Mo_join_86 : decode prog_12_method_43_code 86 = .ok (.iload 5, 2) := by decide +kernel
theorem d_Mo_join_88 : decode prog_12_method_43_code 88 = .ok (.iaload, 1) := by decide +kernel
theorem d_Mo_join_89 : decode prog_12_method_43_code 89 = .ok (.putfield 169, 3) := by decide +kernel
theorem d_Mo_join_92 : decode prog_12_method_43_code 92 = .ok (.iinc 4 1, 3) := by decide +kernel
theorem d_Mo_join_95 : decode prog_12_method_43_code 95 = .ok (.goto (-84), 3) := by decide +kernel
theorem d_Mo_join_98 : decode prog_12_method_43_code 98 = .ok (.aload_n 0, 1) := by decide +kernel
theorem d_Mo_join_99 : decode prog_12_method_43_code 99 = .ok (.iload_n 1, 1) := by decide +kernel
theorem d_Mo_join_100 : decode prog_12_method_43_code 100 = .ok (.iload_n 3, 1) := by decide +kernel
theorem d_Mo_join_101 : decode prog_12_method_43_code 101 = .ok (.invokevirtual 118, 3) := by decide +kernel
theorem d_Mo_join_104 : decode prog_12_method_43_code 104 = .ok (.aload_n 0, 1) := by decide +kernel
theorem d_Mo_join_105 : decode prog_12_method_43_code 105 = .ok (.getfield 57, 3) := by decide +kernel
theorem d_Mo_join_108 : decode prog_12_method_43_code 108 = .ok (.aload_n 0, 1) := by decide +kernel
theorem d_Mo_join_109 : decode prog_12_method_43_code 109 = .ok (.getfield 175, 3) := by decide +kernel
theorem d_Mo_join_112 : decode prog_12_method_43_code 112 = .ok (.iload_n 1, 1) := by decide +kernel
theorem d_Mo_join_113 : decode prog_12_method_43_code 113 = .ok (.iastore, 1) := by decide +kernel
theorem d_Mo_join_114 : decode prog_12_method_43_code 114 = .ok (.aload_n 0, 1) := by decide +kernel
theorem d_Mo_join_115 : decode prog_12_method_43_code 115 = .ok (.dup, 1) := by decide +kernel
theorem d_Mo_join_116 : decode prog_12_method_43_code 116 = .ok (.getfield 175, 3) := by decide +kernel
theorem d_Mo_join_119 : decode prog_12_method_43_code 119 = .ok (.iconst 1, 1) := by decide +kernel
theorem d_Mo_join_120 : decode prog_12_method_43_code 120 = .ok (.iadd, 1) := by decide +kernel
theorem d_Mo_join_121 : decode prog_12_method_43_code 121 = .ok (.putfield 175, 3) := by decide +kernel
theorem d_Mo_join_124 : decode prog_12_method_43_code 124 = .ok (.return_, 1) := by decide +kernel
theorem d_Mo_isJoined_0 : decode prog_12_method_44_code 0 = .ok (.iconst 0, 1) := by decide +kernel
theorem d_Mo_isJoined_1 : decode prog_12_method_44_code 1 = .ok (.istore_n 2, 1) := by decide +kernel
theorem d_Mo_isJoined_2 : decode prog_12_method_44_code 2 = .ok (.iconst 0, 1) := by decide +kernel
theorem d_Mo_isJoined_3 : decode prog_12_method_44_code 3 = .ok (.istore_n 3, 1) := by decide +kernel
theorem d_Mo_isJoined_4 : decode prog_12_method_44_code 4 = .ok (.iload_n 3, 1) := by decide +kernel
theorem d_Mo_isJoined_5 : decode prog_12_method_44_code 5 = .ok (.aload_n 0, 1) := by decide +kernel
theorem d_Mo_isJoined_6 : decode prog_12_method_44_code 6 = .ok (.getfield 175, 3) := by decide +kernel
theorem d_Mo_isJoined_9 : decode prog_12_method_44_code 9 = .ok (.if_icmp .ge 29, 3) := by decide +kernel
theorem d_Mo_isJoined_12 : decode prog_12_method_44_code 12 = .ok (.iload_n 2, 1) := by decide +kernel
theorem d_Mo_isJoined_13 : decode prog_12_method_44_code 13 = .ok (.ifCond .ne 13, 3) := by decide +kernel
theorem d_Mo_isJoined_16 : decode prog_12_method_44_code 16 = .ok (.aload_n 0, 1) := by decide +kernel
theorem d_Mo_isJoined_17 : decode prog_12_method_44_code 17 = .ok (.getfield 57, 3) := by decide +kernel
theorem d_Mo_isJoined_20 : decode prog_12_method_44_code 20 = .ok (.iload_n 3, 1) := by decide +kernel
theorem d_Mo_isJoined_21 : decode prog_12_method_44_code 21 = .ok (.iaload, 1) := by decide +kernel
theorem d_Mo_isJoined_22 : decode prog_12_method_44_code 22 = .ok (.iload_n 1, 1) := by decide +kernel
theorem d_Mo_isJoined_23 : decode prog_12_method_44_code 23 = .ok (.if_icmp .ne 7, 3) := by decide +kernel
theorem d_Mo_isJoined_26 : decode prog_12_method_44_code 26 = .ok (.iconst 1, 1) := by decide +kernel
theorem d_Mo_isJoined_27 : decode prog_12_method_44_code 27 = .ok (.goto 4, 3) := by decide +kernel
theorem d_Mo_isJoined_30 : decode prog_12_method_44_code 30 = .ok (.iconst 0, 1) := by decide +kernel
theorem d_Mo_isJoined_31 : decode prog_12_method_44_code 31 = .ok (.istore_n 2, 1) := by decide +kernel
theorem d_Mo_isJoined_32 : decode prog_12_method_44_code 32 = .ok (.iinc 3 1, 3) := by decide +kernel
theorem d_Mo_isJoined_35 : decode prog_12_method_44_code 35 = .ok (.goto (-31), 3) := by decide +kernel
theorem d_Mo_isJoined_38 : decode prog_12_method_44_code 38 = .ok (.iload_n 2, 1) := by decide +kernel
theorem d_Mo_isJoined_39 : decode prog_12_method_44_code 39 = .ok (.ireturn, 1) := by decide +kernel
theorem d_Mo_nextSegment_0 : decode prog_12_method_45_code 0 = .ok (.iconst 4, 1) := by decide +kernel
theorem d_Mo_nextSegment_1 : decode prog_12_method_45_code 1 = .ok (.istore_n 1, 1) := by decide +kernel
theorem d_Mo_nextSegment_2 : decode prog_12_method_45_code 2 = .ok (.iload_n 1, 1) := by decide +kernel
theorem d_Mo_nextSegment_3 : decode prog_12_method_45_code 3 = .ok (.bipush 16, 2) := by decide +kernel
theorem d_Mo_nextSegment_5 : decode prog_12_method_45_code 5 = .ok (.if_icmp .ge 67, 3) := by decide +kernel
theorem d_Mo_nextSegment_8 : decode prog_12_method_45_code 8 = .ok (.aload_n 0, 1) := by decide +kernel
theorem d_Mo_nextSegment_9 : decode prog_12_method_45_code 9 = .ok (.iload_n 1, 1) := by decide +kernel
theorem d_Mo_nextSegment_10 : decode prog_12_method_45_code 10 = .ok (.invokevirtual 213, 3) := by decide +kernel
theorem d_Mo_nextSegment_13 : decode prog_12_method_45_code 13 = .ok (.ifCond .ne 53, 3) := by decide +kernel
theorem d_Mo_nextSegment_16 : decode prog_12_method_45_code 16 = .ok (.aload_n 0, 1) := by decide +kernel
theorem d_Mo_nextSegment_17 : decode prog_12_method_45_code 17 = .ok (.iload_n 1, 1) := by decide +kernel
theorem d_Mo_nextSegment_18 : decode prog_12_method_45_code 18 = .ok (.invokevirtual 210, 3) := by decide +kernel
theorem d_Mo_nextSegment_21 : decode prog_12_method_45_code 21 = .ok (.ifCond .le 45, 3) := by decide +kernel
theorem d_Mo_nextSegment_24 : decode prog_12_method_45_code 24 = .ok (.aload_n 0, 1) := by decide +kernel
theorem d_Mo_nextSegment_25 : decode prog_12_method_45_code 25 = .ok (.iload_n 1, 1) := by decide +kernel
theorem d_Mo_nextSegment_26 : decode prog_12_method_45_code 26 = .ok (.invokevirtual 187, 3) := by decide +kernel
theorem d_Mo_nextSegment_29 : decode prog_12_method_45_code 29 = .ok (.aload_n 0, 1) := by decide +kernel
theorem d_Mo_nextSegment_30 : decode prog_12_method_45_code 30 = .ok (.getfield 169, 3) := by decide +kernel
theorem d_Mo_nextSegment_33 : decode prog_12_method_45_code 33 = .ok (.iconst 1, 1) := by decide +kernel
theorem d_Mo_nextSegment_34 : decode prog_12_method_45_code 34 = .ok (.iadd, 1) := by decide +kernel
theorem d_Mo_nextSegment_35 : decode prog_12_method_45_code 35 = .ok (.if_icmp .ne 31, 3) := by decide +kernel
theorem d_Mo_nextSegment_38 : decode prog_12_method_45_code 38 = .ok (.aload_n 0, 1) := by decide +kernel
theorem d_Mo_nextSegment_39 : decode prog_12_method_45_code 39 = .ok (.getfield 16, 3) := by decide +kernel
theorem d_Mo_nextSegment_42 : decode prog_12_method_45_code 42 = .ok (.aload_n 0, 1) := by decide +kernel
theorem d_Mo_nextSegment_43 : decode prog_12_method_45_code 43 = .ok (.getfield 31, 3) := by decide +kernel
theorem d_Mo_nextSegment_46 : decode prog_12_method_45_code 46 = .ok (.sipush 330, 3) := by decide +kernel
theorem d_Mo_nextSegment_49 : decode prog_12_method_45_code 49 = .ok (.iload_n 1, 1) := by decide +kernel
theorem d_Mo_nextSegment_50 : decode prog_12_method_45_code 50 = .ok (.imul, 1) := by decide +kernel
theorem d_Mo_nextSegment_51 : decode prog_12_method_45_code 51 = .ok (.iaload, 1) := by decide +kernel
theorem d_Mo_nextSegment_52 : decode prog_12_method_45_code 52 = .ok (.iaload, 1) := by decide +kernel
theorem d_Mo_nextSegment_53 : decode prog_12_method_45_code 53 = .ok (.aload_n 0, 1) := by decide +kernel
theorem d_Mo_nextSegment_54 : decode prog_12_method_45_code 54 = .ok (.aload_n 0, 1) := by decide +kernel
theorem d_Mo_nextSegment_55 : decode prog_12_method_45_code 55 = .ok (.getfield 169, 3) := by decide +kernel
theorem d_Mo_nextSegment_58 : decode prog_12_method_45_code 58 = .ok (.invokevirtual 172, 3) := by decide +kernel
theorem d_Mo_nextSegment_61 : decode prog_12_method_45_code 61 = .ok (.if_icmp .ne 5, 3) := by decide +kernel
theorem d_Mo_nextSegment_64 : decode prog_12_method_45_code 64 = .ok (.iload_n 1, 1) := by decide +kernel
theorem d_Mo_nextSegment_65 : decode prog_12_method_45_code 65 = .ok (.ireturn, 1) := by decide +kernel
theorem d_Mo_nextSegment_66 : decode prog_12_method_45_code 66 = .ok (.iinc 1 1, 3) := by decide +kernel
theorem d_Mo_nextSegment_69 : decode prog_12_method_45_code 69 = .ok (.goto (-67), 3) := by decide +kernel
theorem d_Mo_nextSegment_72 : decode prog_12_method_45_code 72 = .ok (.iconst (-1), 1) := by decide +kernel
theorem d_Mo_nextSegment_73 : decode prog_12_method_45_code 73 = .ok (.ireturn, 1) := by decide +kernel
theorem d_Mo_crash_0 : decode prog_12_method_46_code 0 = .ok (.aload_n 0, 1) := by decide +kernel
theorem d_Mo_crash_1 : decode prog_12_method_46_code 1 = .ok (.iconst 0, 1) := by decide +kernel
theorem d_Mo_crash_2 : decode prog_12_method_46_code 2 = .ok (.putfield 78, 3) := by decide +kernel
theorem d_Mo_crash_5 : decode prog_12_method_46_code 5 = .ok (.lload_n 1, 1) := by decide +kernel
theorem d_Mo_crash_6 : decode prog_12_method_46_code 6 = .ok (.lstore_n 3, 1) := by decide +kernel
theorem d_Mo_crash_7 : decode prog_12_method_46_code 7 = .ok (.iconst 0, 1) := by decide +kernel
theorem d_Mo_crash_8 : decode prog_12_method_46_code 8 = .ok (.istore 5, 2) := by decide +kernel
theorem d_Mo_crash_10 : decode prog_12_method_46_code 10 = .ok (.iload 5, 2) := by decide +kernel
theorem d_Mo_crash_12 : decode prog_12_method_46_code 12 = .ok (.bipush 16, 2) := by decide +kernel
theorem d_Mo_crash_14 : decode prog_12_method_46_code 14 = .ok (.if_icmp .ge 108, 3) := by decide +kernel
theorem d_Mo_crash_17 : decode prog_12_method_46_code 17 = .ok (.lload_n 3, 1) := by decide +kernel
theorem d_Mo_crash_18 : decode prog_12_method_46_code 18 = .ok (.ldc2_w 217, 3) := by decide +kernel
theorem d_Mo_crash_21 : decode prog_12_method_46_code 21 = .ok (.lmul, 1) := by decide +kernel
theorem d_Mo_crash_22 : decode prog_12_method_46_code 22 = .ok (.ldc2_w 219, 3) := by decide +kernel
theorem d_Mo_crash_25 : decode prog_12_method_46_code 25 = .ok (.ladd, 1) := by decide +kernel
theorem d_Mo_crash_26 : decode prog_12_method_46_code 26 = .ok (.lstore_n 3, 1) := by decide +kernel
theorem d_Mo_crash_27 : decode prog_12_method_46_code 27 = .ok (.lload_n 3, 1) := by decide +kernel
theorem d_Mo_crash_28 : decode prog_12_method_46_code 28 = .ok (.bipush 33, 2) := by decide +kernel
theorem d_Mo_crash_30 : decode prog_12_method_46_code 30 = .ok (.lushr, 1) := by decide +kernel
theorem d_Mo_crash_31 : decode prog_12_method_46_code 31 = .ok (.ldc2_w 221, 3) := by decide +kernel
theorem d_Mo_crash_34 : decode prog_12_method_46_code 34 = .ok (.land, 1) := by decide +kernel
theorem d_Mo_crash_35 : decode prog_12_method_46_code 35 = .ok (.lstore 6, 2) := by decide +kernel
theorem d_Mo_crash_37 : decode prog_12_method_46_code 37 = .ok (.lload_n 3, 1) := by decide +kernel
theorem d_Mo_crash_38 : decode prog_12_method_46_code 38 = .ok (.bipush 61, 2) := by decide +kernel
theorem d_Mo_crash_40 : decode prog_12_method_46_code 40 = .ok (.lushr, 1) := by decide +kernel
theorem d_Mo_crash_41 : decode prog_12_method_46_code 41 = .ok (.lconst 0, 1) := by decide +kernel
theorem d_Mo_crash_42 : decode prog_12_method_46_code 42 = .ok (.lcmp, 1) := by decide +kernel
theorem d_Mo_crash_43 : decode prog_12_method_46_code 43 = .ok (.ifCond .ne 7, 3) := by decide +kernel
theorem d_Mo_crash_46 : decode prog_12_method_46_code 46 = .ok (.iconst 0, 1) := by decide +kernel
theorem d_Mo_crash_47 : decode prog_12_method_46_code 47 = .ok (.goto 31, 3) := by decide +kernel
theorem d_Mo_crash_50 : decode prog_12_method_46_code 50 = .ok (.iconst 1, 1) := by decide +kernel
theorem d_Mo_crash_51 : decode prog_12_method_46_code 51 = .ok (.lload 6, 2) := by decide +kernel
theorem d_Mo_crash_53 : decode prog_12_method_46_code 53 = .ok (.ldc2_w 223, 3) := by decide +kernel
theorem d_Mo_crash_56 : decode prog_12_method_46_code 56 = .ok (.aload_n 0, 1) := by decide +kernel
theorem d_Mo_crash_57 : decode prog_12_method_46_code 57 = .ok (.getfield 37, 3) := by decide +kernel
theorem d_Mo_crash_60 : decode prog_12_method_46_code 60 = .ok (.iload 5, 2) := by decide +kernel
theorem d_Mo_crash_62 : decode prog_12_method_46_code 62 = .ok (.iaload, 1) := by decide +kernel
theorem d_Mo_crash_63 : decode prog_12_method_46_code 63 = .ok (.aload_n 0, 1) := by decide +kernel
theorem d_Mo_crash_64 : decode prog_12_method_46_code 64 = .ok (.getfield 44, 3) := by decide +kernel
theorem d_Mo_crash_67 : decode prog_12_method_46_code 67 = .ok (.iload 5, 2) := by decide +kernel
theorem d_Mo_crash_69 : decode prog_12_method_46_code 69 = .ok (.iaload, 1) := by decide +kernel
theorem d_Mo_crash_70 : decode prog_12_method_46_code 70 = .ok (.isub, 1) := by decide +kernel
theorem d_Mo_crash_71 : decode prog_12_method_46_code 71 = .ok (.i2l, 1) := by decide +kernel
theorem d_Mo_crash_72 : decode prog_12_method_46_code 72 = .ok (.lmul, 1) := by decide +kernel
theorem d_Mo_crash_73 : decode prog_12_method_46_code 73 = .ok (.lconst 1, 1) := by decide +kernel
theorem d_Mo_crash_74 : decode prog_12_method_46_code 74 = .ok (.ladd, 1) := by decide +kernel
theorem d_Mo_crash_75 : decode prog_12_method_46_code 75 = .ok (.lrem, 1) := by decide +kernel
theorem d_Mo_crash_76 : decode prog_12_method_46_code 76 = .ok (.l2i, 1) := by decide +kernel
theorem d_Mo_crash_77 : decode prog_12_method_46_code 77 = .ok (.iadd, 1) := by decide +kernel
theorem d_Mo_crash_78 : decode prog_12_method_46_code 78 = .ok (.istore 8, 2) := by decide +kernel
theorem d_Mo_crash_80 : decode prog_12_method_46_code 80 = .ok (.aload_n 0, 1) := by decide +kernel
theorem d_Mo_crash_81 : decode prog_12_method_46_code 81 = .ok (.iload 5, 2) := by decide +kernel
theorem d_Mo_crash_83 : decode prog_12_method_46_code 83 = .ok (.aload_n 0, 1) := by decide +kernel
theorem d_Mo_crash_84 : decode prog_12_method_46_code 84 = .ok (.getfield 50, 3) := by decide +kernel
theorem d_Mo_crash_87 : decode prog_12_method_46_code 87 = .ok (.iload 5, 2) := by decide +kernel
theorem d_Mo_crash_89 : decode prog_12_method_46_code 89 = .ok (.iaload, 1) := by decide +kernel
theorem d_Mo_crash_90 : decode prog_12_method_46_code 90 = .ok (.ifCond .lt 13, 3) := by decide +kernel
theorem d_Mo_crash_93 : decode prog_12_method_46_code 93 = .ok (.aload_n 0, 1) := by decide +kernel
theorem d_Mo_crash_94 : decode prog_12_method_46_code 94 = .ok (.getfield 50, 3) := by decide +kernel
theorem d_Mo_crash_97 : decode prog_12_method_46_code 97 = .ok (.iload 5, 2) := by decide +kernel
theorem d_Mo_crash_99 : decode prog_12_method_46_code 99 = .ok (.iaload, 1) := by decide +kernel
theorem d_Mo_crash_100 : decode prog_12_method_46_code 100 = .ok (.goto 5, 3) := by decide +kernel
theorem d_Mo_crash_103 : decode prog_12_method_46_code 103 = .ok (.iload 8, 2) := by decide +kernel
theorem d_Mo_crash_105 : decode prog_12_method_46_code 105 = .ok (.invokevirtual 225, 3) := by decide +kernel
theorem d_Mo_crash_108 : decode prog_12_method_46_code 108 = .ok (.aload_n 0, 1) := by decide +kernel
theorem d_Mo_crash_109 : decode prog_12_method_46_code 109 = .ok (.getfield 50, 3) := by decide +kernel
theorem d_Mo_crash_112 : decode prog_12_method_46_code 112 = .ok (.iload 5, 2) := by decide +kernel
theorem d_Mo_crash_114 : decode prog_12_method_46_code 114 = .ok (.iconst (-1), 1) := by decide +kernel
theorem d_Mo_crash_115 : decode prog_12_method_46_code 115 = .ok (.iastore, 1) := by decide +kernel
theorem d_Mo_crash_116 : decode prog_12_method_46_code 116 = .ok (.iinc 5 1, 3) := by decide +kernel
theorem d_Mo_crash_119 : decode prog_12_method_46_code 119 = .ok (.goto (-109), 3) := by decide +kernel
theorem d_Mo_crash_122 : decode prog_12_method_46_code 122 = .ok (.aload_n 0, 1) := by decide +kernel
theorem d_Mo_crash_123 : decode prog_12_method_46_code 123 = .ok (.invokevirtual 228, 3) := by decide +kernel
theorem d_Mo_crash_126 : decode prog_12_method_46_code 126 = .ok (.aload_n 0, 1) := by decide +kernel
theorem d_Mo_crash_127 : decode prog_12_method_46_code 127 = .ok (.invokevirtual 231, 3) := by decide +kernel
theorem d_Mo_crash_130 : decode prog_12_method_46_code 130 = .ok (.aload_n 0, 1) := by decide +kernel
theorem d_Mo_crash_131 : decode prog_12_method_46_code 131 = .ok (.aload_n 0, 1) := by decide +kernel
theorem d_Mo_crash_132 : decode prog_12_method_46_code 132 = .ok (.getfield 163, 3) := by decide +kernel
theorem d_Mo_crash_135 : decode prog_12_method_46_code 135 = .ok (.putfield 169, 3) := by decide +kernel
theorem d_Mo_crash_138 : decode prog_12_method_46_code 138 = .ok (.aload_n 0, 1) := by decide +kernel
theorem d_Mo_crash_139 : decode prog_12_method_46_code 139 = .ok (.iconst 0, 1) := by decide +kernel
theorem d_Mo_crash_140 : decode prog_12_method_46_code 140 = .ok (.putfield 175, 3) := by decide +kernel
theorem d_Mo_crash_143 : decode prog_12_method_46_code 143 = .ok (.aload_n 0, 1) := by decide +kernel
theorem d_Mo_crash_144 : decode prog_12_method_46_code 144 = .ok (.invokevirtual 234, 3) := by decide +kernel
theorem d_Mo_crash_147 : decode prog_12_method_46_code 147 = .ok (.istore 5, 2) := by decide +kernel
theorem d_Mo_crash_149 : decode prog_12_method_46_code 149 = .ok (.iload 5, 2) := by decide +kernel
theorem d_Mo_crash_151 : decode prog_12_method_46_code 151 = .ok (.ifCond .lt 33, 3) := by decide +kernel
theorem d_Mo_crash_154 : decode prog_12_method_46_code 154 = .ok (.aload_n 0, 1) := by decide +kernel
theorem d_Mo_crash_155 : decode prog_12_method_46_code 155 = .ok (.iload 5, 2) := by decide +kernel
theorem d_Mo_crash_157 : decode prog_12_method_46_code 157 = .ok (.invokevirtual 237, 3) := by decide +kernel
theorem d_Mo_crash_160 : decode prog_12_method_46_code 160 = .ok (.aload_n 0, 1) := by decide +kernel
theorem d_Mo_crash_161 : decode prog_12_method_46_code 161 = .ok (.getfield 34, 3) := by decide +kernel
theorem d_Mo_crash_164 : decode prog_12_method_46_code 164 = .ok (.iload 5, 2) := by decide +kernel
theorem d_Mo_crash_166 : decode prog_12_method_46_code 166 = .ok (.iaload, 1) := by decide +kernel
theorem d_Mo_crash_167 : decode prog_12_method_46_code 167 = .ok (.iconst 1, 1) := by decide +kernel
theorem d_Mo_crash_168 : decode prog_12_method_46_code 168 = .ok (.if_icmp .le 10, 3) := by decide +kernel
theorem d_Mo_crash_171 : decode prog_12_method_46_code 171 = .ok (.aload_n 0, 1) := by decide +kernel
theorem d_Mo_crash_172 : decode prog_12_method_46_code 172 = .ok (.invokevirtual 240, 3) := by decide +kernel
theorem d_Mo_crash_175 : decode prog_12_method_46_code 175 = .ok (.goto 4, 3) := by decide +kernel
theorem d_Mo_crash_178 : decode prog_12_method_46_code 178 = .ok (.iconst (-1), 1) := by decide +kernel
theorem d_Mo_crash_179 : decode prog_12_method_46_code 179 = .ok (.istore 5, 2) := by decide +kernel
theorem d_Mo_crash_181 : decode prog_12_method_46_code 181 = .ok (.goto (-32), 3) := by decide +kernel
theorem d_Mo_crash_184 : decode prog_12_method_46_code 184 = .ok (.iconst 4, 1) := by decide +kernel
theorem d_Mo_crash_185 : decode prog_12_method_46_code 185 = .ok (.istore 6, 2) := by decide +kernel
theorem d_Mo_crash_187 : decode prog_12_method_46_code 187 = .ok (.iload 6, 2) := by decide +kernel
theorem d_Mo_crash_189 : decode prog_12_method_46_code 189 = .ok (.bipush 16, 2) := by decide +kernel
theorem d_Mo_crash_191 : decode prog_12_method_46_code 191 = .ok (.if_icmp .ge 24, 3) := by decide +kernel
theorem d_Mo_crash_194 : decode prog_12_method_46_code 194 = .ok (.aload_n 0, 1) := by decide +kernel
theorem d_Mo_crash_195 : decode prog_12_method_46_code 195 = .ok (.iload 6, 2) := by decide +kernel
theorem d_Mo_crash_197 : decode prog_12_method_46_code 197 = .ok (.invokevirtual 213, 3) := by decide +kernel
theorem d_Mo_crash_200 : decode prog_12_method_46_code 200 = .ok (.ifCond .ne 9, 3) := by decide +kernel
theorem d_Mo_crash_203 : decode prog_12_method_46_code 203 = .ok (.aload_n 0, 1) := by decide +kernel
theorem d_Mo_crash_204 : decode prog_12_method_46_code 204 = .ok (.iload 6, 2) := by decide +kernel
theorem d_Mo_crash_206 : decode prog_12_method_46_code 206 = .ok (.invokevirtual 190, 3) := by decide +kernel
theorem d_Mo_crash_209 : decode prog_12_method_46_code 209 = .ok (.iinc 6 1, 3) := by decide +kernel
theorem d_Mo_crash_212 : decode prog_12_method_46_code 212 = .ok (.goto (-25), 3) := by decide +kernel
theorem d_Mo_crash_215 : decode prog_12_method_46_code 215 = .ok (.iconst 0, 1) := by decide +kernel
theorem d_Mo_crash_216 : decode prog_12_method_46_code 216 = .ok (.istore 6, 2) := by decide +kernel
theorem d_Mo_crash_218 : decode prog_12_method_46_code 218 = .ok (.iload 6, 2) := by decide +kernel
theorem d_Mo_crash_220 : decode prog_12_method_46_code 220 = .ok (.bipush 16, 2) := by decide +kernel
theorem d_Mo_crash_222 : decode prog_12_method_46_code 222 = .ok (.if_icmp .ge 15, 3) := by decide +kernel
theorem d_Mo_crash_225 : decode prog_12_method_46_code 225 = .ok (.aload_n 0, 1) := by decide +kernel
theorem d_Mo_crash_226 : decode prog_12_method_46_code 226 = .ok (.iload 6, 2) := by decide +kernel
theorem d_Mo_crash_228 : decode prog_12_method_46_code 228 = .ok (.invokevirtual 200, 3) := by decide +kernel
theorem d_Mo_crash_231 : decode prog_12_method_46_code 231 = .ok (.iinc 6 1, 3) := by decide +kernel
theorem d_Mo_crash_234 : decode prog_12_method_46_code 234 = .ok (.goto (-16), 3) := by decide +kernel
theorem d_Mo_crash_237 : decode prog_12_method_46_code 237 = .ok (.aload_n 0, 1) := by decide +kernel
theorem d_Mo_crash_238 : decode prog_12_method_46_code 238 = .ok (.iconst 0, 1) := by decide +kernel
theorem d_Mo_crash_239 : decode prog_12_method_46_code 239 = .ok (.putfield 160, 3) := by decide +kernel
theorem d_Mo_crash_242 : decode prog_12_method_46_code 242 = .ok (.aload_n 0, 1) := by decide +kernel
theorem d_Mo_crash_243 : decode prog_12_method_46_code 243 = .ok (.getfield 169, 3) := by decide +kernel
theorem d_Mo_crash_246 : decode prog_12_method_46_code 246 = .ok (.ireturn, 1) := by decide +kernel
theorem d_Mo_state_0 : decode prog_12_method_47_code 0 = .ok (.aload_n 0, 1) := by decide +kernel
theorem d_Mo_state_1 : decode prog_12_method_47_code 1 = .ok (.iconst 0, 1) := by decide +kernel
theorem d_Mo_state_2 : decode prog_12_method_47_code 2 = .ok (.putfield 78, 3) := by decide +kernel
theorem d_Mo_state_5 : decode prog_12_method_47_code 5 = .ok (.iload_n 1, 1) := by decide +kernel
theorem d_Mo_state_6 : decode prog_12_method_47_code 6 = .ok (.iconst 0, 1) := by decide +kernel
theorem d_Mo_state_7 : decode prog_12_method_47_code 7 = .ok (.bipush 10, 2) := by decide +kernel
theorem d_Mo_state_9 : decode prog_12_method_47_code 9 = .ok (.invokestatic 125, 3) := by decide +kernel
theorem d_Mo_state_12 : decode prog_12_method_47_code 12 = .ok (.ifCond .ne 9, 3) := by decide +kernel
theorem d_Mo_state_15 : decode prog_12_method_47_code 15 = .ok (.aload_n 0, 1) := by decide +kernel
theorem d_Mo_state_16 : decode prog_12_method_47_code 16 = .ok (.iconst 1, 1) := by decide +kernel
theorem d_Mo_state_17 : decode prog_12_method_47_code 17 = .ok (.invokevirtual 129, 3) := by decide +kernel
theorem d_Mo_state_20 : decode prog_12_method_47_code 20 = .ok (.ireturn, 1) := by decide +kernel
theorem d_Mo_state_21 : decode prog_12_method_47_code 21 = .ok (.iload_n 1, 1) := by decide +kernel
theorem d_Mo_state_22 : decode prog_12_method_47_code 22 = .ok (.iconst 5, 1) := by decide +kernel
theorem d_Mo_state_23 : decode prog_12_method_47_code 23 = .ok (.if_icmp .ge 55, 3) := by decide +kernel
theorem d_Mo_state_26 : decode prog_12_method_47_code 26 = .ok (.iload_n 1, 1) := by decide +kernel
theorem d_Mo_state_27 : decode prog_12_method_47_code 27 = .ok (.ifCond .ne 10, 3) := by decide +kernel
theorem d_Mo_state_30 : decode prog_12_method_47_code 30 = .ok (.aload_n 0, 1) := by decide +kernel
theorem d_Mo_state_31 : decode prog_12_method_47_code 31 = .ok (.getfield 135, 3) := by decide +kernel
theorem d_Mo_state_34 : decode prog_12_method_47_code 34 = .ok (.goto 43, 3) := by decide +kernel
theorem d_Mo_state_37 : decode prog_12_method_47_code 37 = .ok (.iload_n 1, 1) := by decide +kernel
theorem d_Mo_state_38 : decode prog_12_method_47_code 38 = .ok (.iconst 1, 1) := by decide +kernel
theorem d_Mo_state_39 : decode prog_12_method_47_code 39 = .ok (.if_icmp .ne 10, 3) := by decide +kernel
theorem d_Mo_state_42 : decode prog_12_method_47_code 42 = .ok (.aload_n 0, 1) := by decide +kernel
theorem d_Mo_state_43 : decode prog_12_method_47_code 43 = .ok (.getfield 53, 3) := by decide +kernel
theorem d_Mo_state_46 : decode prog_12_method_47_code 46 = .ok (.goto 31, 3) := by decide +kernel
theorem d_Mo_state_49 : decode prog_12_method_47_code 49 = .ok (.iload_n 1, 1) := by decide +kernel
theorem d_Mo_state_50 : decode prog_12_method_47_code 50 = .ok (.iconst 2, 1) := by decide +kernel
theorem d_Mo_state_51 : decode prog_12_method_47_code 51 = .ok (.if_icmp .ne 10, 3) := by decide +kernel
theorem d_Mo_state_54 : decode prog_12_method_47_code 54 = .ok (.aload_n 0, 1) := by decide +kernel
theorem d_Mo_state_55 : decode prog_12_method_47_code 55 = .ok (.getfield 163, 3) := by decide +kernel
theorem d_Mo_state_58 : decode prog_12_method_47_code 58 = .ok (.goto 19, 3) := by decide +kernel
theorem d_Mo_state_61 : decode prog_12_method_47_code 61 = .ok (.iload_n 1, 1) := by decide +kernel
theorem d_Mo_state_62 : decode prog_12_method_47_code 62 = .ok (.iconst 3, 1) := by decide +kernel
theorem d_Mo_state_63 : decode prog_12_method_47_code 63 = .ok (.if_icmp .ne 10, 3) := by decide +kernel
theorem d_Mo_state_66 : decode prog_12_method_47_code 66 = .ok (.aload_n 0, 1) := by decide +kernel
theorem d_Mo_state_67 : decode prog_12_method_47_code 67 = .ok (.getfield 166, 3) := by decide +kernel
theorem d_Mo_state_70 : decode prog_12_method_47_code 70 = .ok (.goto 7, 3) := by decide +kernel
theorem d_Mo_state_73 : decode prog_12_method_47_code 73 = .ok (.aload_n 0, 1) := by decide +kernel
theorem d_Mo_state_74 : decode prog_12_method_47_code 74 = .ok (.getfield 72, 3) := by decide +kernel
theorem d_Mo_state_77 : decode prog_12_method_47_code 77 = .ok (.ireturn, 1) := by decide +kernel
theorem d_Mo_state_78 : decode prog_12_method_47_code 78 = .ok (.iload_n 1, 1) := by decide +kernel
theorem d_Mo_state_79 : decode prog_12_method_47_code 79 = .ok (.bipush 8, 2) := by decide +kernel
theorem d_Mo_state_81 : decode prog_12_method_47_code 81 = .ok (.if_icmp .ge 66, 3) := by decide +kernel
theorem d_Mo_state_84 : decode prog_12_method_47_code 84 = .ok (.iload_n 1, 1) := by decide +kernel
theorem d_Mo_state_85 : decode prog_12_method_47_code 85 = .ok (.iconst 5, 1) := by decide +kernel
theorem d_Mo_state_86 : decode prog_12_method_47_code 86 = .ok (.if_icmp .ne 35, 3) := by decide +kernel
theorem d_Mo_state_89 : decode prog_12_method_47_code 89 = .ok (.aload_n 0, 1) := by decide +kernel
theorem d_Mo_state_90 : decode prog_12_method_47_code 90 = .ok (.getfield 75, 3) := by decide +kernel
theorem d_Mo_state_93 : decode prog_12_method_47_code 93 = .ok (.ifCond .ge 7, 3) := by decide +kernel
theorem d_Mo_state_96 : decode prog_12_method_47_code 96 = .ok (.iconst 0, 1) := by decide +kernel
theorem d_Mo_state_97 : decode prog_12_method_47_code 97 = .ok (.goto 49, 3) := by decide +kernel
theorem d_Mo_state_100 : decode prog_12_method_47_code 100 = .ok (.aload_n 0, 1) := by decide +kernel
theorem d_Mo_state_101 : decode prog_12_method_47_code 101 = .ok (.getfield 25, 3) := by decide +kernel
theorem d_Mo_state_104 : decode prog_12_method_47_code 104 = .ok (.aload_n 0, 1) := by decide +kernel
theorem d_Mo_state_105 : decode prog_12_method_47_code 105 = .ok (.getfield 31, 3) := by decide +kernel
theorem d_Mo_state_108 : decode prog_12_method_47_code 108 = .ok (.sipush 330, 3) := by decide +kernel
theorem d_Mo_state_111 : decode prog_12_method_47_code 111 = .ok (.aload_n 0, 1) := by decide +kernel
theorem d_Mo_state_112 : decode prog_12_method_47_code 112 = .ok (.getfield 75, 3) := by decide +kernel
theorem d_Mo_state_115 : decode prog_12_method_47_code 115 = .ok (.imul, 1) := by decide +kernel
theorem d_Mo_state_116 : decode prog_12_method_47_code 116 = .ok (.iaload, 1) := by decide +kernel
theorem d_Mo_state_117 : decode prog_12_method_47_code 117 = .ok (.iaload, 1) := by decide +kernel
theorem d_Mo_state_118 : decode prog_12_method_47_code 118 = .ok (.goto 28, 3) := by decide +kernel
theorem d_Mo_state_121 : decode prog_12_method_47_code 121 = .ok (.iload_n 1, 1) := by decide +kernel
theorem d_Mo_state_122 : decode prog_12_method_47_code 122 = .ok (.bipush 6, 2) := by decide +kernel
theorem d_Mo_state_124 : decode prog_12_method_47_code 124 = .ok (.if_icmp .ne 10, 3) := by decide +kernel
theorem d_Mo_state_127 : decode prog_12_method_47_code 127 = .ok (.aload_n 0, 1) := by decide +kernel
theorem d_Mo_state_128 : decode prog_12_method_47_code 128 = .ok (.getfield 169, 3) := by decide +kernel
theorem d_Mo_state_131 : decode prog_12_method_47_code 131 = .ok (.goto 15, 3) := by decide +kernel
theorem d_Mo_state_134 : decode prog_12_method_47_code 134 = .ok (.aload_n 0, 1) := by decide +kernel
theorem d_Mo_state_135 : decode prog_12_method_47_code 135 = .ok (.getfield 160, 3) := by decide +kernel
theorem d_Mo_state_138 : decode prog_12_method_47_code 138 = .ok (.ifCond .eq 7, 3) := by decide +kernel
theorem d_Mo_state_141 : decode prog_12_method_47_code 141 = .ok (.iconst 1, 1) := by decide +kernel
theorem d_Mo_state_142 : decode prog_12_method_47_code 142 = .ok (.goto 4, 3) := by decide +kernel
theorem d_Mo_state_145 : decode prog_12_method_47_code 145 = .ok (.iconst 0, 1) := by decide +kernel
theorem d_Mo_state_146 : decode prog_12_method_47_code 146 = .ok (.ireturn, 1) := by decide +kernel
theorem d_Mo_state_147 : decode prog_12_method_47_code 147 = .ok (.iload_n 1, 1) := by decide +kernel
theorem d_Mo_state_148 : decode prog_12_method_47_code 148 = .ok (.bipush 8, 2) := by decide +kernel
theorem d_Mo_state_150 : decode prog_12_method_47_code 150 = .ok (.if_icmp .ne 10, 3) := by decide +kernel
theorem d_Mo_state_153 : decode prog_12_method_47_code 153 = .ok (.aload_n 0, 1) := by decide +kernel
theorem d_Mo_state_154 : decode prog_12_method_47_code 154 = .ok (.getfield 175, 3) := by decide +kernel
theorem d_Mo_state_157 : decode prog_12_method_47_code 157 = .ok (.goto 20, 3) := by decide +kernel
theorem d_Mo_state_160 : decode prog_12_method_47_code 160 = .ok (.iload_n 1, 1) := by decide +kernel
theorem d_Mo_state_161 : decode prog_12_method_47_code 161 = .ok (.bipush 9, 2) := by decide +kernel
theorem d_Mo_state_163 : decode prog_12_method_47_code 163 = .ok (.if_icmp .ne 10, 3) := by decide +kernel
theorem d_Mo_state_166 : decode prog_12_method_47_code 166 = .ok (.aload_n 0, 1) := by decide +kernel
theorem d_Mo_state_167 : decode prog_12_method_47_code 167 = .ok (.invokevirtual 111, 3) := by decide +kernel
theorem d_Mo_state_170 : decode prog_12_method_47_code 170 = .ok (.goto 7, 3) := by decide +kernel
theorem d_Mo_state_173 : decode prog_12_method_47_code 173 = .ok (.aload_n 0, 1) := by decide +kernel
theorem d_Mo_state_174 : decode prog_12_method_47_code 174 = .ok (.getfield 132, 3) := by decide +kernel
theorem d_Mo_state_177 : decode prog_12_method_47_code 177 = .ok (.ireturn, 1) := by decide +kernel
theorem d_Mo_fileOf_0 : decode prog_12_method_48_code 0 = .ok (.iconst (-1), 1) := by decide +kernel
theorem d_Mo_fileOf_1 : decode prog_12_method_48_code 1 = .ok (.istore_n 2, 1) := by decide +kernel
theorem d_Mo_fileOf_2 : decode prog_12_method_48_code 2 = .ok (.iconst 0, 1) := by decide +kernel
theorem d_Mo_fileOf_3 : decode prog_12_method_48_code 3 = .ok (.istore_n 3, 1) := by decide +kernel
theorem d_Mo_fileOf_4 : decode prog_12_method_48_code 4 = .ok (.iload_n 3, 1) := by decide +kernel
theorem d_Mo_fileOf_5 : decode prog_12_method_48_code 5 = .ok (.aload_n 0, 1) := by decide +kernel
theorem d_Mo_fileOf_6 : decode prog_12_method_48_code 6 = .ok (.getfield 175, 3) := by decide +kernel
theorem d_Mo_fileOf_9 : decode prog_12_method_48_code 9 = .ok (.if_icmp .ge 34, 3) := by decide +kernel
theorem d_Mo_fileOf_12 : decode prog_12_method_48_code 12 = .ok (.aload_n 0, 1) := by decide +kernel
theorem d_Mo_fileOf_13 : decode prog_12_method_48_code 13 = .ok (.aload_n 0, 1) := by decide +kernel
theorem d_Mo_fileOf_14 : decode prog_12_method_48_code 14 = .ok (.getfield 57, 3) := by decide +kernel
theorem d_Mo_fileOf_17 : decode prog_12_method_48_code 17 = .ok (.iload_n 3, 1) := by decide +kernel
theorem d_Mo_fileOf_18 : decode prog_12_method_48_code 18 = .ok (.iaload, 1) := by decide +kernel
theorem d_Mo_fileOf_19 : decode prog_12_method_48_code 19 = .ok (.iload_n 1, 1) := by decide +kernel
theorem d_Mo_fileOf_20 : decode prog_12_method_48_code 20 = .ok (.invokevirtual 194, 3) := by decide +kernel
theorem d_Mo_fileOf_23 : decode prog_12_method_48_code 23 = .ok (.ifCond .lt 12, 3) := by decide +kernel
theorem d_Mo_fileOf_26 : decode prog_12_method_48_code 26 = .ok (.aload_n 0, 1) := by decide +kernel
theorem d_Mo_fileOf_27 : decode prog_12_method_48_code 27 = .ok (.getfield 57, 3) := by decide +kernel
theorem d_Mo_fileOf_30 : decode prog_12_method_48_code 30 = .ok (.iload_n 3, 1) := by decide +kernel
theorem d_Mo_fileOf_31 : decode prog_12_method_48_code 31 = .ok (.iaload, 1) := by decide +kernel
theorem d_Mo_fileOf_32 : decode prog_12_method_48_code 32 = .ok (.goto 4, 3) := by decide +kernel
theorem d_Mo_fileOf_35 : decode prog_12_method_48_code 35 = .ok (.iload_n 2, 1) := by decide +kernel
theorem d_Mo_fileOf_36 : decode prog_12_method_48_code 36 = .ok (.istore_n 2, 1) := by decide +kernel
theorem d_Mo_fileOf_37 : decode prog_12_method_48_code 37 = .ok (.iinc 3 1, 3) := by decide +kernel
theorem d_Mo_fileOf_40 : decode prog_12_method_48_code 40 = .ok (.goto (-36), 3) := by decide +kernel
theorem d_Mo_fileOf_43 : decode prog_12_method_48_code 43 = .ok (.iload_n 2, 1) := by decide +kernel
theorem d_Mo_fileOf_44 : decode prog_12_method_48_code 44 = .ok (.ireturn, 1) := by decide +kernel
theorem d_Mo_entry_0 : decode prog_12_method_49_code 0 = .ok (.aload_n 0, 1) := by decide +kernel
theorem d_Mo_entry_1 : decode prog_12_method_49_code 1 = .ok (.iconst 0, 1) := by decide +kernel
theorem d_Mo_entry_2 : decode prog_12_method_49_code 2 = .ok (.putfield 78, 3) := by decide +kernel
theorem d_Mo_entry_5 : decode prog_12_method_49_code 5 = .ok (.iload_n 1, 1) := by decide +kernel
theorem d_Mo_entry_6 : decode prog_12_method_49_code 6 = .ok (.aload_n 0, 1) := by decide +kernel
theorem d_Mo_entry_7 : decode prog_12_method_49_code 7 = .ok (.getfield 163, 3) := by decide +kernel
theorem d_Mo_entry_10 : decode prog_12_method_49_code 10 = .ok (.aload_n 0, 1) := by decide +kernel
theorem d_Mo_entry_11 : decode prog_12_method_49_code 11 = .ok (.getfield 169, 3) := by decide +kernel
theorem d_Mo_entry_14 : decode prog_12_method_49_code 14 = .ok (.invokestatic 125, 3) := by decide +kernel
theorem d_Mo_entry_17 : decode prog_12_method_49_code 17 = .ok (.ifCond .eq 24, 3) := by decide +kernel
theorem d_Mo_entry_20 : decode prog_12_method_49_code 20 = .ok (.iload_n 2, 1) := by decide +kernel
theorem d_Mo_entry_21 : decode prog_12_method_49_code 21 = .ok (.iconst 0, 1) := by decide +kernel
theorem d_Mo_entry_22 : decode prog_12_method_49_code 22 = .ok (.iload_n 1, 1) := by decide +kernel
theorem d_Mo_entry_23 : decode prog_12_method_49_code 23 = .ok (.aload_n 0, 1) := by decide +kernel
theorem d_Mo_entry_24 : decode prog_12_method_49_code 24 = .ok (.getfield 163, 3) := by decide +kernel
theorem d_Mo_entry_27 : decode prog_12_method_49_code 27 = .ok (.if_icmp .ne 7, 3) := by decide +kernel
theorem d_Mo_entry_30 : decode prog_12_method_49_code 30 = .ok (.iconst 0, 1) := by decide +kernel
theorem d_Mo_entry_31 : decode prog_12_method_49_code 31 = .ok (.goto 4, 3) := by decide +kernel
theorem d_Mo_entry_34 : decode prog_12_method_49_code 34 = .ok (.iconst 4, 1) := by decide +kernel
theorem d_Mo_entry_35 : decode prog_12_method_49_code 35 = .ok (.invokestatic 125, 3) := by decide +kernel
theorem d_Mo_entry_38 : decode prog_12_method_49_code 38 = .ok (.ifCond .ne 9, 3) := by decide +kernel
theorem d_Mo_entry_41 : decode prog_12_method_49_code 41 = .ok (.aload_n 0, 1) := by decide +kernel
theorem d_Mo_entry_42 : decode prog_12_method_49_code 42 = .ok (.iconst 1, 1) := by decide +kernel
theorem d_Mo_entry_43 : decode prog_12_method_49_code 43 = .ok (.invokevirtual 129, 3) := by decide +kernel
theorem d_Mo_entry_46 : decode prog_12_method_49_code 46 = .ok (.ireturn, 1) := by decide +kernel
theorem d_Mo_entry_47 : decode prog_12_method_49_code 47 = .ok (.iload_n 2, 1) := by decide +kernel
theorem d_Mo_entry_48 : decode prog_12_method_49_code 48 = .ok (.ifCond .ne 9, 3) := by decide +kernel
theorem d_Mo_entry_51 : decode prog_12_method_49_code 51 = .ok (.aload_n 0, 1) := by decide +kernel
theorem d_Mo_entry_52 : decode prog_12_method_49_code 52 = .ok (.iload_n 1, 1) := by decide +kernel
theorem d_Mo_entry_53 : decode prog_12_method_49_code 53 = .ok (.invokevirtual 172, 3) := by decide +kernel
theorem d_Mo_entry_56 : decode prog_12_method_49_code 56 = .ok (.ireturn, 1) := by decide +kernel
theorem d_Mo_entry_57 : decode prog_12_method_49_code 57 = .ok (.aload_n 0, 1) := by decide +kernel
theorem d_Mo_entry_58 : decode prog_12_method_49_code 58 = .ok (.getfield 60, 3) := by decide +kernel
theorem d_Mo_entry_61 : decode prog_12_method_49_code 61 = .ok (.iload_n 1, 1) := by decide +kernel
theorem d_Mo_entry_62 : decode prog_12_method_49_code 62 = .ok (.aload_n 0, 1) := by decide +kernel
theorem d_Mo_entry_63 : decode prog_12_method_49_code 63 = .ok (.getfield 163, 3) := by decide +kernel
theorem d_Mo_entry_66 : decode prog_12_method_49_code 66 = .ok (.isub, 1) := by decide +kernel
theorem d_Mo_entry_67 : decode prog_12_method_49_code 67 = .ok (.iconst 1, 1) := by decide +kernel
theorem d_Mo_entry_68 : decode prog_12_method_49_code 68 = .ok (.isub, 1) := by decide +kernel
theorem d_Mo_entry_69 : decode prog_12_method_49_code 69 = .ok (.iaload, 1) := by decide +kernel
theorem d_Mo_entry_70 : decode prog_12_method_49_code 70 = .ok (.istore_n 3, 1) := by decide +kernel
theorem d_Mo_entry_71 : decode prog_12_method_49_code 71 = .ok (.iload_n 2, 1) := by decide +kernel
theorem d_Mo_entry_72 : decode prog_12_method_49_code 72 = .ok (.iconst 3, 1) := by decide +kernel
theorem d_Mo_entry_73 : decode prog_12_method_49_code 73 = .ok (.if_icmp .ge 24, 3) := by decide +kernel
theorem d_Mo_entry_76 : decode prog_12_method_49_code 76 = .ok (.iload_n 2, 1) := by decide +kernel
theorem d_Mo_entry_77 : decode prog_12_method_49_code 77 = .ok (.iconst 1, 1) := by decide +kernel
theorem d_Mo_entry_78 : decode prog_12_method_49_code 78 = .ok (.if_icmp .ne 12, 3) := by decide +kernel
theorem d_Mo_entry_81 : decode prog_12_method_49_code 81 = .ok (.aload_n 0, 1) := by decide +kernel
theorem d_Mo_entry_82 : decode prog_12_method_49_code 82 = .ok (.getfield 19, 3) := by decide +kernel
theorem d_Mo_entry_85 : decode prog_12_method_49_code 85 = .ok (.iload_n 3, 1) := by decide +kernel
theorem d_Mo_entry_86 : decode prog_12_method_49_code 86 = .ok (.iaload, 1) := by decide +kernel
theorem d_Mo_entry_87 : decode prog_12_method_49_code 87 = .ok (.goto 9, 3) := by decide +kernel
theorem d_Mo_entry_90 : decode prog_12_method_49_code 90 = .ok (.aload_n 0, 1) := by decide +kernel
theorem d_Mo_entry_91 : decode prog_12_method_49_code 91 = .ok (.getfield 25, 3) := by decide +kernel
theorem d_Mo_entry_94 : decode prog_12_method_49_code 94 = .ok (.iload_n 3, 1) := by decide +kernel
theorem d_Mo_entry_95 : decode prog_12_method_49_code 95 = .ok (.iaload, 1) := by decide +kernel
theorem d_Mo_entry_96 : decode prog_12_method_49_code 96 = .ok (.ireturn, 1) := by decide +kernel
theorem d_Mo_entry_97 : decode prog_12_method_49_code 97 = .ok (.aload_n 0, 1) := by decide +kernel
theorem d_Mo_entry_98 : decode prog_12_method_49_code 98 = .ok (.iload_n 3, 1) := by decide +kernel
theorem d_Mo_entry_99 : decode prog_12_method_49_code 99 = .ok (.invokevirtual 243, 3) := by decide +kernel
theorem d_Mo_entry_102 : decode prog_12_method_49_code 102 = .ok (.istore 4, 2) := by decide +kernel
theorem d_Mo_entry_104 : decode prog_12_method_49_code 104 = .ok (.iload_n 2, 1) := by decide +kernel
theorem d_Mo_entry_105 : decode prog_12_method_49_code 105 = .ok (.iconst 3, 1) := by decide +kernel
theorem d_Mo_entry_106 : decode prog_12_method_49_code 106 = .ok (.if_icmp .ne 8, 3) := by decide +kernel
theorem d_Mo_entry_109 : decode prog_12_method_49_code 109 = .ok (.iload 4, 2) := by decide +kernel
theorem d_Mo_entry_111 : decode prog_12_method_49_code 111 = .ok (.goto 10, 3) := by decide +kernel
theorem d_Mo_entry_114 : decode prog_12_method_49_code 114 = .ok (.aload_n 0, 1) := by decide +kernel
theorem d_Mo_entry_115 : decode prog_12_method_49_code 115 = .ok (.iload 4, 2) := by decide +kernel
theorem d_Mo_entry_117 : decode prog_12_method_49_code 117 = .ok (.iload_n 3, 1) := by decide +kernel
theorem d_Mo_entry_118 : decode prog_12_method_49_code 118 = .ok (.invokevirtual 194, 3) := by decide +kernel
theorem d_Mo_entry_121 : decode prog_12_method_49_code 121 = .ok (.ireturn, 1) := by decide +kernel
theorem d_Mo_contentAt_0 : decode prog_12_method_50_code 0 = .ok (.aload_n 0, 1) := by decide +kernel
theorem d_Mo_contentAt_1 : decode prog_12_method_50_code 1 = .ok (.iconst 0, 1) := by decide +kernel
theorem d_Mo_contentAt_2 : decode prog_12_method_50_code 2 = .ok (.putfield 78, 3) := by decide +kernel
theorem d_Mo_contentAt_5 : decode prog_12_method_50_code 5 = .ok (.iload_n 1, 1) := by decide +kernel
theorem d_Mo_contentAt_6 : decode prog_12_method_50_code 6 = .ok (.aload_n 0, 1) := by decide +kernel
theorem d_Mo_contentAt_7 : decode prog_12_method_50_code 7 = .ok (.getfield 163, 3) := by decide +kernel
theorem d_Mo_contentAt_10 : decode prog_12_method_50_code 10 = .ok (.iconst 1, 1) := by decide +kernel
theorem d_Mo_contentAt_11 : decode prog_12_method_50_code 11 = .ok (.iadd, 1) := by decide +kernel
theorem d_Mo_contentAt_12 : decode prog_12_method_50_code 12 = .ok (.aload_n 0, 1) := by decide +kernel
theorem d_Mo_contentAt_13 : decode prog_12_method_50_code 13 = .ok (.getfield 169, 3) := by decide +kernel
theorem d_Mo_contentAt_16 : decode prog_12_method_50_code 16 = .ok (.invokestatic 125, 3) := by decide +kernel
theorem d_Mo_contentAt_19 : decode prog_12_method_50_code 19 = .ok (.ifCond .ne 9, 3) := by decide +kernel
theorem d_Mo_contentAt_22 : decode prog_12_method_50_code 22 = .ok (.aload_n 0, 1) := by decide +kernel
theorem d_Mo_contentAt_23 : decode prog_12_method_50_code 23 = .ok (.iconst 1, 1) := by decide +kernel
theorem d_Mo_contentAt_24 : decode prog_12_method_50_code 24 = .ok (.invokevirtual 129, 3) := by decide +kernel
theorem d_Mo_contentAt_27 : decode prog_12_method_50_code 27 = .ok (.ireturn, 1) := by decide +kernel
theorem d_Mo_contentAt_28 : decode prog_12_method_50_code 28 = .ok (.aload_n 0, 1) := by decide +kernel
theorem d_Mo_contentAt_29 : decode prog_12_method_50_code 29 = .ok (.getfield 60, 3) := by decide +kernel
theorem d_Mo_contentAt_32 : decode prog_12_method_50_code 32 = .ok (.iload_n 1, 1) := by decide +kernel
theorem d_Mo_contentAt_33 : decode prog_12_method_50_code 33 = .ok (.aload_n 0, 1) := by decide +kernel
theorem d_Mo_contentAt_34 : decode prog_12_method_50_code 34 = .ok (.getfield 163, 3) := by decide +kernel
theorem d_Mo_contentAt_37 : decode prog_12_method_50_code 37 = .ok (.isub, 1) := by decide +kernel
theorem d_Mo_contentAt_38 : decode prog_12_method_50_code 38 = .ok (.iconst 1, 1) := by decide +kernel
theorem d_Mo_contentAt_39 : decode prog_12_method_50_code 39 = .ok (.isub, 1) := by decide +kernel
theorem d_Mo_contentAt_40 : decode prog_12_method_50_code 40 = .ok (.iaload, 1) := by decide +kernel
theorem d_Mo_contentAt_41 : decode prog_12_method_50_code 41 = .ok (.istore_n 3, 1) := by decide +kernel
theorem d_Mo_contentAt_42 : decode prog_12_method_50_code 42 = .ok (.iload_n 2, 1) := by decide +kernel
theorem d_Mo_contentAt_43 : decode prog_12_method_50_code 43 = .ok (.iconst 0, 1) := by decide +kernel
theorem d_Mo_contentAt_44 : decode prog_12_method_50_code 44 = .ok (.aload_n 0, 1) := by decide +kernel
theorem d_Mo_contentAt_45 : decode prog_12_method_50_code 45 = .ok (.getfield 25, 3) := by decide +kernel
theorem d_Mo_contentAt_48 : decode prog_12_method_50_code 48 = .ok (.iload_n 3, 1) := by decide +kernel
theorem d_Mo_contentAt_49 : decode prog_12_method_50_code 49 = .ok (.iaload, 1) := by decide +kernel
theorem d_Mo_contentAt_50 : decode prog_12_method_50_code 50 = .ok (.iconst 1, 1) := by decide +kernel
theorem d_Mo_contentAt_51 : decode prog_12_method_50_code 51 = .ok (.isub, 1) := by decide +kernel
theorem d_Mo_contentAt_52 : decode prog_12_method_50_code 52 = .ok (.invokestatic 125, 3) := by decide +kernel
theorem d_Mo_contentAt_55 : decode prog_12_method_50_code 55 = .ok (.ifCond .eq 19, 3) := by decide +kernel
theorem d_Mo_contentAt_58 : decode prog_12_method_50_code 58 = .ok (.aload_n 0, 1) := by decide +kernel
theorem d_Mo_contentAt_59 : decode prog_12_method_50_code 59 = .ok (.getfield 28, 3) := by decide +kernel
theorem d_Mo_contentAt_62 : decode prog_12_method_50_code 62 = .ok (.aload_n 0, 1) := by decide +kernel
theorem d_Mo_contentAt_63 : decode prog_12_method_50_code 63 = .ok (.getfield 22, 3) := by decide +kernel
theorem d_Mo_contentAt_66 : decode prog_12_method_50_code 66 = .ok (.iload_n 3, 1) := by decide +kernel
theorem d_Mo_contentAt_67 : decode prog_12_method_50_code 67 = .ok (.iaload, 1) := by decide +kernel
theorem d_Mo_contentAt_68 : decode prog_12_method_50_code 68 = .ok (.iload_n 2, 1) := by decide +kernel
theorem d_Mo_contentAt_69 : decode prog_12_method_50_code 69 = .ok (.iadd, 1) := by decide +kernel
theorem d_Mo_contentAt_70 : decode prog_12_method_50_code 70 = .ok (.iaload, 1) := by decide +kernel
theorem d_Mo_contentAt_71 : decode prog_12_method_50_code 71 = .ok (.goto 8, 3) := by decide +kernel
theorem d_Mo_contentAt_74 : decode prog_12_method_50_code 74 = .ok (.aload_n 0, 1) := by decide +kernel
theorem d_Mo_contentAt_75 : decode prog_12_method_50_code 75 = .ok (.iconst 2, 1) := by decide +kernel
theorem d_Mo_contentAt_76 : decode prog_12_method_50_code 76 = .ok (.invokevirtual 129, 3) := by decide +kernel
theorem d_Mo_contentAt_79 : decode prog_12_method_50_code 79 = .ok (.ireturn, 1) := by decide +kernel
theorem d_Mo_snapshotAt_0 : decode prog_12_method_51_code 0 = .ok (.aload_n 0, 1) := by decide +kernel
theorem d_Mo_snapshotAt_1 : decode prog_12_method_51_code 1 = .ok (.iconst 0, 1) := by decide +kernel
theorem d_Mo_snapshotAt_2 : decode prog_12_method_51_code 2 = .ok (.putfield 78, 3) := by decide +kernel
theorem d_Mo_snapshotAt_5 : decode prog_12_method_51_code 5 = .ok (.aload_n 0, 1) := by decide +kernel
theorem d_Mo_snapshotAt_6 : decode prog_12_method_51_code 6 = .ok (.getfield 75, 3) := by decide +kernel
theorem d_Mo_snapshotAt_9 : decode prog_12_method_51_code 9 = .ok (.ifCond .lt 31, 3) := by decide +kernel
theorem d_Mo_snapshotAt_12 : decode prog_12_method_51_code 12 = .ok (.iload_n 1, 1) := by decide +kernel
theorem d_Mo_snapshotAt_13 : decode prog_12_method_51_code 13 = .ok (.iconst 0, 1) := by decide +kernel
theorem d_Mo_snapshotAt_14 : decode prog_12_method_51_code 14 = .ok (.aload_n 0, 1) := by decide +kernel
theorem d_Mo_snapshotAt_15 : decode prog_12_method_51_code 15 = .ok (.getfield 25, 3) := by decide +kernel
theorem d_Mo_snapshotAt_18 : decode prog_12_method_51_code 18 = .ok (.aload_n 0, 1) := by decide +kernel
theorem d_Mo_snapshotAt_19 : decode prog_12_method_51_code 19 = .ok (.getfield 31, 3) := by decide +kernel
theorem d_Mo_snapshotAt_22 : decode prog_12_method_51_code 22 = .ok (.sipush 330, 3) := by decide +kernel
theorem d_Mo_snapshotAt_25 : decode prog_12_method_51_code 25 = .ok (.aload_n 0, 1) := by decide +kernel
theorem d_Mo_snapshotAt_26 : decode prog_12_method_51_code 26 = .ok (.getfield 75, 3) := by decide +kernel
theorem d_Mo_snapshotAt_29 : decode prog_12_method_51_code 29 = .ok (.imul, 1) := by decide +kernel
theorem d_Mo_snapshotAt_30 : decode prog_12_method_51_code 30 = .ok (.iaload, 1) := by decide +kernel
theorem d_Mo_snapshotAt_31 : decode prog_12_method_51_code 31 = .ok (.iaload, 1) := by decide +kernel
theorem d_Mo_snapshotAt_32 : decode prog_12_method_51_code 32 = .ok (.iconst 1, 1) := by decide +kernel
theorem d_Mo_snapshotAt_33 : decode prog_12_method_51_code 33 = .ok (.isub, 1) := by decide +kernel
theorem d_Mo_snapshotAt_34 : decode prog_12_method_51_code 34 = .ok (.invokestatic 125, 3) := by decide +kernel
theorem d_Mo_snapshotAt_37 : decode prog_12_method_51_code 37 = .ok (.ifCond .ne 9, 3) := by decide +kernel
theorem d_Mo_snapshotAt_40 : decode prog_12_method_51_code 40 = .ok (.aload_n 0, 1) := by decide +kernel
theorem d_Mo_snapshotAt_41 : decode prog_12_method_51_code 41 = .ok (.iconst 1, 1) := by decide +kernel
theorem d_Mo_snapshotAt_42 : decode prog_12_method_51_code 42 = .ok (.invokevirtual 129, 3) := by decide +kernel
theorem d_Mo_snapshotAt_45 : decode prog_12_method_51_code 45 = .ok (.ireturn, 1) := by decide +kernel
theorem d_Mo_snapshotAt_46 : decode prog_12_method_51_code 46 = .ok (.aload_n 0, 1) := by decide +kernel
theorem d_Mo_snapshotAt_47 : decode prog_12_method_51_code 47 = .ok (.getfield 28, 3) := by decide +kernel
theorem d_Mo_snapshotAt_50 : decode prog_12_method_51_code 50 = .ok (.aload_n 0, 1) := by decide +kernel
theorem d_Mo_snapshotAt_51 : decode prog_12_method_51_code 51 = .ok (.getfield 22, 3) := by decide +kernel
theorem d_Mo_snapshotAt_54 : decode prog_12_method_51_code 54 = .ok (.aload_n 0, 1) := by decide +kernel
theorem d_Mo_snapshotAt_55 : decode prog_12_method_51_code 55 = .ok (.getfield 31, 3) := by decide +kernel
theorem d_Mo_snapshotAt_58 : decode prog_12_method_51_code 58 = .ok (.sipush 330, 3) := by decide +kernel
theorem d_Mo_snapshotAt_61 : decode prog_12_method_51_code 61 = .ok (.aload_n 0, 1) := by decide +kernel
theorem d_Mo_snapshotAt_62 : decode prog_12_method_51_code 62 = .ok (.getfield 75, 3) := by decide +kernel
theorem d_Mo_snapshotAt_65 : decode prog_12_method_51_code 65 = .ok (.imul, 1) := by decide +kernel
theorem d_Mo_snapshotAt_66 : decode prog_12_method_51_code 66 = .ok (.iaload, 1) := by decide +kernel
theorem d_Mo_snapshotAt_67 : decode prog_12_method_51_code 67 = .ok (.iaload, 1) := by decide +kernel
theorem d_Mo_snapshotAt_68 : decode prog_12_method_51_code 68 = .ok (.iload_n 1, 1) := by decide +kernel
theorem d_Mo_snapshotAt_69 : decode prog_12_method_51_code 69 = .ok (.iadd, 1) := by decide +kernel
theorem d_Mo_snapshotAt_70 : decode prog_12_method_51_code 70 = .ok (.iaload, 1) := by decide +kernel
theorem d_Mo_snapshotAt_71 : decode prog_12_method_51_code 71 = .ok (.ireturn, 1) := by decide +kernel
theorem d_Mo_segment_0 : decode prog_12_method_52_code 0 = .ok (.aload_n 0, 1) := by decide +kernel
theorem d_Mo_segment_1 : decode prog_12_method_52_code 1 = .ok (.iconst 0, 1) := by decide +kernel
theorem d_Mo_segment_2 : decode prog_12_method_52_code 2 = .ok (.putfield 78, 3) := by decide +kernel
theorem d_Mo_segment_5 : decode prog_12_method_52_code 5 = .ok (.iload_n 1, 1) := by decide +kernel
theorem d_Mo_segment_6 : decode prog_12_method_52_code 6 = .ok (.iconst 0, 1) := by decide +kernel
theorem d_Mo_segment_7 : decode prog_12_method_52_code 7 = .ok (.aload_n 0, 1) := by decide +kernel
theorem d_Mo_segment_8 : decode prog_12_method_52_code 8 = .ok (.getfield 175, 3) := by decide +kernel
theorem d_Mo_segment_11 : decode prog_12_method_52_code 11 = .ok (.iconst 1, 1) := by decide +kernel
theorem d_Mo_segment_12 : decode prog_12_method_52_code 12 = .ok (.isub, 1) := by decide +kernel
theorem d_Mo_segment_13 : decode prog_12_method_52_code 13 = .ok (.invokestatic 125, 3) := by decide +kernel
theorem d_Mo_segment_16 : decode prog_12_method_52_code 16 = .ok (.ifCond .eq 12, 3) := by decide +kernel
theorem d_Mo_segment_19 : decode prog_12_method_52_code 19 = .ok (.iload_n 2, 1) := by decide +kernel
theorem d_Mo_segment_20 : decode prog_12_method_52_code 20 = .ok (.iconst 0, 1) := by decide +kernel
theorem d_Mo_segment_21 : decode prog_12_method_52_code 21 = .ok (.iconst 1, 1) := by decide +kernel
theorem d_Mo_segment_22 : decode prog_12_method_52_code 22 = .ok (.invokestatic 125, 3) := by decide +kernel
theorem d_Mo_segment_25 : decode prog_12_method_52_code 25 = .ok (.ifCond .ne 9, 3) := by decide +kernel
theorem d_Mo_segment_28 : decode prog_12_method_52_code 28 = .ok (.aload_n 0, 1) := by decide +kernel
theorem d_Mo_segment_29 : decode prog_12_method_52_code 29 = .ok (.iconst 1, 1) := by decide +kernel
theorem d_Mo_segment_30 : decode prog_12_method_52_code 30 = .ok (.invokevirtual 129, 3) := by decide +kernel
theorem d_Mo_segment_33 : decode prog_12_method_52_code 33 = .ok (.ireturn, 1) := by decide +kernel
theorem d_Mo_segment_34 : decode prog_12_method_52_code 34 = .ok (.iload_n 2, 1) := by decide +kernel
theorem d_Mo_segment_35 : decode prog_12_method_52_code 35 = .ok (.ifCond .ne 12, 3) := by decide +kernel
theorem d_Mo_segment_38 : decode prog_12_method_52_code 38 = .ok (.aload_n 0, 1) := by decide +kernel
theorem d_Mo_segment_39 : decode prog_12_method_52_code 39 = .ok (.getfield 57, 3) := by decide +kernel
theorem d_Mo_segment_42 : decode prog_12_method_52_code 42 = .ok (.iload_n 1, 1) := by decide +kernel
theorem d_Mo_segment_43 : decode prog_12_method_52_code 43 = .ok (.iaload, 1) := by decide +kernel
theorem d_Mo_segment_44 : decode prog_12_method_52_code 44 = .ok (.goto 13, 3) := by decide +kernel
theorem d_Mo_segment_47 : decode prog_12_method_52_code 47 = .ok (.aload_n 0, 1) := by decide +kernel
theorem d_Mo_segment_48 : decode prog_12_method_52_code 48 = .ok (.aload_n 0, 1) := by decide +kernel
theorem d_Mo_segment_49 : decode prog_12_method_52_code 49 = .ok (.getfield 57, 3) := by decide +kernel
theorem d_Mo_segment_52 : decode prog_12_method_52_code 52 = .ok (.iload_n 1, 1) := by decide +kernel
theorem d_Mo_segment_53 : decode prog_12_method_52_code 53 = .ok (.iaload, 1) := by decide +kernel
theorem d_Mo_segment_54 : decode prog_12_method_52_code 54 = .ok (.invokevirtual 187, 3) := by decide +kernel
theorem d_Mo_segment_57 : decode prog_12_method_52_code 57 = .ok (.ireturn, 1) := by decide +kernel
theorem d_Mo_file_0 : decode prog_12_method_53_code 0 = .ok (.aload_n 0, 1) := by decide +kernel
theorem d_Mo_file_1 : decode prog_12_method_53_code 1 = .ok (.iconst 0, 1) := by decide +kernel
theorem d_Mo_file_2 : decode prog_12_method_53_code 2 = .ok (.putfield 78, 3) := by decide +kernel
theorem d_Mo_file_5 : decode prog_12_method_53_code 5 = .ok (.iload_n 1, 1) := by decide +kernel
theorem d_Mo_file_6 : decode prog_12_method_53_code 6 = .ok (.iconst 0, 1) := by decide +kernel
theorem d_Mo_file_7 : decode prog_12_method_53_code 7 = .ok (.bipush 15, 2) := by decide +kernel
theorem d_Mo_file_9 : decode prog_12_method_53_code 9 = .ok (.invokestatic 125, 3) := by decide +kernel
theorem d_Mo_file_12 : decode prog_12_method_53_code 12 = .ok (.ifCond .eq 12, 3) := by decide +kernel
theorem d_Mo_file_15 : decode prog_12_method_53_code 15 = .ok (.iload_n 2, 1) := by decide +kernel
theorem d_Mo_file_16 : decode prog_12_method_53_code 16 = .ok (.iconst 0, 1) := by decide +kernel
theorem d_Mo_file_17 : decode prog_12_method_53_code 17 = .ok (.iconst 4, 1) := by decide +kernel
theorem d_Mo_file_18 : decode prog_12_method_53_code 18 = .ok (.invokestatic 125, 3) := by decide +kernel
theorem d_Mo_file_21 : decode prog_12_method_53_code 21 = .ok (.ifCond .ne 9, 3) := by decide +kernel
theorem d_Mo_file_24 : decode prog_12_method_53_code 24 = .ok (.aload_n 0, 1) := by decide +kernel
theorem d_Mo_file_25 : decode prog_12_method_53_code 25 = .ok (.iconst 1, 1) := by decide +kernel
theorem d_Mo_file_26 : decode prog_12_method_53_code 26 = .ok (.invokevirtual 129, 3) := by decide +kernel
theorem d_Mo_file_29 : decode prog_12_method_53_code 29 = .ok (.ireturn, 1) := by decide +kernel
theorem d_Mo_file_30 : decode prog_12_method_53_code 30 = .ok (.iload_n 2, 1) := by decide +kernel
theorem d_Mo_file_31 : decode prog_12_method_53_code 31 = .ok (.iconst 3, 1) := by decide +kernel
theorem d_Mo_file_32 : decode prog_12_method_53_code 32 = .ok (.if_icmp .ge 40, 3) := by decide +kernel
theorem d_Mo_file_35 : decode prog_12_method_53_code 35 = .ok (.iload_n 2, 1) := by decide +kernel
theorem d_Mo_file_36 : decode prog_12_method_53_code 36 = .ok (.ifCond .ne 12, 3) := by decide +kernel
theorem d_Mo_file_39 : decode prog_12_method_53_code 39 = .ok (.aload_n 0, 1) := by decide +kernel
theorem d_Mo_file_40 : decode prog_12_method_53_code 40 = .ok (.getfield 37, 3) := by decide +kernel
theorem d_Mo_file_43 : decode prog_12_method_53_code 43 = .ok (.iload_n 1, 1) := by decide +kernel
theorem d_Mo_file_44 : decode prog_12_method_53_code 44 = .ok (.iaload, 1) := by decide +kernel
theorem d_Mo_file_45 : decode prog_12_method_53_code 45 = .ok (.goto 26, 3) := by decide +kernel
theorem d_Mo_file_48 : decode prog_12_method_53_code 48 = .ok (.iload_n 2, 1) := by decide +kernel
theorem d_Mo_file_49 : decode prog_12_method_53_code 49 = .ok (.iconst 1, 1) := by decide +kernel
theorem d_Mo_file_50 : decode prog_12_method_53_code 50 = .ok (.if_icmp .ne 15, 3) := by decide +kernel
theorem d_Mo_file_53 : decode prog_12_method_53_code 53 = .ok (.aload_n 0, 1) := by decide +kernel
theorem d_Mo_file_54 : decode prog_12_method_53_code 54 = .ok (.getfield 37, 3) := by decide +kernel
theorem d_Mo_file_57 : decode prog_12_method_53_code 57 = .ok (.bipush 16, 2) := by decide +kernel
theorem d_Mo_file_59 : decode prog_12_method_53_code 59 = .ok (.iload_n 1, 1) := by decide +kernel
theorem d_Mo_file_60 : decode prog_12_method_53_code 60 = .ok (.iadd, 1) := by decide +kernel
theorem d_Mo_file_61 : decode prog_12_method_53_code 61 = .ok (.iaload, 1) := by decide +kernel
theorem d_Mo_file_62 : decode prog_12_method_53_code 62 = .ok (.goto 9, 3) := by decide +kernel
theorem d_Mo_file_65 : decode prog_12_method_53_code 65 = .ok (.aload_n 0, 1) := by decide +kernel
theorem d_Mo_file_66 : decode prog_12_method_53_code 66 = .ok (.getfield 44, 3) := by decide +kernel
theorem d_Mo_file_69 : decode prog_12_method_53_code 69 = .ok (.iload_n 1, 1) := by decide +kernel
theorem d_Mo_file_70 : decode prog_12_method_53_code 70 = .ok (.iaload, 1) := by decide +kernel
theorem d_Mo_file_71 : decode prog_12_method_53_code 71 = .ok (.ireturn, 1) := by decide +kernel
theorem d_Mo_file_72 : decode prog_12_method_53_code 72 = .ok (.aload_n 0, 1) := by decide +kernel
theorem d_Mo_file_73 : decode prog_12_method_53_code 73 = .ok (.getfield 40, 3) := by decide +kernel
theorem d_Mo_file_76 : decode prog_12_method_53_code 76 = .ok (.iload_n 2, 1) := by decide +kernel
theorem d_Mo_file_77 : decode prog_12_method_53_code 77 = .ok (.iconst 3, 1) := by decide +kernel
theorem d_Mo_file_78 : decode prog_12_method_53_code 78 = .ok (.if_icmp .ne 7, 3) := by decide +kernel
theorem d_Mo_file_81 : decode prog_12_method_53_code 81 = .ok (.iload_n 1, 1) := by decide +kernel
theorem d_Mo_file_82 : decode prog_12_method_53_code 82 = .ok (.goto 7, 3) := by decide +kernel
theorem d_Mo_file_85 : decode prog_12_method_53_code 85 = .ok (.bipush 16, 2) := by decide +kernel
theorem d_Mo_file_87 : decode prog_12_method_53_code 87 = .ok (.iload_n 1, 1) := by decide +kernel
theorem d_Mo_file_88 : decode prog_12_method_53_code 88 = .ok (.iadd, 1) := by decide +kernel
theorem d_Mo_file_89 : decode prog_12_method_53_code 89 = .ok (.baload, 1) := by decide +kernel
theorem d_Mo_file_90 : decode prog_12_method_53_code 90 = .ok (.ifCond .eq 7, 3) := by decide +kernel
theorem d_Mo_file_93 : decode prog_12_method_53_code 93 = .ok (.iconst 1, 1) := by decide +kernel
theorem d_Mo_file_94 : decode prog_12_method_53_code 94 = .ok (.goto 4, 3) := by decide +kernel
theorem d_Mo_file_97 : decode prog_12_method_53_code 97 = .ok (.iconst 0, 1) := by decide +kernel
theorem d_Mo_file_98 : decode prog_12_method_53_code 98 = .ok (.ireturn, 1) := by decide +kernel
theorem d_Mo_byteAt_0 : decode prog_12_method_54_code 0 = .ok (.aload_n 0, 1) := by decide +kernel
theorem d_Mo_byteAt_1 : decode prog_12_method_54_code 1 = .ok (.iconst 0, 1) := by decide +kernel
theorem d_Mo_byteAt_2 : decode prog_12_method_54_code 2 = .ok (.putfield 78, 3) := by decide +kernel
theorem d_Mo_byteAt_5 : decode prog_12_method_54_code 5 = .ok (.iload_n 1, 1) := by decide +kernel
theorem d_Mo_byteAt_6 : decode prog_12_method_54_code 6 = .ok (.iconst 0, 1) := by decide +kernel
theorem d_Mo_byteAt_7 : decode prog_12_method_54_code 7 = .ok (.bipush 15, 2) := by decide +kernel
theorem d_Mo_byteAt_9 : decode prog_12_method_54_code 9 = .ok (.invokestatic 125, 3) := by decide +kernel
theorem d_Mo_byteAt_12 : decode prog_12_method_54_code 12 = .ok (.ifCond .eq 19, 3) := by decide +kernel
theorem d_Mo_byteAt_15 : decode prog_12_method_54_code 15 = .ok (.iload_n 2, 1) := by decide +kernel
theorem d_Mo_byteAt_16 : decode prog_12_method_54_code 16 = .ok (.iconst 0, 1) := by decide +kernel
theorem d_Mo_byteAt_17 : decode prog_12_method_54_code 17 = .ok (.aload_n 0, 1) := by decide +kernel
theorem d_Mo_byteAt_18 : decode prog_12_method_54_code 18 = .ok (.getfield 37, 3) := by decide +kernel
theorem d_Mo_byteAt_21 : decode prog_12_method_54_code 21 = .ok (.iload_n 1, 1) := by decide +kernel
theorem d_Mo_byteAt_22 : decode prog_12_method_54_code 22 = .ok (.iaload, 1) := by decide +kernel
theorem d_Mo_byteAt_23 : decode prog_12_method_54_code 23 = .ok (.iconst 1, 1) := by decide +kernel
theorem d_Mo_byteAt_24 : decode prog_12_method_54_code 24 = .ok (.isub, 1) := by decide +kernel
theorem d_Mo_byteAt_25 : decode prog_12_method_54_code 25 = .ok (.invokestatic 125, 3) := by decide +kernel
theorem d_Mo_byteAt_28 : decode prog_12_method_54_code 28 = .ok (.ifCond .ne 9, 3) := by decide +kernel
theorem d_Mo_byteAt_31 : decode prog_12_method_54_code 31 = .ok (.aload_n 0, 1) := by decide +kernel
theorem d_Mo_byteAt_32 : decode prog_12_method_54_code 32 = .ok (.iconst 1, 1) := by decide +kernel
theorem d_Mo_byteAt_33 : decode prog_12_method_54_code 33 = .ok (.invokevirtual 129, 3) := by decide +kernel
theorem d_Mo_byteAt_36 : decode prog_12_method_54_code 36 = .ok (.ireturn, 1) := by decide +kernel
theorem d_Mo_byteAt_37 : decode prog_12_method_54_code 37 = .ok (.iload_n 2, 1) := by decide +kernel
theorem d_Mo_byteAt_38 : decode prog_12_method_54_code 38 = .ok (.istore_n 3, 1) := by decide +kernel
theorem d_Mo_byteAt_39 : decode prog_12_method_54_code 39 = .ok (.iconst 0, 1) := by decide +kernel
theorem d_Mo_byteAt_40 : decode prog_12_method_54_code 40 = .ok (.istore 4, 2) := by decide +kernel
theorem d_Mo_byteAt_42 : decode prog_12_method_54_code 42 = .ok (.iload_n 3, 1) := by decide +kernel
theorem d_Mo_byteAt_43 : decode prog_12_method_54_code 43 = .ok (.aload_n 0, 1) := by decide +kernel
theorem d_Mo_byteAt_44 : decode prog_12_method_54_code 44 = .ok (.aload_n 0, 1) := by decide +kernel
theorem d_Mo_byteAt_45 : decode prog_12_method_54_code 45 = .ok (.getfield 31, 3) := by decide +kernel
theorem d_Mo_byteAt_48 : decode prog_12_method_54_code 48 = .ok (.sipush 330, 3) := by decide +kernel
theorem d_Mo_byteAt_51 : decode prog_12_method_54_code 51 = .ok (.iload_n 1, 1) := by decide +kernel
theorem d_Mo_byteAt_52 : decode prog_12_method_54_code 52 = .ok (.imul, 1) := by decide +kernel
theorem d_Mo_byteAt_53 : decode prog_12_method_54_code 53 = .ok (.iload 4, 2) := by decide +kernel
theorem d_Mo_byteAt_55 : decode prog_12_method_54_code 55 = .ok (.iadd, 1) := by decide +kernel
theorem d_Mo_byteAt_56 : decode prog_12_method_54_code 56 = .ok (.iaload, 1) := by decide +kernel
theorem d_Mo_byteAt_57 : decode prog_12_method_54_code 57 = .ok (.invokevirtual 115, 3) := by decide +kernel
theorem d_Mo_byteAt_60 : decode prog_12_method_54_code 60 = .ok (.if_icmp .lt 29, 3) := by decide +kernel
theorem d_Mo_byteAt_63 : decode prog_12_method_54_code 63 = .ok (.iload_n 3, 1) := by decide +kernel
theorem d_Mo_byteAt_64 : decode prog_12_method_54_code 64 = .ok (.aload_n 0, 1) := by decide +kernel
theorem d_Mo_byteAt_65 : decode prog_12_method_54_code 65 = .ok (.aload_n 0, 1) := by decide +kernel
theorem d_Mo_byteAt_66 : decode prog_12_method_54_code 66 = .ok (.getfield 31, 3) := by decide +kernel
theorem d_Mo_byteAt_69 : decode prog_12_method_54_code 69 = .ok (.sipush 330, 3) := by decide +kernel
theorem d_Mo_byteAt_72 : decode prog_12_method_54_code 72 = .ok (.iload_n 1, 1) := by decide +kernel
theorem d_Mo_byteAt_73 : decode prog_12_method_54_code 73 = .ok (.imul, 1) := by decide +kernel
theorem d_Mo_byteAt_74 : decode prog_12_method_54_code 74 = .ok (.iload 4, 2) := by decide +kernel
theorem d_Mo_byteAt_76 : decode prog_12_method_54_code 76 = .ok (.iadd, 1) := by decide +kernel
theorem d_Mo_byteAt_77 : decode prog_12_method_54_code 77 = .ok (.iaload, 1) := by decide +kernel
theorem d_Mo_byteAt_78 : decode prog_12_method_54_code 78 = .ok (.invokevirtual 115, 3) := by decide +kernel
theorem d_Mo_byteAt_81 : decode prog_12_method_54_code 81 = .ok (.isub, 1) := by decide +kernel
theorem d_Mo_byteAt_82 : decode prog_12_method_54_code 82 = .ok (.istore_n 3, 1) := by decide +kernel
theorem d_Mo_byteAt_83 : decode prog_12_method_54_code 83 = .ok (.iinc 4 1, 3) := by decide +kernel
theorem d_Mo_byteAt_86 : decode prog_12_method_54_code 86 = .ok (.goto (-44), 3) := by decide +kernel
theorem d_Mo_byteAt_89 : decode prog_12_method_54_code 89 = .ok (.aload_n 0, 1) := by decide +kernel
theorem d_Mo_byteAt_90 : decode prog_12_method_54_code 90 = .ok (.aload_n 0, 1) := by decide +kernel
theorem d_Mo_byteAt_91 : decode prog_12_method_54_code 91 = .ok (.getfield 31, 3) := by decide +kernel
theorem d_Mo_byteAt_94 : decode prog_12_method_54_code 94 = .ok (.sipush 330, 3) := by decide +kernel
theorem d_Mo_byteAt_97 : decode prog_12_method_54_code 97 = .ok (.iload_n 1, 1) := by decide +kernel
theorem d_Mo_byteAt_98 : decode prog_12_method_54_code 98 = .ok (.imul, 1) := by decide +kernel
theorem d_Mo_byteAt_99 : decode prog_12_method_54_code 99 = .ok (.iload 4, 2) := by decide +kernel
theorem d_Mo_byteAt_101 : decode prog_12_method_54_code 101 = .ok (.iadd, 1) := by decide +kernel
theorem d_Mo_byteAt_102 : decode prog_12_method_54_code 102 = .ok (.iaload, 1) := by decide +kernel
theorem d_Mo_byteAt_103 : decode prog_12_method_54_code 103 = .ok (.iload_n 3, 1) := by decide +kernel
theorem d_Mo_byteAt_104 : decode prog_12_method_54_code 104 = .ok (.invokevirtual 246, 3) := by decide +kernel
theorem d_Mo_byteAt_107 : decode prog_12_method_54_code 107 = .ok (.ireturn, 1) := by decide +kernel
theorem d_Math_floorMod_0 : decode prog_17_method_50_code 0 = .ok (.iload_n 0, 1) := by decide +kernel
theorem d_Math_floorMod_1 : decode prog_17_method_50_code 1 = .ok (.iload_n 1, 1) := by decide +kernel
theorem d_Math_floorMod_2 : decode prog_17_method_50_code 2 = .ok (.irem, 1) := by decide +kernel
theorem d_Math_floorMod_3 : decode prog_17_method_50_code 3 = .ok (.istore_n 2, 1) := by decide +kernel
theorem d_Math_floorMod_4 : decode prog_17_method_50_code 4 = .ok (.iload_n 0, 1) := by decide +kernel
theorem d_Math_floorMod_5 : decode prog_17_method_50_code 5 = .ok (.iload_n 1, 1) := by decide +kernel
theorem d_Math_floorMod_6 : decode prog_17_method_50_code 6 = .ok (.ixor, 1) := by decide +kernel
theorem d_Math_floorMod_7 : decode prog_17_method_50_code 7 = .ok (.ifCond .ge 11, 3) := by decide +kernel
theorem d_Math_floorMod_10 : decode prog_17_method_50_code 10 = .ok (.iload_n 2, 1) := by decide +kernel
theorem d_Math_floorMod_11 : decode prog_17_method_50_code 11 = .ok (.ifCond .eq 7, 3) := by decide +kernel
theorem d_Math_floorMod_14 : decode prog_17_method_50_code 14 = .ok (.iload_n 2, 1) := by decide +kernel
theorem d_Math_floorMod_15 : decode prog_17_method_50_code 15 = .ok (.iload_n 1, 1) := by decide +kernel
theorem d_Math_floorMod_16 : decode prog_17_method_50_code 16 = .ok (.iadd, 1) := by decide +kernel
theorem d_Math_floorMod_17 : decode prog_17_method_50_code 17 = .ok (.ireturn, 1) := by decide +kernel
theorem d_Math_floorMod_18 : decode prog_17_method_50_code 18 = .ok (.iload_n 2, 1) := by decide +kernel
theorem d_Math_floorMod_19 : decode prog_17_method_50_code 19 = .ok (.ireturn, 1) := by decide +kernel
