theorem d_LogDisk_termAt_15 : decode prog_1_method_20_code 15 = .ok (.aload_n 0, 1) := by decide +kernel
theorem d_LogDisk_termAt_16 : decode prog_1_method_20_code 16 = .ok (.getfield 57, 3) := by decide +kernel
theorem d_LogDisk_termAt_19 : decode prog_1_method_20_code 19 = .ok (.iload_n 1, 1) := by decide +kernel
theorem d_LogDisk_termAt_20 : decode prog_1_method_20_code 20 = .ok (.invokevirtual 206, 3) := by decide +kernel
theorem d_LogDisk_termAt_23 : decode prog_1_method_20_code 23 = .ok (.iaload, 1) := by decide +kernel
theorem d_LogDisk_termAt_24 : decode prog_1_method_20_code 24 = .ok (.goto 10, 3) := by decide +kernel
theorem d_LogDisk_termAt_27 : decode prog_1_method_20_code 27 = .ok (.aload_n 0, 1) := by decide +kernel
theorem d_LogDisk_termAt_28 : decode prog_1_method_20_code 28 = .ok (.getfield 43, 3) := by decide +kernel
theorem d_LogDisk_termAt_31 : decode prog_1_method_20_code 31 = .ok (.getfield 250, 3) := by decide +kernel
theorem d_LogDisk_termAt_34 : decode prog_1_method_20_code 34 = .ok (.ireturn, 1) := by decide +kernel
theorem d_LogDisk_snapshotBytes_0 : decode prog_1_method_21_code 0 = .ok (.aload_n 0, 1) := by decide +kernel
theorem d_LogDisk_snapshotBytes_1 : decode prog_1_method_21_code 1 = .ok (.getfield 43, 3) := by decide +kernel
theorem d_LogDisk_snapshotBytes_4 : decode prog_1_method_21_code 4 = .ok (.getfield 278, 3) := by decide +kernel
theorem d_LogDisk_snapshotBytes_7 : decode prog_1_method_21_code 7 = .ok (.iconst (-1), 1) := by decide +kernel
theorem d_LogDisk_snapshotBytes_8 : decode prog_1_method_21_code 8 = .ok (.if_icmp .ne 7, 3) := by decide +kernel
theorem d_LogDisk_snapshotBytes_11 : decode prog_1_method_21_code 11 = .ok (.iconst 0, 1) := by decide +kernel
theorem d_LogDisk_snapshotBytes_12 : decode prog_1_method_21_code 12 = .ok (.goto 24, 3) := by decide +kernel
theorem d_LogDisk_snapshotBytes_15 : decode prog_1_method_21_code 15 = .ok (.aload_n 0, 1) := by decide +kernel
theorem d_LogDisk_snapshotBytes_16 : decode prog_1_method_21_code 16 = .ok (.getfield 11, 3) := by decide +kernel
theorem d_LogDisk_snapshotBytes_19 : decode prog_1_method_21_code 19 = .ok (.aload_n 0, 1) := by decide +kernel
theorem d_LogDisk_snapshotBytes_20 : decode prog_1_method_21_code 20 = .ok (.getfield 43, 3) := by decide +kernel
theorem d_LogDisk_snapshotBytes_23 : decode prog_1_method_21_code 23 = .ok (.getfield 278, 3) := by decide +kernel
theorem d_LogDisk_snapshotBytes_26 : decode prog_1_method_21_code 26 = .ok (.aaload, 1) := by decide +kernel
theorem d_LogDisk_snapshotBytes_27 : decode prog_1_method_21_code 27 = .ok (.getfield 282, 3) := by decide +kernel
theorem d_LogDisk_snapshotBytes_30 : decode prog_1_method_21_code 30 = .ok (.getfield 286, 3) := by decide +kernel
theorem d_LogDisk_snapshotBytes_33 : decode prog_1_method_21_code 33 = .ok (.bipush 20, 2) := by decide +kernel
theorem d_LogDisk_snapshotBytes_35 : decode prog_1_method_21_code 35 = .ok (.isub, 1) := by decide +kernel
theorem d_LogDisk_snapshotBytes_36 : decode prog_1_method_21_code 36 = .ok (.ireturn, 1) := by decide +kernel
theorem d_LogDisk_needsNewSegment_0 : decode prog_1_method_22_code 0 = .ok (.aload_n 0, 1) := by decide +kernel
theorem d_LogDisk_needsNewSegment_1 : decode prog_1_method_22_code 1 = .ok (.getfield 50, 3) := by decide +kernel
theorem d_LogDisk_needsNewSegment_4 : decode prog_1_method_22_code 4 = .ok (.getfield 194, 3) := by decide +kernel
theorem d_LogDisk_needsNewSegment_7 : decode prog_1_method_22_code 7 = .ok (.ifCond .eq 27, 3) := by decide +kernel
theorem d_LogDisk_needsNewSegment_10 : decode prog_1_method_22_code 10 = .ok (.aload_n 0, 1) := by decide +kernel
theorem d_LogDisk_needsNewSegment_11 : decode prog_1_method_22_code 11 = .ok (.getfield 11, 3) := by decide +kernel
theorem d_LogDisk_needsNewSegment_14 : decode prog_1_method_22_code 14 = .ok (.aload_n 0, 1) := by decide +kernel
theorem d_LogDisk_needsNewSegment_15 : decode prog_1_method_22_code 15 = .ok (.getfield 50, 3) := by decide +kernel
theorem d_LogDisk_needsNewSegment_18 : decode prog_1_method_22_code 18 = .ok (.invokevirtual 173, 3) := by decide +kernel
theorem d_LogDisk_needsNewSegment_21 : decode prog_1_method_22_code 21 = .ok (.aaload, 1) := by decide +kernel
theorem d_LogDisk_needsNewSegment_22 : decode prog_1_method_22_code 22 = .ok (.getfield 282, 3) := by decide +kernel
theorem d_LogDisk_needsNewSegment_25 : decode prog_1_method_22_code 25 = .ok (.getfield 286, 3) := by decide +kernel
theorem d_LogDisk_needsNewSegment_28 : decode prog_1_method_22_code 28 = .ok (.sipush 8000, 3) := by decide +kernel
theorem d_LogDisk_needsNewSegment_31 : decode prog_1_method_22_code 31 = .ok (.if_icmp .le 7, 3) := by decide +kernel
theorem d_LogDisk_needsNewSegment_34 : decode prog_1_method_22_code 34 = .ok (.iconst 1, 1) := by decide +kernel
theorem d_LogDisk_needsNewSegment_35 : decode prog_1_method_22_code 35 = .ok (.goto 4, 3) := by decide +kernel
theorem d_LogDisk_needsNewSegment_38 : decode prog_1_method_22_code 38 = .ok (.iconst 0, 1) := by decide +kernel
theorem d_LogDisk_needsNewSegment_39 : decode prog_1_method_22_code 39 = .ok (.ireturn, 1) := by decide +kernel
theorem d_LogDisk_lowestFreeFile_0 : decode prog_1_method_23_code 0 = .ok (.iconst 4, 1) := by decide +kernel
theorem d_LogDisk_lowestFreeFile_1 : decode prog_1_method_23_code 1 = .ok (.istore_n 1, 1) := by decide +kernel
theorem d_LogDisk_lowestFreeFile_2 : decode prog_1_method_23_code 2 = .ok (.iload_n 1, 1) := by decide +kernel
theorem d_LogDisk_lowestFreeFile_3 : decode prog_1_method_23_code 3 = .ok (.bipush 16, 2) := by decide +kernel
theorem d_LogDisk_lowestFreeFile_5 : decode prog_1_method_23_code 5 = .ok (.if_icmp .ge 26, 3) := by decide +kernel
theorem d_LogDisk_lowestFreeFile_8 : decode prog_1_method_23_code 8 = .ok (.aload_n 0, 1) := by decide +kernel
theorem d_LogDisk_lowestFreeFile_9 : decode prog_1_method_23_code 9 = .ok (.getfield 11, 3) := by decide +kernel
theorem d_LogDisk_lowestFreeFile_12 : decode prog_1_method_23_code 12 = .ok (.iload_n 1, 1) := by decide +kernel
theorem d_LogDisk_lowestFreeFile_13 : decode prog_1_method_23_code 13 = .ok (.aaload, 1) := by decide +kernel
theorem d_LogDisk_lowestFreeFile_14 : decode prog_1_method_23_code 14 = .ok (.getfield 282, 3) := by decide +kernel
theorem d_LogDisk_lowestFreeFile_17 : decode prog_1_method_23_code 17 = .ok (.getfield 295, 3) := by decide +kernel
theorem d_LogDisk_lowestFreeFile_20 : decode prog_1_method_23_code 20 = .ok (.ifCond .ne 5, 3) := by decide +kernel
theorem d_LogDisk_lowestFreeFile_23 : decode prog_1_method_23_code 23 = .ok (.iload_n 1, 1) := by decide +kernel
theorem d_LogDisk_lowestFreeFile_24 : decode prog_1_method_23_code 24 = .ok (.ireturn, 1) := by decide +kernel
theorem d_LogDisk_lowestFreeFile_25 : decode prog_1_method_23_code 25 = .ok (.iinc 1 1, 3) := by decide +kernel
theorem d_LogDisk_lowestFreeFile_28 : decode prog_1_method_23_code 28 = .ok (.goto (-26), 3) := by decide +kernel
theorem d_LogDisk_lowestFreeFile_31 : decode prog_1_method_23_code 31 = .ok (.iconst (-1), 1) := by decide +kernel
theorem d_LogDisk_lowestFreeFile_32 : decode prog_1_method_23_code 32 = .ok (.ireturn, 1) := by decide +kernel
theorem d_LogDisk_writeVote_0 : decode prog_1_method_24_code 0 = .ok (.aload_n 0, 1) := by decide +kernel
theorem d_LogDisk_writeVote_1 : decode prog_1_method_24_code 1 = .ok (.getfield 29, 3) := by decide +kernel
theorem d_LogDisk_writeVote_4 : decode prog_1_method_24_code 4 = .ok (.invokevirtual 298, 3) := by decide +kernel
theorem d_LogDisk_writeVote_7 : decode prog_1_method_24_code 7 = .ok (.aload_n 0, 1) := by decide +kernel
theorem d_LogDisk_writeVote_8 : decode prog_1_method_24_code 8 = .ok (.getfield 29, 3) := by decide +kernel
theorem d_LogDisk_writeVote_11 : decode prog_1_method_24_code 11 = .ok (.aload_n 0, 1) := by decide +kernel
theorem d_LogDisk_writeVote_12 : decode prog_1_method_24_code 12 = .ok (.getfield 36, 3) := by decide +kernel
theorem d_LogDisk_writeVote_15 : decode prog_1_method_24_code 15 = .ok (.getfield 129, 3) := by decide +kernel
theorem d_LogDisk_writeVote_18 : decode prog_1_method_24_code 18 = .ok (.bipush 8, 2) := by decide +kernel
theorem d_LogDisk_writeVote_20 : decode prog_1_method_24_code 20 = .ok (.invokevirtual 301, 3) := by decide +kernel
theorem d_LogDisk_writeVote_23 : decode prog_1_method_24_code 23 = .ok (.aload_n 0, 1) := by decide +kernel
theorem d_LogDisk_writeVote_24 : decode prog_1_method_24_code 24 = .ok (.getfield 29, 3) := by decide +kernel
theorem d_LogDisk_writeVote_27 : decode prog_1_method_24_code 27 = .ok (.aload_n 0, 1) := by decide +kernel
theorem d_LogDisk_writeVote_28 : decode prog_1_method_24_code 28 = .ok (.getfield 36, 3) := by decide +kernel
theorem d_LogDisk_writeVote_31 : decode prog_1_method_24_code 31 = .ok (.getfield 108, 3) := by decide +kernel
theorem d_LogDisk_writeVote_34 : decode prog_1_method_24_code 34 = .ok (.i2l, 1) := by decide +kernel
theorem d_LogDisk_writeVote_35 : decode prog_1_method_24_code 35 = .ok (.bipush 8, 2) := by decide +kernel
theorem d_LogDisk_writeVote_37 : decode prog_1_method_24_code 37 = .ok (.invokevirtual 301, 3) := by decide +kernel
theorem d_LogDisk_writeVote_40 : decode prog_1_method_24_code 40 = .ok (.aload_n 0, 1) := by decide +kernel
theorem d_LogDisk_writeVote_41 : decode prog_1_method_24_code 41 = .ok (.getfield 29, 3) := by decide +kernel
theorem d_LogDisk_writeVote_44 : decode prog_1_method_24_code 44 = .ok (.aload_n 0, 1) := by decide +kernel
theorem d_LogDisk_writeVote_45 : decode prog_1_method_24_code 45 = .ok (.getfield 36, 3) := by decide +kernel
theorem d_LogDisk_writeVote_48 : decode prog_1_method_24_code 48 = .ok (.getfield 247, 3) := by decide +kernel
theorem d_LogDisk_writeVote_51 : decode prog_1_method_24_code 51 = .ok (.i2l, 1) := by decide +kernel
theorem d_LogDisk_writeVote_52 : decode prog_1_method_24_code 52 = .ok (.bipush 8, 2) := by decide +kernel
theorem d_LogDisk_writeVote_54 : decode prog_1_method_24_code 54 = .ok (.invokevirtual 301, 3) := by decide +kernel
theorem d_LogDisk_writeVote_57 : decode prog_1_method_24_code 57 = .ok (.aload_n 0, 1) := by decide +kernel
theorem d_LogDisk_writeVote_58 : decode prog_1_method_24_code 58 = .ok (.getfield 29, 3) := by decide +kernel
theorem d_LogDisk_writeVote_61 : decode prog_1_method_24_code 61 = .ok (.invokevirtual 305, 3) := by decide +kernel
theorem d_LogDisk_writeVote_64 : decode prog_1_method_24_code 64 = .ok (.aload_n 0, 1) := by decide +kernel
theorem d_LogDisk_writeVote_65 : decode prog_1_method_24_code 65 = .ok (.getfield 11, 3) := by decide +kernel
theorem d_LogDisk_writeVote_68 : decode prog_1_method_24_code 68 = .ok (.aload_n 0, 1) := by decide +kernel
theorem d_LogDisk_writeVote_69 : decode prog_1_method_24_code 69 = .ok (.getfield 36, 3) := by decide +kernel
theorem d_LogDisk_writeVote_72 : decode prog_1_method_24_code 72 = .ok (.getfield 308, 3) := by decide +kernel
theorem d_LogDisk_writeVote_75 : decode prog_1_method_24_code 75 = .ok (.aaload, 1) := by decide +kernel
theorem d_LogDisk_writeVote_76 : decode prog_1_method_24_code 76 = .ok (.iconst 0, 1) := by decide +kernel
theorem d_LogDisk_writeVote_77 : decode prog_1_method_24_code 77 = .ok (.invokevirtual 213, 3) := by decide +kernel
theorem d_LogDisk_writeVote_80 : decode prog_1_method_24_code 80 = .ok (.aload_n 0, 1) := by decide +kernel
theorem d_LogDisk_writeVote_81 : decode prog_1_method_24_code 81 = .ok (.getfield 11, 3) := by decide +kernel
theorem d_LogDisk_writeVote_84 : decode prog_1_method_24_code 84 = .ok (.aload_n 0, 1) := by decide +kernel
theorem d_LogDisk_writeVote_85 : decode prog_1_method_24_code 85 = .ok (.getfield 36, 3) := by decide +kernel
theorem d_LogDisk_writeVote_88 : decode prog_1_method_24_code 88 = .ok (.getfield 308, 3) := by decide +kernel
theorem d_LogDisk_writeVote_91 : decode prog_1_method_24_code 91 = .ok (.aaload, 1) := by decide +kernel
theorem d_LogDisk_writeVote_92 : decode prog_1_method_24_code 92 = .ok (.aload_n 0, 1) := by decide +kernel
theorem d_LogDisk_writeVote_93 : decode prog_1_method_24_code 93 = .ok (.getfield 29, 3) := by decide +kernel
theorem d_LogDisk_writeVote_96 : decode prog_1_method_24_code 96 = .ok (.getfield 309, 3) := by decide +kernel
theorem d_LogDisk_writeVote_99 : decode prog_1_method_24_code 99 = .ok (.aload_n 0, 1) := by decide +kernel
theorem d_LogDisk_writeVote_100 : decode prog_1_method_24_code 100 = .ok (.getfield 29, 3) := by decide +kernel
theorem d_LogDisk_writeVote_103 : decode prog_1_method_24_code 103 = .ok (.getfield 310, 3) := by decide +kernel
theorem d_LogDisk_writeVote_106 : decode prog_1_method_24_code 106 = .ok (.invokevirtual 311, 3) := by decide +kernel
theorem d_LogDisk_writeVote_109 : decode prog_1_method_24_code 109 = .ok (.return_, 1) := by decide +kernel
theorem d_LogDisk_openSegment_0 : decode prog_1_method_25_code 0 = .ok (.aload_n 0, 1) := by decide +kernel
theorem d_LogDisk_openSegment_1 : decode prog_1_method_25_code 1 = .ok (.getfield 29, 3) := by decide +kernel
theorem d_LogDisk_openSegment_4 : decode prog_1_method_25_code 4 = .ok (.invokevirtual 298, 3) := by decide +kernel
theorem d_LogDisk_openSegment_7 : decode prog_1_method_25_code 7 = .ok (.aload_n 0, 1) := by decide +kernel
theorem d_LogDisk_openSegment_8 : decode prog_1_method_25_code 8 = .ok (.getfield 29, 3) := by decide +kernel
theorem d_LogDisk_openSegment_11 : decode prog_1_method_25_code 11 = .ok (.aload_n 0, 1) := by decide +kernel
theorem d_LogDisk_openSegment_12 : decode prog_1_method_25_code 12 = .ok (.getfield 150, 3) := by decide +kernel
theorem d_LogDisk_openSegment_15 : decode prog_1_method_25_code 15 = .ok (.iconst 1, 1) := by decide +kernel
theorem d_LogDisk_openSegment_16 : decode prog_1_method_25_code 16 = .ok (.iadd, 1) := by decide +kernel
theorem d_LogDisk_openSegment_17 : decode prog_1_method_25_code 17 = .ok (.i2l, 1) := by decide +kernel
theorem d_LogDisk_openSegment_18 : decode prog_1_method_25_code 18 = .ok (.bipush 8, 2) := by decide +kernel
theorem d_LogDisk_openSegment_20 : decode prog_1_method_25_code 20 = .ok (.invokevirtual 301, 3) := by decide +kernel
theorem d_LogDisk_openSegment_23 : decode prog_1_method_25_code 23 = .ok (.aload_n 0, 1) := by decide +kernel
theorem d_LogDisk_openSegment_24 : decode prog_1_method_25_code 24 = .ok (.getfield 29, 3) := by decide +kernel
theorem d_LogDisk_openSegment_27 : decode prog_1_method_25_code 27 = .ok (.aload_n 0, 1) := by decide +kernel
theorem d_LogDisk_openSegment_28 : decode prog_1_method_25_code 28 = .ok (.aload_n 0, 1) := by decide +kernel
theorem d_LogDisk_openSegment_29 : decode prog_1_method_25_code 29 = .ok (.getfield 150, 3) := by decide +kernel
theorem d_LogDisk_openSegment_32 : decode prog_1_method_25_code 32 = .ok (.invokevirtual 153, 3) := by decide +kernel
theorem d_LogDisk_openSegment_35 : decode prog_1_method_25_code 35 = .ok (.i2l, 1) := by decide +kernel
theorem d_LogDisk_openSegment_36 : decode prog_1_method_25_code 36 = .ok (.bipush 8, 2) := by decide +kernel
theorem d_LogDisk_openSegment_38 : decode prog_1_method_25_code 38 = .ok (.invokevirtual 301, 3) := by decide +kernel
theorem d_LogDisk_openSegment_41 : decode prog_1_method_25_code 41 = .ok (.aload_n 0, 1) := by decide +kernel
theorem d_LogDisk_openSegment_42 : decode prog_1_method_25_code 42 = .ok (.getfield 29, 3) := by decide +kernel
theorem d_LogDisk_openSegment_45 : decode prog_1_method_25_code 45 = .ok (.invokevirtual 305, 3) := by decide +kernel
theorem d_LogDisk_openSegment_48 : decode prog_1_method_25_code 48 = .ok (.aload_n 0, 1) := by decide +kernel
theorem d_LogDisk_openSegment_49 : decode prog_1_method_25_code 49 = .ok (.getfield 11, 3) := by decide +kernel
theorem d_LogDisk_openSegment_52 : decode prog_1_method_25_code 52 = .ok (.iload_n 1, 1) := by decide +kernel
theorem d_LogDisk_openSegment_53 : decode prog_1_method_25_code 53 = .ok (.aaload, 1) := by decide +kernel
theorem d_LogDisk_openSegment_54 : decode prog_1_method_25_code 54 = .ok (.aload_n 0, 1) := by decide +kernel
theorem d_LogDisk_openSegment_55 : decode prog_1_method_25_code 55 = .ok (.getfield 29, 3) := by decide +kernel
theorem d_LogDisk_openSegment_58 : decode prog_1_method_25_code 58 = .ok (.getfield 309, 3) := by decide +kernel
theorem d_LogDisk_openSegment_61 : decode prog_1_method_25_code 61 = .ok (.aload_n 0, 1) := by decide +kernel
theorem d_LogDisk_openSegment_62 : decode prog_1_method_25_code 62 = .ok (.getfield 29, 3) := by decide +kernel
theorem d_LogDisk_openSegment_65 : decode prog_1_method_25_code 65 = .ok (.getfield 310, 3) := by decide +kernel
theorem d_LogDisk_openSegment_68 : decode prog_1_method_25_code 68 = .ok (.invokevirtual 311, 3) := by decide +kernel
theorem d_LogDisk_openSegment_71 : decode prog_1_method_25_code 71 = .ok (.aload_n 0, 1) := by decide +kernel
theorem d_LogDisk_openSegment_72 : decode prog_1_method_25_code 72 = .ok (.getfield 50, 3) := by decide +kernel
theorem d_LogDisk_openSegment_75 : decode prog_1_method_25_code 75 = .ok (.iload_n 1, 1) := by decide +kernel
theorem d_LogDisk_openSegment_76 : decode prog_1_method_25_code 76 = .ok (.aload_n 0, 1) := by decide +kernel
theorem d_LogDisk_openSegment_77 : decode prog_1_method_25_code 77 = .ok (.getfield 150, 3) := by decide +kernel
theorem d_LogDisk_openSegment_80 : decode prog_1_method_25_code 80 = .ok (.iconst 1, 1) := by decide +kernel
theorem d_LogDisk_openSegment_81 : decode prog_1_method_25_code 81 = .ok (.iadd, 1) := by decide +kernel
theorem d_LogDisk_openSegment_82 : decode prog_1_method_25_code 82 = .ok (.invokevirtual 315, 3) := by decide +kernel
theorem d_LogDisk_openSegment_85 : decode prog_1_method_25_code 85 = .ok (.return_, 1) := by decide +kernel
theorem d_LogDisk_writeEntry_0 : decode prog_1_method_26_code 0 = .ok (.aload_n 0, 1) := by decide +kernel
theorem d_LogDisk_writeEntry_1 : decode prog_1_method_26_code 1 = .ok (.dup, 1) := by decide +kernel
theorem d_LogDisk_writeEntry_2 : decode prog_1_method_26_code 2 = .ok (.getfield 150, 3) := by decide +kernel
theorem d_LogDisk_writeEntry_5 : decode prog_1_method_26_code 5 = .ok (.iconst 1, 1) := by decide +kernel
theorem d_LogDisk_writeEntry_6 : decode prog_1_method_26_code 6 = .ok (.iadd, 1) := by decide +kernel
theorem d_LogDisk_writeEntry_7 : decode prog_1_method_26_code 7 = .ok (.putfield 150, 3) := by decide +kernel
theorem d_LogDisk_writeEntry_10 : decode prog_1_method_26_code 10 = .ok (.aload_n 0, 1) := by decide +kernel
theorem d_LogDisk_writeEntry_11 : decode prog_1_method_26_code 11 = .ok (.getfield 57, 3) := by decide +kernel
theorem d_LogDisk_writeEntry_14 : decode prog_1_method_26_code 14 = .ok (.aload_n 0, 1) := by decide +kernel
theorem d_LogDisk_writeEntry_15 : decode prog_1_method_26_code 15 = .ok (.getfield 150, 3) := by decide +kernel
theorem d_LogDisk_writeEntry_18 : decode prog_1_method_26_code 18 = .ok (.iload_n 1, 1) := by decide +kernel
theorem d_LogDisk_writeEntry_19 : decode prog_1_method_26_code 19 = .ok (.aload_n 0, 1) := by decide +kernel
theorem d_LogDisk_writeEntry_20 : decode prog_1_method_26_code 20 = .ok (.getfield 11, 3) := by decide +kernel
theorem d_LogDisk_writeEntry_23 : decode prog_1_method_26_code 23 = .ok (.iload_n 1, 1) := by decide +kernel
theorem d_LogDisk_writeEntry_24 : decode prog_1_method_26_code 24 = .ok (.aaload, 1) := by decide +kernel
theorem d_LogDisk_writeEntry_25 : decode prog_1_method_26_code 25 = .ok (.getfield 282, 3) := by decide +kernel
theorem d_LogDisk_writeEntry_28 : decode prog_1_method_26_code 28 = .ok (.getfield 286, 3) := by decide +kernel
theorem d_LogDisk_writeEntry_31 : decode prog_1_method_26_code 31 = .ok (.iload_n 2, 1) := by decide +kernel
theorem d_LogDisk_writeEntry_32 : decode prog_1_method_26_code 32 = .ok (.iload_n 3, 1) := by decide +kernel
theorem d_LogDisk_writeEntry_33 : decode prog_1_method_26_code 33 = .ok (.iload 4, 2) := by decide +kernel
theorem d_LogDisk_writeEntry_35 : decode prog_1_method_26_code 35 = .ok (.invokevirtual 318, 3) := by decide +kernel
theorem d_LogDisk_writeEntry_38 : decode prog_1_method_26_code 38 = .ok (.aload_n 0, 1) := by decide +kernel
theorem d_LogDisk_writeEntry_39 : decode prog_1_method_26_code 39 = .ok (.getfield 29, 3) := by decide +kernel
theorem d_LogDisk_writeEntry_42 : decode prog_1_method_26_code 42 = .ok (.invokevirtual 298, 3) := by decide +kernel
theorem d_LogDisk_writeEntry_45 : decode prog_1_method_26_code 45 = .ok (.aload_n 0, 1) := by decide +kernel
theorem d_LogDisk_writeEntry_46 : decode prog_1_method_26_code 46 = .ok (.getfield 29, 3) := by decide +kernel
theorem d_LogDisk_writeEntry_49 : decode prog_1_method_26_code 49 = .ok (.aload_n 0, 1) := by decide +kernel
theorem d_LogDisk_writeEntry_50 : decode prog_1_method_26_code 50 = .ok (.getfield 150, 3) := by decide +kernel
theorem d_LogDisk_writeEntry_53 : decode prog_1_method_26_code 53 = .ok (.i2l, 1) := by decide +kernel
theorem d_LogDisk_writeEntry_54 : decode prog_1_method_26_code 54 = .ok (.bipush 8, 2) := by decide +kernel
theorem d_LogDisk_writeEntry_56 : decode prog_1_method_26_code 56 = .ok (.invokevirtual 301, 3) := by decide +kernel
theorem d_LogDisk_writeEntry_59 : decode prog_1_method_26_code 59 = .ok (.aload_n 0, 1) := by decide +kernel
theorem d_LogDisk_writeEntry_60 : decode prog_1_method_26_code 60 = .ok (.getfield 29, 3) := by decide +kernel
theorem d_LogDisk_writeEntry_63 : decode prog_1_method_26_code 63 = .ok (.iload_n 2, 1) := by decide +kernel
theorem d_LogDisk_writeEntry_64 : decode prog_1_method_26_code 64 = .ok (.i2l, 1) := by decide +kernel
theorem d_LogDisk_writeEntry_65 : decode prog_1_method_26_code 65 = .ok (.bipush 8, 2) := by decide +kernel
theorem d_LogDisk_writeEntry_67 : decode prog_1_method_26_code 67 = .ok (.invokevirtual 301, 3) := by decide +kernel
theorem d_LogDisk_writeEntry_70 : decode prog_1_method_26_code 70 = .ok (.aload_n 0, 1) := by decide +kernel
theorem d_LogDisk_writeEntry_71 : decode prog_1_method_26_code 71 = .ok (.getfield 29, 3) := by decide +kernel
theorem d_LogDisk_writeEntry_74 : decode prog_1_method_26_code 74 = .ok (.iload_n 3, 1) := by decide +kernel
theorem d_LogDisk_writeEntry_75 : decode prog_1_method_26_code 75 = .ok (.i2l, 1) := by decide +kernel
theorem d_LogDisk_writeEntry_76 : decode prog_1_method_26_code 76 = .ok (.iconst 1, 1) := by decide +kernel
theorem d_LogDisk_writeEntry_77 : decode prog_1_method_26_code 77 = .ok (.invokevirtual 301, 3) := by decide +kernel
theorem d_LogDisk_writeEntry_80 : decode prog_1_method_26_code 80 = .ok (.aload_n 0, 1) := by decide +kernel
theorem d_LogDisk_writeEntry_81 : decode prog_1_method_26_code 81 = .ok (.getfield 29, 3) := by decide +kernel
theorem d_LogDisk_writeEntry_84 : decode prog_1_method_26_code 84 = .ok (.aload_n 0, 1) := by decide +kernel
theorem d_LogDisk_writeEntry_85 : decode prog_1_method_26_code 85 = .ok (.getfield 22, 3) := by decide +kernel
theorem d_LogDisk_writeEntry_88 : decode prog_1_method_26_code 88 = .ok (.getfield 104, 3) := by decide +kernel
theorem d_LogDisk_writeEntry_91 : decode prog_1_method_26_code 91 = .ok (.iload 4, 2) := by decide +kernel
theorem d_LogDisk_writeEntry_93 : decode prog_1_method_26_code 93 = .ok (.invokevirtual 321, 3) := by decide +kernel
theorem d_LogDisk_writeEntry_96 : decode prog_1_method_26_code 96 = .ok (.aload_n 0, 1) := by decide +kernel
theorem d_LogDisk_writeEntry_97 : decode prog_1_method_26_code 97 = .ok (.getfield 29, 3) := by decide +kernel
theorem d_LogDisk_writeEntry_100 : decode prog_1_method_26_code 100 = .ok (.invokevirtual 305, 3) := by decide +kernel
theorem d_LogDisk_writeEntry_103 : decode prog_1_method_26_code 103 = .ok (.aload_n 0, 1) := by decide +kernel
theorem d_LogDisk_writeEntry_104 : decode prog_1_method_26_code 104 = .ok (.getfield 11, 3) := by decide +kernel
theorem d_LogDisk_writeEntry_107 : decode prog_1_method_26_code 107 = .ok (.iload_n 1, 1) := by decide +kernel
theorem d_LogDisk_writeEntry_108 : decode prog_1_method_26_code 108 = .ok (.aaload, 1) := by decide +kernel
theorem d_LogDisk_writeEntry_109 : decode prog_1_method_26_code 109 = .ok (.aload_n 0, 1) := by decide +kernel
theorem d_LogDisk_writeEntry_110 : decode prog_1_method_26_code 110 = .ok (.getfield 29, 3) := by decide +kernel
theorem d_LogDisk_writeEntry_113 : decode prog_1_method_26_code 113 = .ok (.getfield 309, 3) := by decide +kernel
theorem d_LogDisk_writeEntry_116 : decode prog_1_method_26_code 116 = .ok (.aload_n 0, 1) := by decide +kernel
theorem d_LogDisk_writeEntry_117 : decode prog_1_method_26_code 117 = .ok (.getfield 29, 3) := by decide +kernel
theorem d_LogDisk_writeEntry_120 : decode prog_1_method_26_code 120 = .ok (.getfield 310, 3) := by decide +kernel
theorem d_LogDisk_writeEntry_123 : decode prog_1_method_26_code 123 = .ok (.invokevirtual 311, 3) := by decide +kernel
theorem d_LogDisk_writeEntry_126 : decode prog_1_method_26_code 126 = .ok (.return_, 1) := by decide +kernel
theorem d_LogDisk_moveBase_0 : decode prog_1_method_27_code 0 = .ok (.aload_n 0, 1) := by decide +kernel
theorem d_LogDisk_moveBase_1 : decode prog_1_method_27_code 1 = .ok (.getfield 43, 3) := by decide +kernel
theorem d_LogDisk_moveBase_4 : decode prog_1_method_27_code 4 = .ok (.aload_n 0, 1) := by decide +kernel
theorem d_LogDisk_moveBase_5 : decode prog_1_method_27_code 5 = .ok (.getfield 43, 3) := by decide +kernel
theorem d_LogDisk_moveBase_8 : decode prog_1_method_27_code 8 = .ok (.invokevirtual 216, 3) := by decide +kernel
theorem d_LogDisk_moveBase_11 : decode prog_1_method_27_code 11 = .ok (.iload_n 1, 1) := by decide +kernel
theorem d_LogDisk_moveBase_12 : decode prog_1_method_27_code 12 = .ok (.iload_n 2, 1) := by decide +kernel
theorem d_LogDisk_moveBase_13 : decode prog_1_method_27_code 13 = .ok (.iload_n 3, 1) := by decide +kernel
theorem d_LogDisk_moveBase_14 : decode prog_1_method_27_code 14 = .ok (.invokevirtual 324, 3) := by decide +kernel
theorem d_LogDisk_moveBase_17 : decode prog_1_method_27_code 17 = .ok (.aload_n 0, 1) := by decide +kernel
theorem d_LogDisk_moveBase_18 : decode prog_1_method_27_code 18 = .ok (.getfield 29, 3) := by decide +kernel
theorem d_LogDisk_moveBase_21 : decode prog_1_method_27_code 21 = .ok (.invokevirtual 298, 3) := by decide +kernel
theorem d_LogDisk_moveBase_24 : decode prog_1_method_27_code 24 = .ok (.aload_n 0, 1) := by decide +kernel
theorem d_LogDisk_moveBase_25 : decode prog_1_method_27_code 25 = .ok (.getfield 29, 3) := by decide +kernel
theorem d_LogDisk_moveBase_28 : decode prog_1_method_27_code 28 = .ok (.iload_n 1, 1) := by decide +kernel
theorem d_LogDisk_moveBase_29 : decode prog_1_method_27_code 29 = .ok (.i2l, 1) := by decide +kernel
theorem d_LogDisk_moveBase_30 : decode prog_1_method_27_code 30 = .ok (.iconst 4, 1) := by decide +kernel
theorem d_LogDisk_moveBase_31 : decode prog_1_method_27_code 31 = .ok (.invokevirtual 301, 3) := by decide +kernel
theorem d_LogDisk_moveBase_34 : decode prog_1_method_27_code 34 = .ok (.aload_n 0, 1) := by decide +kernel
theorem d_LogDisk_moveBase_35 : decode prog_1_method_27_code 35 = .ok (.getfield 29, 3) := by decide +kernel
theorem d_LogDisk_moveBase_38 : decode prog_1_method_27_code 38 = .ok (.iload_n 2, 1) := by decide +kernel
theorem d_LogDisk_moveBase_39 : decode prog_1_method_27_code 39 = .ok (.i2l, 1) := by decide +kernel
theorem d_LogDisk_moveBase_40 : decode prog_1_method_27_code 40 = .ok (.iconst 4, 1) := by decide +kernel
theorem d_LogDisk_moveBase_41 : decode prog_1_method_27_code 41 = .ok (.invokevirtual 301, 3) := by decide +kernel
theorem d_LogDisk_moveBase_44 : decode prog_1_method_27_code 44 = .ok (.aload_n 0, 1) := by decide +kernel
theorem d_LogDisk_moveBase_45 : decode prog_1_method_27_code 45 = .ok (.getfield 29, 3) := by decide +kernel
theorem d_LogDisk_moveBase_48 : decode prog_1_method_27_code 48 = .ok (.iload_n 3, 1) := by decide +kernel
theorem d_LogDisk_moveBase_49 : decode prog_1_method_27_code 49 = .ok (.i2l, 1) := by decide +kernel
theorem d_LogDisk_moveBase_50 : decode prog_1_method_27_code 50 = .ok (.iconst 4, 1) := by decide +kernel
theorem d_LogDisk_moveBase_51 : decode prog_1_method_27_code 51 = .ok (.invokevirtual 301, 3) := by decide +kernel
theorem d_LogDisk_moveBase_54 : decode prog_1_method_27_code 54 = .ok (.aload_n 0, 1) := by decide +kernel
theorem d_LogDisk_moveBase_55 : decode prog_1_method_27_code 55 = .ok (.getfield 29, 3) := by decide +kernel
theorem d_LogDisk_moveBase_58 : decode prog_1_method_27_code 58 = .ok (.invokevirtual 305, 3) := by decide +kernel
theorem d_LogDisk_moveBase_61 : decode prog_1_method_27_code 61 = .ok (.aload_n 0, 1) := by decide +kernel
theorem d_LogDisk_moveBase_62 : decode prog_1_method_27_code 62 = .ok (.getfield 11, 3) := by decide +kernel
theorem d_LogDisk_moveBase_65 : decode prog_1_method_27_code 65 = .ok (.aload_n 0, 1) := by decide +kernel
theorem d_LogDisk_moveBase_66 : decode prog_1_method_27_code 66 = .ok (.getfield 43, 3) := by decide +kernel
theorem d_LogDisk_moveBase_69 : decode prog_1_method_27_code 69 = .ok (.getfield 278, 3) := by decide +kernel
theorem d_LogDisk_moveBase_72 : decode prog_1_method_27_code 72 = .ok (.aaload, 1) := by decide +kernel
theorem d_LogDisk_moveBase_73 : decode prog_1_method_27_code 73 = .ok (.astore 5, 2) := by decide +kernel
theorem d_LogDisk_moveBase_75 : decode prog_1_method_27_code 75 = .ok (.aload 5, 2) := by decide +kernel
theorem d_LogDisk_moveBase_77 : decode prog_1_method_27_code 77 = .ok (.iconst 0, 1) := by decide +kernel
theorem d_LogDisk_moveBase_78 : decode prog_1_method_27_code 78 = .ok (.invokevirtual 213, 3) := by decide +kernel
theorem d_LogDisk_moveBase_81 : decode prog_1_method_27_code 81 = .ok (.aload 5, 2) := by decide +kernel
theorem d_LogDisk_moveBase_83 : decode prog_1_method_27_code 83 = .ok (.aload_n 0, 1) := by decide +kernel
theorem d_LogDisk_moveBase_84 : decode prog_1_method_27_code 84 = .ok (.getfield 29, 3) := by decide +kernel
theorem d_LogDisk_moveBase_87 : decode prog_1_method_27_code 87 = .ok (.getfield 309, 3) := by decide +kernel
theorem d_LogDisk_moveBase_90 : decode prog_1_method_27_code 90 = .ok (.aload_n 0, 1) := by decide +kernel
theorem d_LogDisk_moveBase_91 : decode prog_1_method_27_code 91 = .ok (.getfield 29, 3) := by decide +kernel
theorem d_LogDisk_moveBase_94 : decode prog_1_method_27_code 94 = .ok (.getfield 310, 3) := by decide +kernel
theorem d_LogDisk_moveBase_97 : decode prog_1_method_27_code 97 = .ok (.invokevirtual 311, 3) := by decide +kernel
theorem d_LogDisk_moveBase_100 : decode prog_1_method_27_code 100 = .ok (.aload 5, 2) := by decide +kernel
theorem d_LogDisk_moveBase_102 : decode prog_1_method_27_code 102 = .ok (.aload_n 0, 1) := by decide +kernel
theorem d_LogDisk_moveBase_103 : decode prog_1_method_27_code 103 = .ok (.getfield 22, 3) := by decide +kernel
theorem d_LogDisk_moveBase_106 : decode prog_1_method_27_code 106 = .ok (.getfield 104, 3) := by decide +kernel
theorem d_LogDisk_moveBase_109 : decode prog_1_method_27_code 109 = .ok (.iload 4, 2) := by decide +kernel
theorem d_LogDisk_moveBase_111 : decode prog_1_method_27_code 111 = .ok (.invokevirtual 311, 3) := by decide +kernel
theorem d_LogDisk_moveBase_114 : decode prog_1_method_27_code 114 = .ok (.aload 5, 2) := by decide +kernel
theorem d_LogDisk_moveBase_116 : decode prog_1_method_27_code 116 = .ok (.invokevirtual 326, 3) := by decide +kernel
theorem d_LogDisk_moveBase_119 : decode prog_1_method_27_code 119 = .ok (.aload_n 0, 1) := by decide +kernel
theorem d_LogDisk_moveBase_120 : decode prog_1_method_27_code 120 = .ok (.invokevirtual 329, 3) := by decide +kernel
theorem d_LogDisk_moveBase_123 : decode prog_1_method_27_code 123 = .ok (.aload_n 0, 1) := by decide +kernel
theorem d_LogDisk_moveBase_124 : decode prog_1_method_27_code 124 = .ok (.iconst 1, 1) := by decide +kernel
theorem d_LogDisk_moveBase_125 : decode prog_1_method_27_code 125 = .ok (.putfield 144, 3) := by decide +kernel
theorem d_LogDisk_moveBase_128 : decode prog_1_method_27_code 128 = .ok (.return_, 1) := by decide +kernel
theorem d_LogDisk_dropSegments_0 : decode prog_1_method_28_code 0 = .ok (.aload_n 0, 1) := by decide +kernel
theorem d_LogDisk_dropSegments_1 : decode prog_1_method_28_code 1 = .ok (.getfield 150, 3) := by decide +kernel
theorem d_LogDisk_dropSegments_4 : decode prog_1_method_28_code 4 = .ok (.aload_n 0, 1) := by decide +kernel
theorem d_LogDisk_dropSegments_5 : decode prog_1_method_28_code 5 = .ok (.getfield 43, 3) := by decide +kernel
theorem d_LogDisk_dropSegments_8 : decode prog_1_method_28_code 8 = .ok (.getfield 161, 3) := by decide +kernel
theorem d_LogDisk_dropSegments_11 : decode prog_1_method_28_code 11 = .ok (.if_icmp .ne 13, 3) := by decide +kernel
theorem d_LogDisk_dropSegments_14 : decode prog_1_method_28_code 14 = .ok (.aload_n 0, 1) := by decide +kernel
theorem d_LogDisk_dropSegments_15 : decode prog_1_method_28_code 15 = .ok (.getfield 50, 3) := by decide +kernel
theorem d_LogDisk_dropSegments_18 : decode prog_1_method_28_code 18 = .ok (.getfield 194, 3) := by decide +kernel
theorem d_LogDisk_dropSegments_21 : decode prog_1_method_28_code 21 = .ok (.goto 17, 3) := by decide +kernel
theorem d_LogDisk_dropSegments_24 : decode prog_1_method_28_code 24 = .ok (.aload_n 0, 1) := by decide +kernel
theorem d_LogDisk_dropSegments_25 : decode prog_1_method_28_code 25 = .ok (.getfield 50, 3) := by decide +kernel
theorem d_LogDisk_dropSegments_28 : decode prog_1_method_28_code 28 = .ok (.aload_n 0, 1) := by decide +kernel
theorem d_LogDisk_dropSegments_29 : decode prog_1_method_28_code 29 = .ok (.getfield 43, 3) := by decide +kernel
theorem d_LogDisk_dropSegments_32 : decode prog_1_method_28_code 32 = .ok (.getfield 161, 3) := by decide +kernel
theorem d_LogDisk_dropSegments_35 : decode prog_1_method_28_code 35 = .ok (.invokevirtual 332, 3) := by decide +kernel
theorem d_LogDisk_dropSegments_38 : decode prog_1_method_28_code 38 = .ok (.istore_n 1, 1) := by decide +kernel
theorem d_LogDisk_dropSegments_39 : decode prog_1_method_28_code 39 = .ok (.iconst 0, 1) := by decide +kernel
theorem d_LogDisk_dropSegments_40 : decode prog_1_method_28_code 40 = .ok (.istore_n 2, 1) := by decide +kernel
theorem d_LogDisk_dropSegments_41 : decode prog_1_method_28_code 41 = .ok (.iload_n 2, 1) := by decide +kernel
theorem d_LogDisk_dropSegments_42 : decode prog_1_method_28_code 42 = .ok (.iload_n 1, 1) := by decide +kernel
theorem d_LogDisk_dropSegments_43 : decode prog_1_method_28_code 43 = .ok (.if_icmp .ge 26, 3) := by decide +kernel
theorem d_LogDisk_dropSegments_46 : decode prog_1_method_28_code 46 = .ok (.aload_n 0, 1) := by decide +kernel
theorem d_LogDisk_dropSegments_47 : decode prog_1_method_28_code 47 = .ok (.getfield 11, 3) := by decide +kernel
theorem d_LogDisk_dropSegments_50 : decode prog_1_method_28_code 50 = .ok (.aload_n 0, 1) := by decide +kernel
theorem d_LogDisk_dropSegments_51 : decode prog_1_method_28_code 51 = .ok (.getfield 50, 3) := by decide +kernel
theorem d_LogDisk_dropSegments_54 : decode prog_1_method_28_code 54 = .ok (.getfield 200, 3) := by decide +kernel
theorem d_LogDisk_dropSegments_57 : decode prog_1_method_28_code 57 = .ok (.iload_n 2, 1) := by decide +kernel
theorem d_LogDisk_dropSegments_58 : decode prog_1_method_28_code 58 = .ok (.iaload, 1) := by decide +kernel
theorem d_LogDisk_dropSegments_59 : decode prog_1_method_28_code 59 = .ok (.aaload, 1) := by decide +kernel
theorem d_LogDisk_dropSegments_60 : decode prog_1_method_28_code 60 = .ok (.invokevirtual 203, 3) := by decide +kernel
theorem d_LogDisk_dropSegments_63 : decode prog_1_method_28_code 63 = .ok (.iinc 2 1, 3) := by decide +kernel
theorem d_LogDisk_dropSegments_66 : decode prog_1_method_28_code 66 = .ok (.goto (-25), 3) := by decide +kernel
theorem d_LogDisk_dropSegments_69 : decode prog_1_method_28_code 69 = .ok (.aload_n 0, 1) := by decide +kernel
theorem d_LogDisk_dropSegments_70 : decode prog_1_method_28_code 70 = .ok (.getfield 50, 3) := by decide +kernel
theorem d_LogDisk_dropSegments_73 : decode prog_1_method_28_code 73 = .ok (.iload_n 1, 1) := by decide +kernel
theorem d_LogDisk_dropSegments_74 : decode prog_1_method_28_code 74 = .ok (.invokevirtual 335, 3) := by decide +kernel
theorem d_LogDisk_dropSegments_77 : decode prog_1_method_28_code 77 = .ok (.return_, 1) := by decide +kernel
theorem d_LogDisk_syncFiles_0 : decode prog_1_method_29_code 0 = .ok (.iconst 0, 1) := by decide +kernel
theorem d_LogDisk_syncFiles_1 : decode prog_1_method_29_code 1 = .ok (.istore_n 1, 1) := by decide +kernel
theorem d_LogDisk_syncFiles_2 : decode prog_1_method_29_code 2 = .ok (.iload_n 1, 1) := by decide +kernel
theorem d_LogDisk_syncFiles_3 : decode prog_1_method_29_code 3 = .ok (.bipush 16, 2) := by decide +kernel
theorem d_LogDisk_syncFiles_5 : decode prog_1_method_29_code 5 = .ok (.if_icmp .ge 18, 3) := by decide +kernel
theorem d_LogDisk_syncFiles_8 : decode prog_1_method_29_code 8 = .ok (.aload_n 0, 1) := by decide +kernel
theorem d_LogDisk_syncFiles_9 : decode prog_1_method_29_code 9 = .ok (.getfield 11, 3) := by decide +kernel
theorem d_LogDisk_syncFiles_12 : decode prog_1_method_29_code 12 = .ok (.iload_n 1, 1) := by decide +kernel
theorem d_LogDisk_syncFiles_13 : decode prog_1_method_29_code 13 = .ok (.aaload, 1) := by decide +kernel
theorem d_LogDisk_syncFiles_14 : decode prog_1_method_29_code 14 = .ok (.invokevirtual 326, 3) := by decide +kernel
theorem d_LogDisk_syncFiles_17 : decode prog_1_method_29_code 17 = .ok (.iinc 1 1, 3) := by decide +kernel
theorem d_LogDisk_syncFiles_20 : decode prog_1_method_29_code 20 = .ok (.goto (-18), 3) := by decide +kernel
theorem d_LogDisk_syncFiles_23 : decode prog_1_method_29_code 23 = .ok (.aload_n 0, 1) := by decide +kernel
theorem d_LogDisk_syncFiles_24 : decode prog_1_method_29_code 24 = .ok (.getfield 36, 3) := by decide +kernel
theorem d_LogDisk_syncFiles_27 : decode prog_1_method_29_code 27 = .ok (.iconst 0, 1) := by decide +kernel
theorem d_LogDisk_syncFiles_28 : decode prog_1_method_29_code 28 = .ok (.putfield 137, 3) := by decide +kernel
theorem d_LogDisk_syncFiles_31 : decode prog_1_method_29_code 31 = .ok (.aload_n 0, 1) := by decide +kernel
theorem d_LogDisk_syncFiles_32 : decode prog_1_method_29_code 32 = .ok (.iconst 0, 1) := by decide +kernel
theorem d_LogDisk_syncFiles_33 : decode prog_1_method_29_code 33 = .ok (.putfield 144, 3) := by decide +kernel
theorem d_LogDisk_syncFiles_36 : decode prog_1_method_29_code 36 = .ok (.return_, 1) := by decide +kernel
theorem d_LogDisk_crashFiles_0 : decode prog_1_method_30_code 0 = .ok (.lload_n 1, 1) := by decide +kernel
theorem d_LogDisk_crashFiles_1 : decode prog_1_method_30_code 1 = .ok (.lstore_n 3, 1) := by decide +kernel
theorem d_LogDisk_crashFiles_2 : decode prog_1_method_30_code 2 = .ok (.iconst 0, 1) := by decide +kernel
theorem d_LogDisk_crashFiles_3 : decode prog_1_method_30_code 3 = .ok (.istore 5, 2) := by decide +kernel
theorem d_LogDisk_crashFiles_5 : decode prog_1_method_30_code 5 = .ok (.iload 5, 2) := by decide +kernel
theorem d_LogDisk_crashFiles_7 : decode prog_1_method_30_code 7 = .ok (.bipush 16, 2) := by decide +kernel
theorem d_LogDisk_crashFiles_9 : decode prog_1_method_30_code 9 = .ok (.if_icmp .ge 73, 3) := by decide +kernel
theorem d_LogDisk_crashFiles_12 : decode prog_1_method_30_code 12 = .ok (.lload_n 3, 1) := by decide +kernel
theorem d_LogDisk_crashFiles_13 : decode prog_1_method_30_code 13 = .ok (.ldc2_w 338, 3) := by decide +kernel
theorem d_LogDisk_crashFiles_16 : decode prog_1_method_30_code 16 = .ok (.lmul, 1) := by decide +kernel
theorem d_LogDisk_crashFiles_17 : decode prog_1_method_30_code 17 = .ok (.ldc2_w 340, 3) := by decide +kernel
theorem d_LogDisk_crashFiles_20 : decode prog_1_method_30_code 20 = .ok (.ladd, 1) := by decide +kernel
theorem d_LogDisk_crashFiles_21 : decode prog_1_method_30_code 21 = .ok (.lstore_n 3, 1) := by decide +kernel
theorem d_LogDisk_crashFiles_22 : decode prog_1_method_30_code 22 = .ok (.aload_n 0, 1) := by decide +kernel
theorem d_LogDisk_crashFiles_23 : decode prog_1_method_30_code 23 = .ok (.getfield 15, 3) := by decide +kernel
theorem d_LogDisk_crashFiles_26 : decode prog_1_method_30_code 26 = .ok (.iload 5, 2) := by decide +kernel
theorem d_LogDisk_crashFiles_28 : decode prog_1_method_30_code 28 = .ok (.iaload, 1) := by decide +kernel
theorem d_LogDisk_crashFiles_29 : decode prog_1_method_30_code 29 = .ok (.iconst (-1), 1) := by decide +kernel
theorem d_LogDisk_crashFiles_30 : decode prog_1_method_30_code 30 = .ok (.if_icmp .ne 17, 3) := by decide +kernel
theorem d_LogDisk_crashFiles_33 : decode prog_1_method_30_code 33 = .ok (.aload_n 0, 1) := by decide +kernel
theorem d_LogDisk_crashFiles_34 : decode prog_1_method_30_code 34 = .ok (.getfield 11, 3) := by decide +kernel
theorem d_LogDisk_crashFiles_37 : decode prog_1_method_30_code 37 = .ok (.iload 5, 2) := by decide +kernel
theorem d_LogDisk_crashFiles_39 : decode prog_1_method_30_code 39 = .ok (.aaload, 1) := by decide +kernel
theorem d_LogDisk_crashFiles_40 : decode prog_1_method_30_code 40 = .ok (.lload_n 3, 1) := by decide +kernel
theorem d_LogDisk_crashFiles_41 : decode prog_1_method_30_code 41 = .ok (.invokevirtual 342, 3) := by decide +kernel
theorem d_LogDisk_crashFiles_44 : decode prog_1_method_30_code 44 = .ok (.goto 10, 3) := by decide +kernel
theorem d_LogDisk_crashFiles_47 : decode prog_1_method_30_code 47 = .ok (.aload_n 0, 1) := by decide +kernel
theorem d_LogDisk_crashFiles_48 : decode prog_1_method_30_code 48 = .ok (.getfield 15, 3) := by decide +kernel
theorem d_LogDisk_crashFiles_51 : decode prog_1_method_30_code 51 = .ok (.iload 5, 2) := by decide +kernel
theorem d_LogDisk_crashFiles_53 : decode prog_1_method_30_code 53 = .ok (.iaload, 1) := by decide +kernel
theorem d_LogDisk_crashFiles_54 : decode prog_1_method_30_code 54 = .ok (.istore 6, 2) := by decide +kernel
theorem d_LogDisk_crashFiles_56 : decode prog_1_method_30_code 56 = .ok (.aload_n 0, 1) := by decide +kernel
theorem d_LogDisk_crashFiles_57 : decode prog_1_method_30_code 57 = .ok (.getfield 11, 3) := by decide +kernel
theorem d_LogDisk_crashFiles_60 : decode prog_1_method_30_code 60 = .ok (.iload 5, 2) := by decide +kernel
theorem d_LogDisk_crashFiles_62 : decode prog_1_method_30_code 62 = .ok (.aaload, 1) := by decide +kernel
theorem d_LogDisk_crashFiles_63 : decode prog_1_method_30_code 63 = .ok (.iload 6, 2) := by decide +kernel
theorem d_LogDisk_crashFiles_65 : decode prog_1_method_30_code 65 = .ok (.invokevirtual 346, 3) := by decide +kernel
theorem d_LogDisk_crashFiles_68 : decode prog_1_method_30_code 68 = .ok (.aload_n 0, 1) := by decide +kernel
theorem d_LogDisk_crashFiles_69 : decode prog_1_method_30_code 69 = .ok (.getfield 15, 3) := by decide +kernel
theorem d_LogDisk_crashFiles_72 : decode prog_1_method_30_code 72 = .ok (.iload 5, 2) := by decide +kernel
theorem d_LogDisk_crashFiles_74 : decode prog_1_method_30_code 74 = .ok (.iconst (-1), 1) := by decide +kernel
theorem d_LogDisk_crashFiles_75 : decode prog_1_method_30_code 75 = .ok (.iastore, 1) := by decide +kernel
theorem d_LogDisk_crashFiles_76 : decode prog_1_method_30_code 76 = .ok (.iinc 5 1, 3) := by decide +kernel
theorem d_LogDisk_crashFiles_79 : decode prog_1_method_30_code 79 = .ok (.goto (-74), 3) := by decide +kernel
theorem d_LogDisk_crashFiles_82 : decode prog_1_method_30_code 82 = .ok (.return_, 1) := by decide +kernel
theorem d_LogDisk_findVote_0 : decode prog_1_method_31_code 0 = .ok (.aload_n 0, 1) := by decide +kernel
theorem d_LogDisk_findVote_1 : decode prog_1_method_31_code 1 = .ok (.getfield 36, 3) := by decide +kernel
theorem d_LogDisk_findVote_4 : decode prog_1_method_31_code 4 = .ok (.invokevirtual 349, 3) := by decide +kernel
theorem d_LogDisk_findVote_7 : decode prog_1_method_31_code 7 = .ok (.iconst 0, 1) := by decide +kernel
theorem d_LogDisk_findVote_8 : decode prog_1_method_31_code 8 = .ok (.istore_n 1, 1) := by decide +kernel
theorem d_LogDisk_findVote_9 : decode prog_1_method_31_code 9 = .ok (.iload_n 1, 1) := by decide +kernel
theorem d_LogDisk_findVote_10 : decode prog_1_method_31_code 10 = .ok (.iconst 2, 1) := by decide +kernel
theorem d_LogDisk_findVote_11 : decode prog_1_method_31_code 11 = .ok (.if_icmp .ge 77, 3) := by decide +kernel
theorem d_LogDisk_findVote_14 : decode prog_1_method_31_code 14 = .ok (.aload_n 0, 1) := by decide +kernel
theorem d_LogDisk_findVote_15 : decode prog_1_method_31_code 15 = .ok (.getfield 11, 3) := by decide +kernel
theorem d_LogDisk_findVote_18 : decode prog_1_method_31_code 18 = .ok (.iload_n 1, 1) := by decide +kernel
theorem d_LogDisk_findVote_19 : decode prog_1_method_31_code 19 = .ok (.aaload, 1) := by decide +kernel
theorem d_LogDisk_findVote_20 : decode prog_1_method_31_code 20 = .ok (.astore_n 2, 1) := by decide +kernel
theorem d_LogDisk_findVote_21 : decode prog_1_method_31_code 21 = .ok (.aload_n 2, 1) := by decide +kernel
theorem d_LogDisk_findVote_22 : decode prog_1_method_31_code 22 = .ok (.iconst 0, 1) := by decide +kernel
theorem d_LogDisk_findVote_23 : decode prog_1_method_31_code 23 = .ok (.invokevirtual 352, 3) := by decide +kernel
theorem d_LogDisk_findVote_26 : decode prog_1_method_31_code 26 = .ok (.bipush 24, 2) := by decide +kernel
theorem d_LogDisk_findVote_28 : decode prog_1_method_31_code 28 = .ok (.if_icmp .eq 6, 3) := by decide +kernel
theorem d_LogDisk_findVote_31 : decode prog_1_method_31_code 31 = .ok (.goto 51, 3) := by decide +kernel
theorem d_LogDisk_findVote_34 : decode prog_1_method_31_code 34 = .ok (.aload_n 2, 1) := by decide +kernel
theorem d_LogDisk_findVote_35 : decode prog_1_method_31_code 35 = .ok (.bipush 8, 2) := by decide +kernel
theorem d_LogDisk_findVote_37 : decode prog_1_method_31_code 37 = .ok (.bipush 8, 2) := by decide +kernel
theorem d_LogDisk_findVote_39 : decode prog_1_method_31_code 39 = .ok (.invokevirtual 355, 3) := by decide +kernel
theorem d_LogDisk_findVote_42 : decode prog_1_method_31_code 42 = .ok (.lstore_n 3, 1) := by decide +kernel
theorem d_LogDisk_findVote_43 : decode prog_1_method_31_code 43 = .ok (.lload_n 3, 1) := by decide +kernel
theorem d_LogDisk_findVote_44 : decode prog_1_method_31_code 44 = .ok (.aload_n 0, 1) := by decide +kernel
theorem d_LogDisk_findVote_45 : decode prog_1_method_31_code 45 = .ok (.getfield 36, 3) := by decide +kernel
theorem d_LogDisk_findVote_48 : decode prog_1_method_31_code 48 = .ok (.getfield 129, 3) := by decide +kernel
theorem d_LogDisk_findVote_51 : decode prog_1_method_31_code 51 = .ok (.lcmp, 1) := by decide +kernel
theorem d_LogDisk_findVote_52 : decode prog_1_method_31_code 52 = .ok (.ifCond .le 30, 3) := by decide +kernel
theorem d_LogDisk_findVote_55 : decode prog_1_method_31_code 55 = .ok (.aload_n 0, 1) := by decide +kernel
theorem d_LogDisk_findVote_56 : decode prog_1_method_31_code 56 = .ok (.getfield 36, 3) := by decide +kernel
theorem d_LogDisk_findVote_59 : decode prog_1_method_31_code 59 = .ok (.iload_n 1, 1) := by decide +kernel
theorem d_LogDisk_findVote_60 : decode prog_1_method_31_code 60 = .ok (.lload_n 3, 1) := by decide +kernel
theorem d_LogDisk_findVote_61 : decode prog_1_method_31_code 61 = .ok (.aload_n 2, 1) := by decide +kernel
theorem d_LogDisk_findVote_62 : decode prog_1_method_31_code 62 = .ok (.bipush 16, 2) := by decide +kernel
theorem d_LogDisk_findVote_64 : decode prog_1_method_31_code 64 = .ok (.bipush 8, 2) := by decide +kernel
theorem d_LogDisk_findVote_66 : decode prog_1_method_31_code 66 = .ok (.invokevirtual 355, 3) := by decide +kernel
theorem d_LogDisk_findVote_69 : decode prog_1_method_31_code 69 = .ok (.l2i, 1) := by decide +kernel
theorem d_LogDisk_findVote_70 : decode prog_1_method_31_code 70 = .ok (.aload_n 2, 1) := by decide +kernel
theorem d_LogDisk_findVote_71 : decode prog_1_method_31_code 71 = .ok (.bipush 24, 2) := by decide +kernel
theorem d_LogDisk_findVote_73 : decode prog_1_method_31_code 73 = .ok (.bipush 8, 2) := by decide +kernel
theorem d_LogDisk_findVote_75 : decode prog_1_method_31_code 75 = .ok (.invokevirtual 355, 3) := by decide +kernel
theorem d_LogDisk_findVote_78 : decode prog_1_method_31_code 78 = .ok (.l2i, 1) := by decide +kernel
theorem d_LogDisk_findVote_79 : decode prog_1_method_31_code 79 = .ok (.invokevirtual 133, 3) := by decide +kernel
theorem d_LogDisk_findVote_82 : decode prog_1_method_31_code 82 = .ok (.iinc 1 1, 3) := by decide +kernel
theorem d_LogDisk_findVote_85 : decode prog_1_method_31_code 85 = .ok (.goto (-76), 3) := by decide +kernel
theorem d_LogDisk_findVote_88 : decode prog_1_method_31_code 88 = .ok (.return_, 1) := by decide +kernel
theorem d_LogDisk_findSnapshot_0 : decode prog_1_method_32_code 0 = .ok (.aload_n 0, 1) := by decide +kernel
theorem d_LogDisk_findSnapshot_1 : decode prog_1_method_32_code 1 = .ok (.getfield 43, 3) := by decide +kernel
theorem d_LogDisk_findSnapshot_4 : decode prog_1_method_32_code 4 = .ok (.iconst (-1), 1) := by decide +kernel
theorem d_LogDisk_findSnapshot_5 : decode prog_1_method_32_code 5 = .ok (.iconst 0, 1) := by decide +kernel
theorem d_LogDisk_findSnapshot_6 : decode prog_1_method_32_code 6 = .ok (.iconst 0, 1) := by decide +kernel
theorem d_LogDisk_findSnapshot_7 : decode prog_1_method_32_code 7 = .ok (.aload_n 0, 1) := by decide +kernel
theorem d_LogDisk_findSnapshot_8 : decode prog_1_method_32_code 8 = .ok (.getfield 82, 3) := by decide +kernel
theorem d_LogDisk_findSnapshot_11 : decode prog_1_method_32_code 11 = .ok (.invokevirtual 324, 3) := by decide +kernel
theorem d_LogDisk_findSnapshot_14 : decode prog_1_method_32_code 14 = .ok (.iconst 2, 1) := by decide +kernel
theorem d_LogDisk_findSnapshot_15 : decode prog_1_method_32_code 15 = .ok (.istore_n 1, 1) := by decide +kernel
theorem d_LogDisk_findSnapshot_16 : decode prog_1_method_32_code 16 = .ok (.iload_n 1, 1) := by decide +kernel
theorem d_LogDisk_findSnapshot_17 : decode prog_1_method_32_code 17 = .ok (.iconst 4, 1) := by decide +kernel
theorem d_LogDisk_findSnapshot_18 : decode prog_1_method_32_code 18 = .ok (.if_icmp .ge 78, 3) := by decide +kernel
theorem d_LogDisk_findSnapshot_21 : decode prog_1_method_32_code 21 = .ok (.aload_n 0, 1) := by decide +kernel
theorem d_LogDisk_findSnapshot_22 : decode prog_1_method_32_code 22 = .ok (.getfield 11, 3) := by decide +kernel
theorem d_LogDisk_findSnapshot_25 : decode prog_1_method_32_code 25 = .ok (.iload_n 1, 1) := by decide +kernel
theorem d_LogDisk_findSnapshot_26 : decode prog_1_method_32_code 26 = .ok (.aaload, 1) := by decide +kernel
theorem d_LogDisk_findSnapshot_27 : decode prog_1_method_32_code 27 = .ok (.astore_n 2, 1) := by decide +kernel
theorem d_LogDisk_findSnapshot_28 : decode prog_1_method_32_code 28 = .ok (.aload_n 2, 1) := by decide +kernel
theorem d_LogDisk_findSnapshot_29 : decode prog_1_method_32_code 29 = .ok (.iconst 0, 1) := by decide +kernel
theorem d_LogDisk_findSnapshot_30 : decode prog_1_method_32_code 30 = .ok (.invokevirtual 352, 3) := by decide +kernel
theorem d_LogDisk_findSnapshot_33 : decode prog_1_method_32_code 33 = .ok (.bipush 12, 2) := by decide +kernel
theorem d_LogDisk_findSnapshot_35 : decode prog_1_method_32_code 35 = .ok (.if_icmp .eq 6, 3) := by decide +kernel
theorem d_LogDisk_findSnapshot_38 : decode prog_1_method_32_code 38 = .ok (.goto 52, 3) := by decide +kernel
theorem d_LogDisk_findSnapshot_41 : decode prog_1_method_32_code 41 = .ok (.aload_n 2, 1) := by decide +kernel
theorem d_LogDisk_findSnapshot_42 : decode prog_1_method_32_code 42 = .ok (.bipush 8, 2) := by decide +kernel
theorem d_LogDisk_findSnapshot_44 : decode prog_1_method_32_code 44 = .ok (.iconst 4, 1) := by decide +kernel
theorem d_LogDisk_findSnapshot_45 : decode prog_1_method_32_code 45 = .ok (.invokevirtual 355, 3) := by decide +kernel
theorem d_LogDisk_findSnapshot_48 : decode prog_1_method_32_code 48 = .ok (.l2i, 1) := by decide +kernel
theorem d_LogDisk_findSnapshot_49 : decode prog_1_method_32_code 49 = .ok (.istore_n 3, 1) := by decide +kernel
theorem d_LogDisk_findSnapshot_50 : decode prog_1_method_32_code 50 = .ok (.iload_n 3, 1) := by decide +kernel
theorem d_LogDisk_findSnapshot_51 : decode prog_1_method_32_code 51 = .ok (.aload_n 0, 1) := by decide +kernel
theorem d_LogDisk_findSnapshot_52 : decode prog_1_method_32_code 52 = .ok (.getfield 43, 3) := by decide +kernel
theorem d_LogDisk_findSnapshot_55 : decode prog_1_method_32_code 55 = .ok (.getfield 161, 3) := by decide +kernel
theorem d_LogDisk_findSnapshot_58 : decode prog_1_method_32_code 58 = .ok (.if_icmp .le 32, 3) := by decide +kernel
theorem d_LogDisk_findSnapshot_61 : decode prog_1_method_32_code 61 = .ok (.aload_n 2, 1) := by decide +kernel
theorem d_LogDisk_findSnapshot_62 : decode prog_1_method_32_code 62 = .ok (.bipush 12, 2) := by decide +kernel
theorem d_LogDisk_findSnapshot_64 : decode prog_1_method_32_code 64 = .ok (.iconst 4, 1) := by decide +kernel
theorem d_LogDisk_findSnapshot_65 : decode prog_1_method_32_code 65 = .ok (.invokevirtual 355, 3) := by decide +kernel
theorem d_LogDisk_findSnapshot_68 : decode prog_1_method_32_code 68 = .ok (.l2i, 1) := by decide +kernel
theorem d_LogDisk_findSnapshot_69 : decode prog_1_method_32_code 69 = .ok (.istore 4, 2) := by decide +kernel
theorem d_LogDisk_findSnapshot_71 : decode prog_1_method_32_code 71 = .ok (.aload_n 0, 1) := by decide +kernel
theorem d_LogDisk_findSnapshot_72 : decode prog_1_method_32_code 72 = .ok (.getfield 43, 3) := by decide +kernel
theorem d_LogDisk_findSnapshot_75 : decode prog_1_method_32_code 75 = .ok (.iload_n 1, 1) := by decide +kernel
theorem d_LogDisk_findSnapshot_76 : decode prog_1_method_32_code 76 = .ok (.iload_n 3, 1) := by decide +kernel
theorem d_LogDisk_findSnapshot_77 : decode prog_1_method_32_code 77 = .ok (.iload 4, 2) := by decide +kernel
theorem d_LogDisk_findSnapshot_79 : decode prog_1_method_32_code 79 = .ok (.aload_n 2, 1) := by decide +kernel
theorem d_LogDisk_findSnapshot_80 : decode prog_1_method_32_code 80 = .ok (.bipush 16, 2) := by decide +kernel
theorem d_LogDisk_findSnapshot_82 : decode prog_1_method_32_code 82 = .ok (.iconst 4, 1) := by decide +kernel
theorem d_LogDisk_findSnapshot_83 : decode prog_1_method_32_code 83 = .ok (.invokevirtual 355, 3) := by decide +kernel
theorem d_LogDisk_findSnapshot_86 : decode prog_1_method_32_code 86 = .ok (.l2i, 1) := by decide +kernel
theorem d_LogDisk_findSnapshot_87 : decode prog_1_method_32_code 87 = .ok (.invokevirtual 324, 3) := by decide +kernel
theorem d_LogDisk_findSnapshot_90 : decode prog_1_method_32_code 90 = .ok (.iinc 1 1, 3) := by decide +kernel
theorem d_LogDisk_findSnapshot_93 : decode prog_1_method_32_code 93 = .ok (.goto (-77), 3) := by decide +kernel
theorem d_LogDisk_findSnapshot_96 : decode prog_1_method_32_code 96 = .ok (.return_, 1) := by decide +kernel
theorem d_LogDisk_findLog_0 : decode prog_1_method_33_code 0 = .ok (.aload_n 0, 1) := by decide +kernel
theorem d_LogDisk_findLog_1 : decode prog_1_method_33_code 1 = .ok (.getfield 50, 3) := by decide +kernel
theorem d_LogDisk_findLog_4 : decode prog_1_method_33_code 4 = .ok (.iconst 0, 1) := by decide +kernel
theorem d_LogDisk_findLog_5 : decode prog_1_method_33_code 5 = .ok (.putfield 194, 3) := by decide +kernel
theorem d_LogDisk_findLog_8 : decode prog_1_method_33_code 8 = .ok (.aload_n 0, 1) := by decide +kernel
theorem d_LogDisk_findLog_9 : decode prog_1_method_33_code 9 = .ok (.aload_n 0, 1) := by decide +kernel
theorem d_LogDisk_findLog_10 : decode prog_1_method_33_code 10 = .ok (.getfield 43, 3) := by decide +kernel
theorem d_LogDisk_findLog_13 : decode prog_1_method_33_code 13 = .ok (.getfield 161, 3) := by decide +kernel
theorem d_LogDisk_findLog_16 : decode prog_1_method_33_code 16 = .ok (.putfield 150, 3) := by decide +kernel
theorem d_LogDisk_findLog_19 : decode prog_1_method_33_code 19 = .ok (.aload_n 0, 1) := by decide +kernel
theorem d_LogDisk_findLog_20 : decode prog_1_method_33_code 20 = .ok (.invokevirtual 359, 3) := by decide +kernel
theorem d_LogDisk_findLog_23 : decode prog_1_method_33_code 23 = .ok (.istore_n 1, 1) := by decide +kernel
theorem d_LogDisk_findLog_24 : decode prog_1_method_33_code 24 = .ok (.iload_n 1, 1) := by decide +kernel
theorem d_LogDisk_findLog_25 : decode prog_1_method_33_code 25 = .ok (.iconst (-1), 1) := by decide +kernel
theorem d_LogDisk_findLog_26 : decode prog_1_method_33_code 26 = .ok (.if_icmp .ne 7, 3) := by decide +kernel
theorem d_LogDisk_findLog_29 : decode prog_1_method_33_code 29 = .ok (.iconst (-1), 1) := by decide +kernel
theorem d_LogDisk_findLog_30 : decode prog_1_method_33_code 30 = .ok (.goto 8, 3) := by decide +kernel
theorem d_LogDisk_findLog_33 : decode prog_1_method_33_code 33 = .ok (.aload_n 0, 1) := by decide +kernel
theorem d_LogDisk_findLog_34 : decode prog_1_method_33_code 34 = .ok (.iload_n 1, 1) := by decide +kernel
theorem d_LogDisk_findLog_35 : decode prog_1_method_33_code 35 = .ok (.invokevirtual 362, 3) := by decide +kernel
theorem d_LogDisk_findLog_38 : decode prog_1_method_33_code 38 = .ok (.istore_n 2, 1) := by decide +kernel
theorem d_LogDisk_findLog_39 : decode prog_1_method_33_code 39 = .ok (.iload_n 1, 1) := by decide +kernel
theorem d_LogDisk_findLog_40 : decode prog_1_method_33_code 40 = .ok (.iconst (-1), 1) := by decide +kernel
theorem d_LogDisk_findLog_41 : decode prog_1_method_33_code 41 = .ok (.if_icmp .eq 18, 3) := by decide +kernel
theorem d_LogDisk_findLog_44 : decode prog_1_method_33_code 44 = .ok (.aload_n 0, 1) := by decide +kernel
theorem d_LogDisk_findLog_45 : decode prog_1_method_33_code 45 = .ok (.iload_n 1, 1) := by decide +kernel
theorem d_LogDisk_findLog_46 : decode prog_1_method_33_code 46 = .ok (.iload_n 2, 1) := by decide +kernel
theorem d_LogDisk_findLog_47 : decode prog_1_method_33_code 47 = .ok (.invokevirtual 365, 3) := by decide +kernel
theorem d_LogDisk_findLog_50 : decode prog_1_method_33_code 50 = .ok (.ifCond .eq 9, 3) := by decide +kernel
theorem d_LogDisk_findLog_53 : decode prog_1_method_33_code 53 = .ok (.aload_n 0, 1) := by decide +kernel
theorem d_LogDisk_findLog_54 : decode prog_1_method_33_code 54 = .ok (.iload_n 1, 1) := by decide +kernel
theorem d_LogDisk_findLog_55 : decode prog_1_method_33_code 55 = .ok (.iload_n 2, 1) := by decide +kernel
theorem d_LogDisk_findLog_56 : decode prog_1_method_33_code 56 = .ok (.invokevirtual 369, 3) := by decide +kernel
theorem d_LogDisk_findLog_59 : decode prog_1_method_33_code 59 = .ok (.iconst 4, 1) := by decide +kernel
theorem d_LogDisk_findLog_60 : decode prog_1_method_33_code 60 = .ok (.istore_n 3, 1) := by decide +kernel
theorem d_LogDisk_findLog_61 : decode prog_1_method_33_code 61 = .ok (.iload_n 3, 1) := by decide +kernel
theorem d_LogDisk_findLog_62 : decode prog_1_method_33_code 62 = .ok (.bipush 16, 2) := by decide +kernel
theorem d_LogDisk_findLog_64 : decode prog_1_method_33_code 64 = .ok (.if_icmp .ge 29, 3) := by decide +kernel
theorem d_LogDisk_findLog_67 : decode prog_1_method_33_code 67 = .ok (.aload_n 0, 1) := by decide +kernel
theorem d_LogDisk_findLog_68 : decode prog_1_method_33_code 68 = .ok (.getfield 50, 3) := by decide +kernel
theorem d_LogDisk_findLog_71 : decode prog_1_method_33_code 71 = .ok (.iload_n 3, 1) := by decide +kernel
theorem d_LogDisk_findLog_72 : decode prog_1_method_33_code 72 = .ok (.invokevirtual 372, 3) := by decide +kernel
theorem d_LogDisk_findLog_75 : decode prog_1_method_33_code 75 = .ok (.ifCond .ne 12, 3) := by decide +kernel
theorem d_LogDisk_findLog_78 : decode prog_1_method_33_code 78 = .ok (.aload_n 0, 1) := by decide +kernel
theorem d_LogDisk_findLog_79 : decode prog_1_method_33_code 79 = .ok (.getfield 11, 3) := by decide +kernel
theorem d_LogDisk_findLog_82 : decode prog_1_method_33_code 82 = .ok (.iload_n 3, 1) := by decide +kernel
theorem d_LogDisk_findLog_83 : decode prog_1_method_33_code 83 = .ok (.aaload, 1) := by decide +kernel
theorem d_LogDisk_findLog_84 : decode prog_1_method_33_code 84 = .ok (.invokevirtual 203, 3) := by decide +kernel
theorem d_LogDisk_findLog_87 : decode prog_1_method_33_code 87 = .ok (.iinc 3 1, 3) := by decide +kernel
theorem d_LogDisk_findLog_90 : decode prog_1_method_33_code 90 = .ok (.goto (-29), 3) := by decide +kernel
theorem d_LogDisk_findLog_93 : decode prog_1_method_33_code 93 = .ok (.return_, 1) := by decide +kernel
theorem d_LogDisk_followSegments_0 : decode prog_1_method_34_code 0 = .ok (.iload_n 1, 1) := by decide +kernel
theorem d_LogDisk_followSegments_1 : decode prog_1_method_34_code 1 = .ok (.istore_n 3, 1) := by decide +kernel
theorem d_LogDisk_followSegments_2 : decode prog_1_method_34_code 2 = .ok (.iload_n 2, 1) := by decide +kernel
theorem d_LogDisk_followSegments_3 : decode prog_1_method_34_code 3 = .ok (.istore 4, 2) := by decide +kernel
theorem d_LogDisk_followSegments_5 : decode prog_1_method_34_code 5 = .ok (.iconst 0, 1) := by decide +kernel
theorem d_LogDisk_followSegments_6 : decode prog_1_method_34_code 6 = .ok (.istore 5, 2) := by decide +kernel
theorem d_LogDisk_followSegments_8 : decode prog_1_method_34_code 8 = .ok (.iload 5, 2) := by decide +kernel
theorem d_LogDisk_followSegments_10 : decode prog_1_method_34_code 10 = .ok (.bipush 12, 2) := by decide +kernel
theorem d_LogDisk_followSegments_12 : decode prog_1_method_34_code 12 = .ok (.if_icmp .ge 81, 3) := by decide +kernel
theorem d_LogDisk_followSegments_15 : decode prog_1_method_34_code 15 = .ok (.aload_n 0, 1) := by decide +kernel
theorem d_LogDisk_followSegments_16 : decode prog_1_method_34_code 16 = .ok (.getfield 11, 3) := by decide +kernel
theorem d_LogDisk_followSegments_19 : decode prog_1_method_34_code 19 = .ok (.iload_n 3, 1) := by decide +kernel
theorem d_LogDisk_followSegments_20 : decode prog_1_method_34_code 20 = .ok (.aaload, 1) := by decide +kernel
theorem d_LogDisk_followSegments_21 : decode prog_1_method_34_code 21 = .ok (.invokevirtual 375, 3) := by decide +kernel
theorem d_LogDisk_followSegments_24 : decode prog_1_method_34_code 24 = .ok (.istore 6, 2) := by decide +kernel
theorem d_LogDisk_followSegments_26 : decode prog_1_method_34_code 26 = .ok (.aload_n 0, 1) := by decide +kernel
theorem d_LogDisk_followSegments_27 : decode prog_1_method_34_code 27 = .ok (.getfield 50, 3) := by decide +kernel
theorem d_LogDisk_followSegments_30 : decode prog_1_method_34_code 30 = .ok (.iload_n 3, 1) := by decide +kernel
theorem d_LogDisk_followSegments_31 : decode prog_1_method_34_code 31 = .ok (.iload 6, 2) := by decide +kernel
theorem d_LogDisk_followSegments_33 : decode prog_1_method_34_code 33 = .ok (.invokevirtual 315, 3) := by decide +kernel
theorem d_LogDisk_followSegments_36 : decode prog_1_method_34_code 36 = .ok (.aload_n 0, 1) := by decide +kernel
theorem d_LogDisk_followSegments_37 : decode prog_1_method_34_code 37 = .ok (.iload 4, 2) := by decide +kernel
theorem d_LogDisk_followSegments_39 : decode prog_1_method_34_code 39 = .ok (.putfield 150, 3) := by decide +kernel
theorem d_LogDisk_followSegments_42 : decode prog_1_method_34_code 42 = .ok (.iload 4, 2) := by decide +kernel
theorem d_LogDisk_followSegments_44 : decode prog_1_method_34_code 44 = .ok (.iload 6, 2) := by decide +kernel
theorem d_LogDisk_followSegments_46 : decode prog_1_method_34_code 46 = .ok (.if_icmp .ge 4, 3) := by decide +kernel
theorem d_LogDisk_followSegments_49 : decode prog_1_method_34_code 49 = .ok (.return_, 1) := by decide +kernel
theorem d_LogDisk_followSegments_50 : decode prog_1_method_34_code 50 = .ok (.aload_n 0, 1) := by decide +kernel
theorem d_LogDisk_followSegments_51 : decode prog_1_method_34_code 51 = .ok (.iload 4, 2) := by decide +kernel
theorem d_LogDisk_followSegments_53 : decode prog_1_method_34_code 53 = .ok (.aload_n 0, 1) := by decide +kernel
theorem d_LogDisk_followSegments_54 : decode prog_1_method_34_code 54 = .ok (.getfield 57, 3) := by decide +kernel
theorem d_LogDisk_followSegments_57 : decode prog_1_method_34_code 57 = .ok (.getfield 261, 3) := by decide +kernel
theorem d_LogDisk_followSegments_60 : decode prog_1_method_34_code 60 = .ok (.aload_n 0, 1) := by decide +kernel
theorem d_LogDisk_followSegments_61 : decode prog_1_method_34_code 61 = .ok (.getfield 57, 3) := by decide +kernel
theorem d_LogDisk_followSegments_64 : decode prog_1_method_34_code 64 = .ok (.iload 4, 2) := by decide +kernel
theorem d_LogDisk_followSegments_66 : decode prog_1_method_34_code 66 = .ok (.invokevirtual 206, 3) := by decide +kernel
theorem d_LogDisk_followSegments_69 : decode prog_1_method_34_code 69 = .ok (.iaload, 1) := by decide +kernel
theorem d_LogDisk_followSegments_70 : decode prog_1_method_34_code 70 = .ok (.invokevirtual 378, 3) := by decide +kernel
theorem d_LogDisk_followSegments_73 : decode prog_1_method_34_code 73 = .ok (.istore_n 3, 1) := by decide +kernel
theorem d_LogDisk_followSegments_74 : decode prog_1_method_34_code 74 = .ok (.iload_n 3, 1) := by decide +kernel
theorem d_LogDisk_followSegments_75 : decode prog_1_method_34_code 75 = .ok (.iconst (-1), 1) := by decide +kernel
theorem d_LogDisk_followSegments_76 : decode prog_1_method_34_code 76 = .ok (.if_icmp .ne 4, 3) := by decide +kernel
theorem d_LogDisk_followSegments_79 : decode prog_1_method_34_code 79 = .ok (.return_, 1) := by decide +kernel
theorem d_LogDisk_followSegments_80 : decode prog_1_method_34_code 80 = .ok (.aload_n 0, 1) := by decide +kernel
theorem d_LogDisk_followSegments_81 : decode prog_1_method_34_code 81 = .ok (.iload_n 3, 1) := by decide +kernel
theorem d_LogDisk_followSegments_82 : decode prog_1_method_34_code 82 = .ok (.invokevirtual 362, 3) := by decide +kernel
theorem d_LogDisk_followSegments_85 : decode prog_1_method_34_code 85 = .ok (.istore 4, 2) := by decide +kernel
theorem d_LogDisk_followSegments_87 : decode prog_1_method_34_code 87 = .ok (.iinc 5 1, 3) := by decide +kernel
theorem d_LogDisk_followSegments_90 : decode prog_1_method_34_code 90 = .ok (.goto (-82), 3) := by decide +kernel
theorem d_LogDisk_followSegments_93 : decode prog_1_method_34_code 93 = .ok (.return_, 1) := by decide +kernel
theorem d_LogDisk_firstSegment_0 : decode prog_1_method_35_code 0 = .ok (.iconst (-1), 1) := by decide +kernel
theorem d_LogDisk_firstSegment_1 : decode prog_1_method_35_code 1 = .ok (.istore_n 1, 1) := by decide +kernel
theorem d_LogDisk_firstSegment_2 : decode prog_1_method_35_code 2 = .ok (.iconst 0, 1) := by decide +kernel
theorem d_LogDisk_firstSegment_3 : decode prog_1_method_35_code 3 = .ok (.istore_n 2, 1) := by decide +kernel
theorem d_LogDisk_firstSegment_4 : decode prog_1_method_35_code 4 = .ok (.iconst 4, 1) := by decide +kernel
theorem d_LogDisk_firstSegment_5 : decode prog_1_method_35_code 5 = .ok (.istore_n 3, 1) := by decide +kernel
theorem d_LogDisk_firstSegment_6 : decode prog_1_method_35_code 6 = .ok (.iload_n 3, 1) := by decide +kernel
theorem d_LogDisk_firstSegment_7 : decode prog_1_method_35_code 7 = .ok (.bipush 16, 2) := by decide +kernel
theorem d_LogDisk_firstSegment_9 : decode prog_1_method_35_code 9 = .ok (.if_icmp .ge 45, 3) := by decide +kernel
theorem d_LogDisk_firstSegment_12 : decode prog_1_method_35_code 12 = .ok (.aload_n 0, 1) := by decide +kernel
theorem d_LogDisk_firstSegment_13 : decode prog_1_method_35_code 13 = .ok (.getfield 11, 3) := by decide +kernel
theorem d_LogDisk_firstSegment_16 : decode prog_1_method_35_code 16 = .ok (.iload_n 3, 1) := by decide +kernel
theorem d_LogDisk_firstSegment_17 : decode prog_1_method_35_code 17 = .ok (.aaload, 1) := by decide +kernel
theorem d_LogDisk_firstSegment_18 : decode prog_1_method_35_code 18 = .ok (.invokevirtual 375, 3) := by decide +kernel
theorem d_LogDisk_firstSegment_21 : decode prog_1_method_35_code 21 = .ok (.istore 4, 2) := by decide +kernel
theorem d_LogDisk_firstSegment_23 : decode prog_1_method_35_code 23 = .ok (.iload 4, 2) := by decide +kernel
theorem d_LogDisk_firstSegment_25 : decode prog_1_method_35_code 25 = .ok (.iload_n 2, 1) := by decide +kernel
theorem d_LogDisk_firstSegment_26 : decode prog_1_method_35_code 26 = .ok (.if_icmp .le 22, 3) := by decide +kernel
theorem d_LogDisk_firstSegment_29 : decode prog_1_method_35_code 29 = .ok (.iload 4, 2) := by decide +kernel
theorem d_LogDisk_firstSegment_31 : decode prog_1_method_35_code 31 = .ok (.aload_n 0, 1) := by decide +kernel
theorem d_LogDisk_firstSegment_32 : decode prog_1_method_35_code 32 = .ok (.getfield 43, 3) := by decide +kernel
theorem d_LogDisk_firstSegment_35 : decode prog_1_method_35_code 35 = .ok (.getfield 161, 3) := by decide +kernel
theorem d_LogDisk_firstSegment_38 : decode prog_1_method_35_code 38 = .ok (.iconst 1, 1) := by decide +kernel
theorem d_LogDisk_firstSegment_39 : decode prog_1_method_35_code 39 = .ok (.iadd, 1) := by decide +kernel
theorem d_LogDisk_firstSegment_40 : decode prog_1_method_35_code 40 = .ok (.if_icmp .gt 8, 3) := by decide +kernel
theorem d_LogDisk_firstSegment_43 : decode prog_1_method_35_code 43 = .ok (.iload_n 3, 1) := by decide +kernel
theorem d_LogDisk_firstSegment_44 : decode prog_1_method_35_code 44 = .ok (.istore_n 1, 1) := by decide +kernel
theorem d_LogDisk_firstSegment_45 : decode prog_1_method_35_code 45 = .ok (.iload 4, 2) := by decide +kernel
theorem d_LogDisk_firstSegment_47 : decode prog_1_method_35_code 47 = .ok (.istore_n 2, 1) := by decide +kernel
theorem d_LogDisk_firstSegment_48 : decode prog_1_method_35_code 48 = .ok (.iinc 3 1, 3) := by decide +kernel
theorem d_LogDisk_firstSegment_51 : decode prog_1_method_35_code 51 = .ok (.goto (-45), 3) := by decide +kernel
theorem d_LogDisk_firstSegment_54 : decode prog_1_method_35_code 54 = .ok (.iload_n 1, 1) := by decide +kernel
theorem d_LogDisk_firstSegment_55 : decode prog_1_method_35_code 55 = .ok (.ireturn, 1) := by decide +kernel
theorem d_LogDisk_segmentBehind_0 : decode prog_1_method_36_code 0 = .ok (.iconst 4, 1) := by decide +kernel
theorem d_LogDisk_segmentBehind_1 : decode prog_1_method_36_code 1 = .ok (.istore_n 3, 1) := by decide +kernel
theorem d_LogDisk_segmentBehind_2 : decode prog_1_method_36_code 2 = .ok (.iload_n 3, 1) := by decide +kernel
theorem d_LogDisk_segmentBehind_3 : decode prog_1_method_36_code 3 = .ok (.bipush 16, 2) := by decide +kernel
theorem d_LogDisk_segmentBehind_5 : decode prog_1_method_36_code 5 = .ok (.if_icmp .ge 39, 3) := by decide +kernel
theorem d_LogDisk_segmentBehind_8 : decode prog_1_method_36_code 8 = .ok (.aload_n 0, 1) := by decide +kernel
theorem d_LogDisk_segmentBehind_9 : decode prog_1_method_36_code 9 = .ok (.getfield 11, 3) := by decide +kernel
theorem d_LogDisk_segmentBehind_12 : decode prog_1_method_36_code 12 = .ok (.iload_n 3, 1) := by decide +kernel
theorem d_LogDisk_segmentBehind_13 : decode prog_1_method_36_code 13 = .ok (.aaload, 1) := by decide +kernel
theorem d_LogDisk_segmentBehind_14 : decode prog_1_method_36_code 14 = .ok (.invokevirtual 375, 3) := by decide +kernel
theorem d_LogDisk_segmentBehind_17 : decode prog_1_method_36_code 17 = .ok (.iload_n 1, 1) := by decide +kernel
theorem d_LogDisk_segmentBehind_18 : decode prog_1_method_36_code 18 = .ok (.iconst 1, 1) := by decide +kernel
theorem d_LogDisk_segmentBehind_19 : decode prog_1_method_36_code 19 = .ok (.iadd, 1) := by decide +kernel
theorem d_LogDisk_segmentBehind_20 : decode prog_1_method_36_code 20 = .ok (.if_icmp .ne 18, 3) := by decide +kernel
theorem d_LogDisk_segmentBehind_23 : decode prog_1_method_36_code 23 = .ok (.aload_n 0, 1) := by decide +kernel
theorem d_LogDisk_segmentBehind_24 : decode prog_1_method_36_code 24 = .ok (.getfield 11, 3) := by decide +kernel
theorem d_LogDisk_segmentBehind_27 : decode prog_1_method_36_code 27 = .ok (.iload_n 3, 1) := by decide +kernel
theorem d_LogDisk_segmentBehind_28 : decode prog_1_method_36_code 28 = .ok (.aaload, 1) := by decide +kernel
theorem d_LogDisk_segmentBehind_29 : decode prog_1_method_36_code 29 = .ok (.invokevirtual 381, 3) := by decide +kernel
theorem d_LogDisk_segmentBehind_32 : decode prog_1_method_36_code 32 = .ok (.iload_n 2, 1) := by decide +kernel
theorem d_LogDisk_segmentBehind_33 : decode prog_1_method_36_code 33 = .ok (.if_icmp .ne 5, 3) := by decide +kernel
theorem d_LogDisk_segmentBehind_36 : decode prog_1_method_36_code 36 = .ok (.iload_n 3, 1) := by decide +kernel
theorem d_LogDisk_segmentBehind_37 : decode prog_1_method_36_code 37 = .ok (.ireturn, 1) := by decide +kernel
theorem d_LogDisk_segmentBehind_38 : decode prog_1_method_36_code 38 = .ok (.iinc 3 1, 3) := by decide +kernel
theorem d_LogDisk_segmentBehind_41 : decode prog_1_method_36_code 41 = .ok (.goto (-39), 3) := by decide +kernel
theorem d_LogDisk_segmentBehind_44 : decode prog_1_method_36_code 44 = .ok (.iconst (-1), 1) := by decide +kernel
theorem d_LogDisk_segmentBehind_45 : decode prog_1_method_36_code 45 = .ok (.ireturn, 1) := by decide +kernel
theorem d_LogDisk_readSegment_0 : decode prog_1_method_37_code 0 = .ok (.aload_n 0, 1) := by decide +kernel
theorem d_LogDisk_readSegment_1 : decode prog_1_method_37_code 1 = .ok (.getfield 11, 3) := by decide +kernel
theorem d_LogDisk_readSegment_4 : decode prog_1_method_37_code 4 = .ok (.iload_n 1, 1) := by decide +kernel
theorem d_LogDisk_readSegment_5 : decode prog_1_method_37_code 5 = .ok (.aaload, 1) := by decide +kernel
theorem d_LogDisk_readSegment_6 : decode prog_1_method_37_code 6 = .ok (.astore_n 2, 1) := by decide +kernel
theorem d_LogDisk_readSegment_7 : decode prog_1_method_37_code 7 = .ok (.aload_n 2, 1) := by decide +kernel
theorem d_LogDisk_readSegment_8 : decode prog_1_method_37_code 8 = .ok (.invokevirtual 375, 3) := by decide +kernel
theorem d_LogDisk_readSegment_11 : decode prog_1_method_37_code 11 = .ok (.iconst 1, 1) := by decide +kernel
theorem d_LogDisk_readSegment_12 : decode prog_1_method_37_code 12 = .ok (.isub, 1) := by decide +kernel
theorem d_LogDisk_readSegment_13 : decode prog_1_method_37_code 13 = .ok (.istore_n 3, 1) := by decide +kernel
theorem d_LogDisk_readSegment_14 : decode prog_1_method_37_code 14 = .ok (.bipush 24, 2) := by decide +kernel
theorem d_LogDisk_readSegment_16 : decode prog_1_method_37_code 16 = .ok (.istore 4, 2) := by decide +kernel
theorem d_LogDisk_readSegment_18 : decode prog_1_method_37_code 18 = .ok (.iconst 0, 1) := by decide +kernel
theorem d_LogDisk_readSegment_19 : decode prog_1_method_37_code 19 = .ok (.istore 5, 2) := by decide +kernel
theorem d_LogDisk_readSegment_21 : decode prog_1_method_37_code 21 = .ok (.iload 5, 2) := by decide +kernel
theorem d_LogDisk_readSegment_23 : decode prog_1_method_37_code 23 = .ok (.sipush 1025, 3) := by decide +kernel
theorem d_LogDisk_readSegment_26 : decode prog_1_method_37_code 26 = .ok (.if_icmp .ge 98, 3) := by decide +kernel
theorem d_LogDisk_readSegment_29 : decode prog_1_method_37_code 29 = .ok (.aload_n 2, 1) := by decide +kernel
theorem d_LogDisk_readSegment_30 : decode prog_1_method_37_code 30 = .ok (.iload 4, 2) := by decide +kernel
theorem d_LogDisk_readSegment_32 : decode prog_1_method_37_code 32 = .ok (.invokevirtual 352, 3) := by decide +kernel
theorem d_LogDisk_readSegment_35 : decode prog_1_method_37_code 35 = .ok (.istore 6, 2) := by decide +kernel
theorem d_LogDisk_readSegment_37 : decode prog_1_method_37_code 37 = .ok (.iload 6, 2) := by decide +kernel
theorem d_LogDisk_readSegment_39 : decode prog_1_method_37_code 39 = .ok (.bipush 17, 2) := by decide +kernel
theorem d_LogDisk_readSegment_41 : decode prog_1_method_37_code 41 = .ok (.if_icmp .ge 6, 3) := by decide +kernel
theorem d_LogDisk_readSegment_44 : decode prog_1_method_37_code 44 = .ok (.goto 80, 3) := by decide +kernel
theorem d_LogDisk_readSegment_47 : decode prog_1_method_37_code 47 = .ok (.iinc 3 1, 3) := by decide +kernel
theorem d_LogDisk_readSegment_50 : decode prog_1_method_37_code 50 = .ok (.iload_n 3, 1) := by decide +kernel
theorem d_LogDisk_readSegment_51 : decode prog_1_method_37_code 51 = .ok (.aload_n 0, 1) := by decide +kernel
theorem d_LogDisk_readSegment_52 : decode prog_1_method_37_code 52 = .ok (.getfield 43, 3) := by decide +kernel
theorem d_LogDisk_readSegment_55 : decode prog_1_method_37_code 55 = .ok (.getfield 161, 3) := by decide +kernel
theorem d_LogDisk_readSegment_58 : decode prog_1_method_37_code 58 = .ok (.if_icmp .lt 50, 3) := by decide +kernel
theorem d_LogDisk_readSegment_61 : decode prog_1_method_37_code 61 = .ok (.aload_n 2, 1) := by decide +kernel
theorem d_LogDisk_readSegment_62 : decode prog_1_method_37_code 62 = .ok (.iload 4, 2) := by decide +kernel
theorem d_LogDisk_readSegment_64 : decode prog_1_method_37_code 64 = .ok (.bipush 8, 2) := by decide +kernel
theorem d_LogDisk_readSegment_66 : decode prog_1_method_37_code 66 = .ok (.iadd, 1) := by decide +kernel
theorem d_LogDisk_readSegment_67 : decode prog_1_method_37_code 67 = .ok (.bipush 8, 2) := by decide +kernel
theorem d_LogDisk_readSegment_69 : decode prog_1_method_37_code 69 = .ok (.iadd, 1) := by decide +kernel
theorem d_LogDisk_readSegment_70 : decode prog_1_method_37_code 70 = .ok (.bipush 8, 2) := by decide +kernel
theorem d_LogDisk_readSegment_72 : decode prog_1_method_37_code 72 = .ok (.invokevirtual 355, 3) := by decide +kernel
theorem d_LogDisk_readSegment_75 : decode prog_1_method_37_code 75 = .ok (.l2i, 1) := by decide +kernel
theorem d_LogDisk_readSegment_76 : decode prog_1_method_37_code 76 = .ok (.istore 7, 2) := by decide +kernel
theorem d_LogDisk_readSegment_78 : decode prog_1_method_37_code 78 = .ok (.aload_n 0, 1) := by decide +kernel
theorem d_LogDisk_readSegment_79 : decode prog_1_method_37_code 79 = .ok (.getfield 57, 3) := by decide +kernel
theorem d_LogDisk_readSegment_82 : decode prog_1_method_37_code 82 = .ok (.iload_n 3, 1) := by decide +kernel
theorem d_LogDisk_readSegment_83 : decode prog_1_method_37_code 83 = .ok (.iload_n 1, 1) := by decide +kernel
theorem d_LogDisk_readSegment_84 : decode prog_1_method_37_code 84 = .ok (.iload 4, 2) := by decide +kernel
theorem d_LogDisk_readSegment_86 : decode prog_1_method_37_code 86 = .ok (.iload 7, 2) := by decide +kernel
theorem d_LogDisk_readSegment_88 : decode prog_1_method_37_code 88 = .ok (.aload_n 2, 1) := by decide +kernel
theorem d_LogDisk_readSegment_89 : decode prog_1_method_37_code 89 = .ok (.iload 4, 2) := by decide +kernel
theorem d_LogDisk_readSegment_91 : decode prog_1_method_37_code 91 = .ok (.bipush 8, 2) := by decide +kernel
theorem d_LogDisk_readSegment_93 : decode prog_1_method_37_code 93 = .ok (.iadd, 1) := by decide +kernel
theorem d_LogDisk_readSegment_94 : decode prog_1_method_37_code 94 = .ok (.bipush 16, 2) := by decide +kernel
theorem d_LogDisk_readSegment_96 : decode prog_1_method_37_code 96 = .ok (.iadd, 1) := by decide +kernel
theorem d_LogDisk_readSegment_97 : decode prog_1_method_37_code 97 = .ok (.invokevirtual 275, 3) := by decide +kernel
theorem d_LogDisk_readSegment_100 : decode prog_1_method_37_code 100 = .ok (.iload 6, 2) := by decide +kernel
theorem d_LogDisk_readSegment_102 : decode prog_1_method_37_code 102 = .ok (.bipush 17, 2) := by decide +kernel
theorem d_LogDisk_readSegment_104 : decode prog_1_method_37_code 104 = .ok (.isub, 1) := by decide +kernel
theorem d_LogDisk_readSegment_105 : decode prog_1_method_37_code 105 = .ok (.invokevirtual 318, 3) := by decide +kernel
theorem d_LogDisk_readSegment_108 : decode prog_1_method_37_code 108 = .ok (.iload 4, 2) := by decide +kernel
theorem d_LogDisk_readSegment_110 : decode prog_1_method_37_code 110 = .ok (.bipush 8, 2) := by decide +kernel
theorem d_LogDisk_readSegment_112 : decode prog_1_method_37_code 112 = .ok (.iload 6, 2) := by decide +kernel
theorem d_LogDisk_readSegment_114 : decode prog_1_method_37_code 114 = .ok (.iadd, 1) := by decide +kernel
theorem d_LogDisk_readSegment_115 : decode prog_1_method_37_code 115 = .ok (.iadd, 1) := by decide +kernel
theorem d_LogDisk_readSegment_116 : decode prog_1_method_37_code 116 = .ok (.istore 4, 2) := by decide +kernel
theorem d_LogDisk_readSegment_118 : decode prog_1_method_37_code 118 = .ok (.iinc 5 1, 3) := by decide +kernel
theorem d_LogDisk_readSegment_121 : decode prog_1_method_37_code 121 = .ok (.goto (-100), 3) := by decide +kernel
theorem d_LogDisk_readSegment_124 : decode prog_1_method_37_code 124 = .ok (.aload_n 2, 1) := by decide +kernel
theorem d_LogDisk_readSegment_125 : decode prog_1_method_37_code 125 = .ok (.iload 4, 2) := by decide +kernel
theorem d_LogDisk_readSegment_127 : decode prog_1_method_37_code 127 = .ok (.invokevirtual 213, 3) := by decide +kernel
theorem d_LogDisk_readSegment_130 : decode prog_1_method_37_code 130 = .ok (.iload_n 3, 1) := by decide +kernel
theorem d_LogDisk_readSegment_131 : decode prog_1_method_37_code 131 = .ok (.ireturn, 1) := by decide +kernel
theorem d_LogDisk_holdsBase_0 : decode prog_1_method_38_code 0 = .ok (.aload_n 0, 1) := by decide +kernel
theorem d_LogDisk_holdsBase_1 : decode prog_1_method_38_code 1 = .ok (.getfield 11, 3) := by decide +kernel
theorem d_LogDisk_holdsBase_4 : decode prog_1_method_38_code 4 = .ok (.iload_n 1, 1) := by decide +kernel
theorem d_LogDisk_holdsBase_5 : decode prog_1_method_38_code 5 = .ok (.aaload, 1) := by decide +kernel
theorem d_LogDisk_holdsBase_6 : decode prog_1_method_38_code 6 = .ok (.invokevirtual 375, 3) := by decide +kernel
theorem d_LogDisk_holdsBase_9 : decode prog_1_method_38_code 9 = .ok (.aload_n 0, 1) := by decide +kernel
theorem d_LogDisk_holdsBase_10 : decode prog_1_method_38_code 10 = .ok (.getfield 43, 3) := by decide +kernel
theorem d_LogDisk_holdsBase_13 : decode prog_1_method_38_code 13 = .ok (.getfield 161, 3) := by decide +kernel
theorem d_LogDisk_holdsBase_16 : decode prog_1_method_38_code 16 = .ok (.iconst 1, 1) := by decide +kernel
theorem d_LogDisk_holdsBase_17 : decode prog_1_method_38_code 17 = .ok (.iadd, 1) := by decide +kernel
theorem d_LogDisk_holdsBase_18 : decode prog_1_method_38_code 18 = .ok (.if_icmp .ne 28, 3) := by decide +kernel
theorem d_LogDisk_holdsBase_21 : decode prog_1_method_38_code 21 = .ok (.aload_n 0, 1) := by decide +kernel
theorem d_LogDisk_holdsBase_22 : decode prog_1_method_38_code 22 = .ok (.getfield 11, 3) := by decide +kernel
theorem d_LogDisk_holdsBase_25 : decode prog_1_method_38_code 25 = .ok (.iload_n 1, 1) := by decide +kernel
theorem d_LogDisk_holdsBase_26 : decode prog_1_method_38_code 26 = .ok (.aaload, 1) := by decide +kernel
theorem d_LogDisk_holdsBase_27 : decode prog_1_method_38_code 27 = .ok (.invokevirtual 381, 3) := by decide +kernel
theorem d_LogDisk_holdsBase_30 : decode prog_1_method_38_code 30 = .ok (.aload_n 0, 1) := by decide +kernel
theorem d_LogDisk_holdsBase_31 : decode prog_1_method_38_code 31 = .ok (.getfield 43, 3) := by decide +kernel
theorem d_LogDisk_holdsBase_34 : decode prog_1_method_38_code 34 = .ok (.getfield 250, 3) := by decide +kernel
theorem d_LogDisk_holdsBase_37 : decode prog_1_method_38_code 37 = .ok (.if_icmp .ne 7, 3) := by decide +kernel
theorem d_LogDisk_holdsBase_40 : decode prog_1_method_38_code 40 = .ok (.iconst 1, 1) := by decide +kernel
theorem d_LogDisk_holdsBase_41 : decode prog_1_method_38_code 41 = .ok (.goto 4, 3) := by decide +kernel
theorem d_LogDisk_holdsBase_44 : decode prog_1_method_38_code 44 = .ok (.iconst 0, 1) := by decide +kernel
theorem d_LogDisk_holdsBase_45 : decode prog_1_method_38_code 45 = .ok (.ireturn, 1) := by decide +kernel
theorem d_LogDisk_holdsBase_46 : decode prog_1_method_38_code 46 = .ok (.iload_n 2, 1) := by decide +kernel
theorem d_LogDisk_holdsBase_47 : decode prog_1_method_38_code 47 = .ok (.aload_n 0, 1) := by decide +kernel
theorem d_LogDisk_holdsBase_48 : decode prog_1_method_38_code 48 = .ok (.getfield 43, 3) := by decide +kernel
theorem d_LogDisk_holdsBase_51 : decode prog_1_method_38_code 51 = .ok (.getfield 161, 3) := by decide +kernel
theorem d_LogDisk_holdsBase_54 : decode prog_1_method_38_code 54 = .ok (.if_icmp .lt 39, 3) := by decide +kernel
theorem d_LogDisk_holdsBase_57 : decode prog_1_method_38_code 57 = .ok (.aload_n 0, 1) := by decide +kernel
theorem d_LogDisk_holdsBase_58 : decode prog_1_method_38_code 58 = .ok (.getfield 57, 3) := by decide +kernel
theorem d_LogDisk_holdsBase_61 : decode prog_1_method_38_code 61 = .ok (.getfield 261, 3) := by decide +kernel
theorem d_LogDisk_holdsBase_64 : decode prog_1_method_38_code 64 = .ok (.aload_n 0, 1) := by decide +kernel
theorem d_LogDisk_holdsBase_65 : decode prog_1_method_38_code 65 = .ok (.getfield 57, 3) := by decide +kernel
theorem d_LogDisk_holdsBase_68 : decode prog_1_method_38_code 68 = .ok (.aload_n 0, 1) := by decide +kernel
theorem d_LogDisk_holdsBase_69 : decode prog_1_method_38_code 69 = .ok (.getfield 43, 3) := by decide +kernel
theorem d_LogDisk_holdsBase_72 : decode prog_1_method_38_code 72 = .ok (.getfield 161, 3) := by decide +kernel
theorem d_LogDisk_holdsBase_75 : decode prog_1_method_38_code 75 = .ok (.invokevirtual 206, 3) := by decide +kernel
theorem d_LogDisk_holdsBase_78 : decode prog_1_method_38_code 78 = .ok (.iaload, 1) := by decide +kernel
theorem d_LogDisk_holdsBase_79 : decode prog_1_method_38_code 79 = .ok (.aload_n 0, 1) := by decide +kernel
theorem d_LogDisk_holdsBase_80 : decode prog_1_method_38_code 80 = .ok (.getfield 43, 3) := by decide +kernel
theorem d_LogDisk_holdsBase_83 : decode prog_1_method_38_code 83 = .ok (.getfield 250, 3) := by decide +kernel
theorem d_LogDisk_holdsBase_86 : decode prog_1_method_38_code 86 = .ok (.if_icmp .ne 7, 3) := by decide +kernel
theorem d_LogDisk_holdsBase_89 : decode prog_1_method_38_code 89 = .ok (.iconst 1, 1) := by decide +kernel
theorem d_LogDisk_holdsBase_90 : decode prog_1_method_38_code 90 = .ok (.goto 4, 3) := by decide +kernel
theorem d_LogDisk_holdsBase_93 : decode prog_1_method_38_code 93 = .ok (.iconst 0, 1) := by decide +kernel
theorem d_LogDisk_holdsBase_94 : decode prog_1_method_38_code 94 = .ok (.ireturn, 1) := by decide +kernel
theorem d_LogDisk_pagesFor_0 : decode prog_1_method_39_code 0 = .ok (.iload_n 0, 1) := by decide +kernel
theorem d_LogDisk_pagesFor_1 : decode prog_1_method_39_code 1 = .ok (.bipush 64, 2) := by decide +kernel
theorem d_LogDisk_pagesFor_3 : decode prog_1_method_39_code 3 = .ok (.iadd, 1) := by decide +kernel
theorem d_LogDisk_pagesFor_4 : decode prog_1_method_39_code 4 = .ok (.iconst 1, 1) := by decide +kernel
theorem d_LogDisk_pagesFor_5 : decode prog_1_method_39_code 5 = .ok (.isub, 1) := by decide +kernel
theorem d_LogDisk_pagesFor_6 : decode prog_1_method_39_code 6 = .ok (.bipush 64, 2) := by decide +kernel
theorem d_LogDisk_pagesFor_8 : decode prog_1_method_39_code 8 = .ok (.idiv, 1) := by decide +kernel
theorem d_LogDisk_pagesFor_9 : decode prog_1_method_39_code 9 = .ok (.ireturn, 1) := by decide +kernel
theorem d_LogDisk_sumStep_0 : decode prog_1_method_40_code 0 = .ok (.iload_n 0, 1) := by decide +kernel
theorem d_LogDisk_sumStep_1 : decode prog_1_method_40_code 1 = .ok (.iload_n 1, 1) := by decide +kernel
theorem d_LogDisk_sumStep_2 : decode prog_1_method_40_code 2 = .ok (.ixor, 1) := by decide +kernel
theorem d_LogDisk_sumStep_3 : decode prog_1_method_40_code 3 = .ok (.istore_n 2, 1) := by decide +kernel
theorem d_LogDisk_sumStep_4 : decode prog_1_method_40_code 4 = .ok (.iload_n 2, 1) := by decide +kernel
theorem d_LogDisk_sumStep_5 : decode prog_1_method_40_code 5 = .ok (.iconst 4, 1) := by decide +kernel
theorem d_LogDisk_sumStep_6 : decode prog_1_method_40_code 6 = .ok (.iushr, 1) := by decide +kernel
theorem d_LogDisk_sumStep_7 : decode prog_1_method_40_code 7 = .ok (.getstatic 384, 3) := by decide +kernel
theorem d_LogDisk_sumStep_10 : decode prog_1_method_40_code 10 = .ok (.iload_n 2, 1) := by decide +kernel
theorem d_LogDisk_sumStep_11 : decode prog_1_method_40_code 11 = .ok (.bipush 15, 2) := by decide +kernel
theorem d_LogDisk_sumStep_13 : decode prog_1_method_40_code 13 = .ok (.iand, 1) := by decide +kernel
theorem d_LogDisk_sumStep_14 : decode prog_1_method_40_code 14 = .ok (.iaload, 1) := by decide +kernel
theorem d_LogDisk_sumStep_15 : decode prog_1_method_40_code 15 = .ok (.ixor, 1) := by decide +kernel
theorem d_LogDisk_sumStep_16 : decode prog_1_method_40_code 16 = .ok (.istore_n 2, 1) := by decide +kernel
theorem d_LogDisk_sumStep_17 : decode prog_1_method_40_code 17 = .ok (.iload_n 2, 1) := by decide +kernel
theorem d_LogDisk_sumStep_18 : decode prog_1_method_40_code 18 = .ok (.iconst 4, 1) := by decide +kernel
theorem d_LogDisk_sumStep_19 : decode prog_1_method_40_code 19 = .ok (.iushr, 1) := by decide +kernel
theorem d_LogDisk_sumStep_20 : decode prog_1_method_40_code 20 = .ok (.getstatic 384, 3) := by decide +kernel
theorem d_LogDisk_sumStep_23 : decode prog_1_method_40_code 23 = .ok (.iload_n 2, 1) := by decide +kernel
theorem d_LogDisk_sumStep_24 : decode prog_1_method_40_code 24 = .ok (.bipush 15, 2) := by decide +kernel
theorem d_LogDisk_sumStep_26 : decode prog_1_method_40_code 26 = .ok (.iand, 1) := by decide +kernel
theorem d_LogDisk_sumStep_27 : decode prog_1_method_40_code 27 = .ok (.iaload, 1) := by decide +kernel
theorem d_LogDisk_sumStep_28 : decode prog_1_method_40_code 28 = .ok (.ixor, 1) := by decide +kernel
theorem d_LogDisk_sumStep_29 : decode prog_1_method_40_code 29 = .ok (.ireturn, 1) := by decide +kernel
