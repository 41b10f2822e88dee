theorem d_Content_init_0 : decode prog_2_method_1_code 0 = .ok (.aload_n 0, 1) := by decide +kernel
theorem d_Content_init_1 : decode prog_2_method_1_code 1 = .ok (.invokespecial 1, 3) := by decide +kernel
theorem d_Content_init_4 : decode prog_2_method_1_code 4 = .ok (.aload_n 0, 1) := by decide +kernel
theorem d_Content_init_5 : decode prog_2_method_1_code 5 = .ok (.iload_n 1, 1) := by decide +kernel
theorem d_Content_init_6 : decode prog_2_method_1_code 6 = .ok (.newarray .int, 2) := by decide +kernel
theorem d_Content_init_8 : decode prog_2_method_1_code 8 = .ok (.putfield 7, 3) := by decide +kernel
theorem d_Content_init_11 : decode prog_2_method_1_code 11 = .ok (.return_, 1) := by decide +kernel
theorem d_Content_shorten_0 : decode prog_2_method_2_code 0 = .ok (.aload_n 0, 1) := by decide +kernel
theorem d_Content_shorten_1 : decode prog_2_method_2_code 1 = .ok (.getfield 13, 3) := by decide +kernel
theorem d_Content_shorten_4 : decode prog_2_method_2_code 4 = .ok (.invokestatic 17, 3) := by decide +kernel
theorem d_Content_shorten_7 : decode prog_2_method_2_code 7 = .ok (.istore_n 3, 1) := by decide +kernel
theorem d_Content_shorten_8 : decode prog_2_method_2_code 8 = .ok (.iload_n 1, 1) := by decide +kernel
theorem d_Content_shorten_9 : decode prog_2_method_2_code 9 = .ok (.invokestatic 17, 3) := by decide +kernel
theorem d_Content_shorten_12 : decode prog_2_method_2_code 12 = .ok (.istore 4, 2) := by decide +kernel
theorem d_Content_shorten_14 : decode prog_2_method_2_code 14 = .ok (.iload 4, 2) := by decide +kernel
theorem d_Content_shorten_16 : decode prog_2_method_2_code 16 = .ok (.iload_n 3, 1) := by decide +kernel
theorem d_Content_shorten_17 : decode prog_2_method_2_code 17 = .ok (.if_icmp .ge 30, 3) := by decide +kernel
theorem d_Content_shorten_20 : decode prog_2_method_2_code 20 = .ok (.iload 4, 2) := by decide +kernel
theorem d_Content_shorten_22 : decode prog_2_method_2_code 22 = .ok (.aload_n 0, 1) := by decide +kernel
theorem d_Content_shorten_23 : decode prog_2_method_2_code 23 = .ok (.getfield 7, 3) := by decide +kernel
theorem d_Content_shorten_26 : decode prog_2_method_2_code 26 = .ok (.arraylength, 1) := by decide +kernel
theorem d_Content_shorten_27 : decode prog_2_method_2_code 27 = .ok (.if_icmp .ge 20, 3) := by decide +kernel
theorem d_Content_shorten_30 : decode prog_2_method_2_code 30 = .ok (.aload_n 2, 1) := by decide +kernel
theorem d_Content_shorten_31 : decode prog_2_method_2_code 31 = .ok (.aload_n 0, 1) := by decide +kernel
theorem d_Content_shorten_32 : decode prog_2_method_2_code 32 = .ok (.getfield 7, 3) := by decide +kernel
theorem d_Content_shorten_35 : decode prog_2_method_2_code 35 = .ok (.iload 4, 2) := by decide +kernel
theorem d_Content_shorten_37 : decode prog_2_method_2_code 37 = .ok (.iaload, 1) := by decide +kernel
theorem d_Content_shorten_38 : decode prog_2_method_2_code 38 = .ok (.invokevirtual 23, 3) := by decide +kernel
theorem d_Content_shorten_41 : decode prog_2_method_2_code 41 = .ok (.iinc 4 1, 3) := by decide +kernel
theorem d_Content_shorten_44 : decode prog_2_method_2_code 44 = .ok (.goto (-30), 3) := by decide +kernel
theorem d_Content_shorten_47 : decode prog_2_method_2_code 47 = .ok (.aload_n 0, 1) := by decide +kernel
theorem d_Content_shorten_48 : decode prog_2_method_2_code 48 = .ok (.iload_n 1, 1) := by decide +kernel
theorem d_Content_shorten_49 : decode prog_2_method_2_code 49 = .ok (.putfield 13, 3) := by decide +kernel
theorem d_Content_shorten_52 : decode prog_2_method_2_code 52 = .ok (.return_, 1) := by decide +kernel
theorem d_Content_become_0 : decode prog_2_method_3_code 0 = .ok (.aload_n 0, 1) := by decide +kernel
theorem d_Content_become_1 : decode prog_2_method_3_code 1 = .ok (.iconst 0, 1) := by decide +kernel
theorem d_Content_become_2 : decode prog_2_method_3_code 2 = .ok (.aload_n 2, 1) := by decide +kernel
theorem d_Content_become_3 : decode prog_2_method_3_code 3 = .ok (.invokevirtual 29, 3) := by decide +kernel
theorem d_Content_become_6 : decode prog_2_method_3_code 6 = .ok (.aload_n 1, 1) := by decide +kernel
theorem d_Content_become_7 : decode prog_2_method_3_code 7 = .ok (.getfield 13, 3) := by decide +kernel
theorem d_Content_become_10 : decode prog_2_method_3_code 10 = .ok (.invokestatic 17, 3) := by decide +kernel
theorem d_Content_become_13 : decode prog_2_method_3_code 13 = .ok (.istore_n 3, 1) := by decide +kernel
theorem d_Content_become_14 : decode prog_2_method_3_code 14 = .ok (.iconst 0, 1) := by decide +kernel
theorem d_Content_become_15 : decode prog_2_method_3_code 15 = .ok (.istore 4, 2) := by decide +kernel
theorem d_Content_become_17 : decode prog_2_method_3_code 17 = .ok (.iload 4, 2) := by decide +kernel
theorem d_Content_become_19 : decode prog_2_method_3_code 19 = .ok (.iload_n 3, 1) := by decide +kernel
theorem d_Content_become_20 : decode prog_2_method_3_code 20 = .ok (.if_icmp .ge 44, 3) := by decide +kernel
theorem d_Content_become_23 : decode prog_2_method_3_code 23 = .ok (.iload 4, 2) := by decide +kernel
theorem d_Content_become_25 : decode prog_2_method_3_code 25 = .ok (.aload_n 0, 1) := by decide +kernel
theorem d_Content_become_26 : decode prog_2_method_3_code 26 = .ok (.getfield 7, 3) := by decide +kernel
theorem d_Content_become_29 : decode prog_2_method_3_code 29 = .ok (.arraylength, 1) := by decide +kernel
theorem d_Content_become_30 : decode prog_2_method_3_code 30 = .ok (.if_icmp .ge 34, 3) := by decide +kernel
theorem d_Content_become_33 : decode prog_2_method_3_code 33 = .ok (.aload_n 0, 1) := by decide +kernel
theorem d_Content_become_34 : decode prog_2_method_3_code 34 = .ok (.getfield 7, 3) := by decide +kernel
theorem d_Content_become_37 : decode prog_2_method_3_code 37 = .ok (.iload 4, 2) := by decide +kernel
theorem d_Content_become_39 : decode prog_2_method_3_code 39 = .ok (.aload_n 1, 1) := by decide +kernel
theorem d_Content_become_40 : decode prog_2_method_3_code 40 = .ok (.getfield 7, 3) := by decide +kernel
theorem d_Content_become_43 : decode prog_2_method_3_code 43 = .ok (.iload 4, 2) := by decide +kernel
theorem d_Content_become_45 : decode prog_2_method_3_code 45 = .ok (.iaload, 1) := by decide +kernel
theorem d_Content_become_46 : decode prog_2_method_3_code 46 = .ok (.iastore, 1) := by decide +kernel
theorem d_Content_become_47 : decode prog_2_method_3_code 47 = .ok (.aload_n 2, 1) := by decide +kernel
theorem d_Content_become_48 : decode prog_2_method_3_code 48 = .ok (.aload_n 0, 1) := by decide +kernel
theorem d_Content_become_49 : decode prog_2_method_3_code 49 = .ok (.getfield 7, 3) := by decide +kernel
theorem d_Content_become_52 : decode prog_2_method_3_code 52 = .ok (.iload 4, 2) := by decide +kernel
theorem d_Content_become_54 : decode prog_2_method_3_code 54 = .ok (.iaload, 1) := by decide +kernel
theorem d_Content_become_55 : decode prog_2_method_3_code 55 = .ok (.invokevirtual 33, 3) := by decide +kernel
theorem d_Content_become_58 : decode prog_2_method_3_code 58 = .ok (.iinc 4 1, 3) := by decide +kernel
theorem d_Content_become_61 : decode prog_2_method_3_code 61 = .ok (.goto (-44), 3) := by decide +kernel
theorem d_Content_become_64 : decode prog_2_method_3_code 64 = .ok (.aload_n 0, 1) := by decide +kernel
theorem d_Content_become_65 : decode prog_2_method_3_code 65 = .ok (.aload_n 1, 1) := by decide +kernel
theorem d_Content_become_66 : decode prog_2_method_3_code 66 = .ok (.getfield 13, 3) := by decide +kernel
theorem d_Content_become_69 : decode prog_2_method_3_code 69 = .ok (.putfield 13, 3) := by decide +kernel
theorem d_Content_become_72 : decode prog_2_method_3_code 72 = .ok (.aload_n 0, 1) := by decide +kernel
theorem d_Content_become_73 : decode prog_2_method_3_code 73 = .ok (.aload_n 1, 1) := by decide +kernel
theorem d_Content_become_74 : decode prog_2_method_3_code 74 = .ok (.getfield 36, 3) := by decide +kernel
theorem d_Content_become_77 : decode prog_2_method_3_code 77 = .ok (.putfield 36, 3) := by decide +kernel
theorem d_Content_become_80 : decode prog_2_method_3_code 80 = .ok (.return_, 1) := by decide +kernel
theorem d_DiskFile_init_0 : decode prog_3_method_1_code 0 = .ok (.aload_n 0, 1) := by decide +kernel
theorem d_DiskFile_init_1 : decode prog_3_method_1_code 1 = .ok (.invokespecial 3, 3) := by decide +kernel
theorem d_DiskFile_init_4 : decode prog_3_method_1_code 4 = .ok (.aload_n 0, 1) := by decide +kernel
theorem d_DiskFile_init_5 : decode prog_3_method_1_code 5 = .ok (.aload_n 1, 1) := by decide +kernel
theorem d_DiskFile_init_6 : decode prog_3_method_1_code 6 = .ok (.putfield 9, 3) := by decide +kernel
theorem d_DiskFile_init_9 : decode prog_3_method_1_code 9 = .ok (.aload_n 0, 1) := by decide +kernel
theorem d_DiskFile_init_10 : decode prog_3_method_1_code 10 = .ok (.new 15, 3) := by decide +kernel
theorem d_DiskFile_init_13 : decode prog_3_method_1_code 13 = .ok (.dup, 1) := by decide +kernel
theorem d_DiskFile_init_14 : decode prog_3_method_1_code 14 = .ok (.iload_n 2, 1) := by decide +kernel
theorem d_DiskFile_init_15 : decode prog_3_method_1_code 15 = .ok (.invokespecial 17, 3) := by decide +kernel
theorem d_DiskFile_init_18 : decode prog_3_method_1_code 18 = .ok (.putfield 20, 3) := by decide +kernel
theorem d_DiskFile_init_21 : decode prog_3_method_1_code 21 = .ok (.aload_n 0, 1) := by decide +kernel
theorem d_DiskFile_init_22 : decode prog_3_method_1_code 22 = .ok (.new 15, 3) := by decide +kernel
theorem d_DiskFile_init_25 : decode prog_3_method_1_code 25 = .ok (.dup, 1) := by decide +kernel
theorem d_DiskFile_init_26 : decode prog_3_method_1_code 26 = .ok (.iload_n 2, 1) := by decide +kernel
theorem d_DiskFile_init_27 : decode prog_3_method_1_code 27 = .ok (.invokespecial 17, 3) := by decide +kernel
theorem d_DiskFile_init_30 : decode prog_3_method_1_code 30 = .ok (.putfield 24, 3) := by decide +kernel
theorem d_DiskFile_init_33 : decode prog_3_method_1_code 33 = .ok (.return_, 1) := by decide +kernel
theorem d_DiskFile_isShared_0 : decode prog_3_method_2_code 0 = .ok (.iload_n 1, 1) := by decide +kernel
theorem d_DiskFile_isShared_1 : decode prog_3_method_2_code 1 = .ok (.ifCond .lt 56, 3) := by decide +kernel
theorem d_DiskFile_isShared_4 : decode prog_3_method_2_code 4 = .ok (.iload_n 1, 1) := by decide +kernel
theorem d_DiskFile_isShared_5 : decode prog_3_method_2_code 5 = .ok (.aload_n 0, 1) := by decide +kernel
theorem d_DiskFile_isShared_6 : decode prog_3_method_2_code 6 = .ok (.getfield 20, 3) := by decide +kernel
theorem d_DiskFile_isShared_9 : decode prog_3_method_2_code 9 = .ok (.getfield 27, 3) := by decide +kernel
theorem d_DiskFile_isShared_12 : decode prog_3_method_2_code 12 = .ok (.invokestatic 31, 3) := by decide +kernel
theorem d_DiskFile_isShared_15 : decode prog_3_method_2_code 15 = .ok (.if_icmp .ge 42, 3) := by decide +kernel
theorem d_DiskFile_isShared_18 : decode prog_3_method_2_code 18 = .ok (.iload_n 1, 1) := by decide +kernel
theorem d_DiskFile_isShared_19 : decode prog_3_method_2_code 19 = .ok (.aload_n 0, 1) := by decide +kernel
theorem d_DiskFile_isShared_20 : decode prog_3_method_2_code 20 = .ok (.getfield 24, 3) := by decide +kernel
theorem d_DiskFile_isShared_23 : decode prog_3_method_2_code 23 = .ok (.getfield 27, 3) := by decide +kernel
theorem d_DiskFile_isShared_26 : decode prog_3_method_2_code 26 = .ok (.invokestatic 31, 3) := by decide +kernel
theorem d_DiskFile_isShared_29 : decode prog_3_method_2_code 29 = .ok (.if_icmp .ge 28, 3) := by decide +kernel
theorem d_DiskFile_isShared_32 : decode prog_3_method_2_code 32 = .ok (.aload_n 0, 1) := by decide +kernel
theorem d_DiskFile_isShared_33 : decode prog_3_method_2_code 33 = .ok (.getfield 20, 3) := by decide +kernel
theorem d_DiskFile_isShared_36 : decode prog_3_method_2_code 36 = .ok (.getfield 35, 3) := by decide +kernel
theorem d_DiskFile_isShared_39 : decode prog_3_method_2_code 39 = .ok (.iload_n 1, 1) := by decide +kernel
theorem d_DiskFile_isShared_40 : decode prog_3_method_2_code 40 = .ok (.iaload, 1) := by decide +kernel
theorem d_DiskFile_isShared_41 : decode prog_3_method_2_code 41 = .ok (.aload_n 0, 1) := by decide +kernel
theorem d_DiskFile_isShared_42 : decode prog_3_method_2_code 42 = .ok (.getfield 24, 3) := by decide +kernel
theorem d_DiskFile_isShared_45 : decode prog_3_method_2_code 45 = .ok (.getfield 35, 3) := by decide +kernel
theorem d_DiskFile_isShared_48 : decode prog_3_method_2_code 48 = .ok (.iload_n 1, 1) := by decide +kernel
theorem d_DiskFile_isShared_49 : decode prog_3_method_2_code 49 = .ok (.iaload, 1) := by decide +kernel
theorem d_DiskFile_isShared_50 : decode prog_3_method_2_code 50 = .ok (.if_icmp .ne 7, 3) := by decide +kernel
theorem d_DiskFile_isShared_53 : decode prog_3_method_2_code 53 = .ok (.iconst 1, 1) := by decide +kernel
theorem d_DiskFile_isShared_54 : decode prog_3_method_2_code 54 = .ok (.goto 4, 3) := by decide +kernel
theorem d_DiskFile_isShared_57 : decode prog_3_method_2_code 57 = .ok (.iconst 0, 1) := by decide +kernel
theorem d_DiskFile_isShared_58 : decode prog_3_method_2_code 58 = .ok (.ireturn, 1) := by decide +kernel
theorem d_DiskFile_mustCopyLastPage_0 : decode prog_3_method_3_code 0 = .ok (.aload_n 0, 1) := by decide +kernel
theorem d_DiskFile_mustCopyLastPage_1 : decode prog_3_method_3_code 1 = .ok (.getfield 20, 3) := by decide +kernel
theorem d_DiskFile_mustCopyLastPage_4 : decode prog_3_method_3_code 4 = .ok (.getfield 27, 3) := by decide +kernel
theorem d_DiskFile_mustCopyLastPage_7 : decode prog_3_method_3_code 7 = .ok (.bipush 64, 2) := by decide +kernel
theorem d_DiskFile_mustCopyLastPage_9 : decode prog_3_method_3_code 9 = .ok (.irem, 1) := by decide +kernel
theorem d_DiskFile_mustCopyLastPage_10 : decode prog_3_method_3_code 10 = .ok (.ifCond .eq 24, 3) := by decide +kernel
theorem d_DiskFile_mustCopyLastPage_13 : decode prog_3_method_3_code 13 = .ok (.aload_n 0, 1) := by decide +kernel
theorem d_DiskFile_mustCopyLastPage_14 : decode prog_3_method_3_code 14 = .ok (.aload_n 0, 1) := by decide +kernel
theorem d_DiskFile_mustCopyLastPage_15 : decode prog_3_method_3_code 15 = .ok (.getfield 20, 3) := by decide +kernel
theorem d_DiskFile_mustCopyLastPage_18 : decode prog_3_method_3_code 18 = .ok (.getfield 27, 3) := by decide +kernel
theorem d_DiskFile_mustCopyLastPage_21 : decode prog_3_method_3_code 21 = .ok (.bipush 64, 2) := by decide +kernel
theorem d_DiskFile_mustCopyLastPage_23 : decode prog_3_method_3_code 23 = .ok (.idiv, 1) := by decide +kernel
theorem d_DiskFile_mustCopyLastPage_24 : decode prog_3_method_3_code 24 = .ok (.invokevirtual 39, 3) := by decide +kernel
theorem d_DiskFile_mustCopyLastPage_27 : decode prog_3_method_3_code 27 = .ok (.ifCond .eq 7, 3) := by decide +kernel
theorem d_DiskFile_mustCopyLastPage_30 : decode prog_3_method_3_code 30 = .ok (.iconst 1, 1) := by decide +kernel
theorem d_DiskFile_mustCopyLastPage_31 : decode prog_3_method_3_code 31 = .ok (.goto 4, 3) := by decide +kernel
theorem d_DiskFile_mustCopyLastPage_34 : decode prog_3_method_3_code 34 = .ok (.iconst 0, 1) := by decide +kernel
theorem d_DiskFile_mustCopyLastPage_35 : decode prog_3_method_3_code 35 = .ok (.ireturn, 1) := by decide +kernel
theorem d_DiskFile_canExtend_0 : decode prog_3_method_4_code 0 = .ok (.aload_n 0, 1) := by decide +kernel
theorem d_DiskFile_canExtend_1 : decode prog_3_method_4_code 1 = .ok (.getfield 20, 3) := by decide +kernel
theorem d_DiskFile_canExtend_4 : decode prog_3_method_4_code 4 = .ok (.getfield 27, 3) := by decide +kernel
theorem d_DiskFile_canExtend_7 : decode prog_3_method_4_code 7 = .ok (.iload_n 1, 1) := by decide +kernel
theorem d_DiskFile_canExtend_8 : decode prog_3_method_4_code 8 = .ok (.iadd, 1) := by decide +kernel
theorem d_DiskFile_canExtend_9 : decode prog_3_method_4_code 9 = .ok (.invokestatic 31, 3) := by decide +kernel
theorem d_DiskFile_canExtend_12 : decode prog_3_method_4_code 12 = .ok (.istore_n 2, 1) := by decide +kernel
theorem d_DiskFile_canExtend_13 : decode prog_3_method_4_code 13 = .ok (.iload_n 2, 1) := by decide +kernel
theorem d_DiskFile_canExtend_14 : decode prog_3_method_4_code 14 = .ok (.aload_n 0, 1) := by decide +kernel
theorem d_DiskFile_canExtend_15 : decode prog_3_method_4_code 15 = .ok (.getfield 20, 3) := by decide +kernel
theorem d_DiskFile_canExtend_18 : decode prog_3_method_4_code 18 = .ok (.getfield 27, 3) := by decide +kernel
theorem d_DiskFile_canExtend_21 : decode prog_3_method_4_code 21 = .ok (.invokestatic 31, 3) := by decide +kernel
theorem d_DiskFile_canExtend_24 : decode prog_3_method_4_code 24 = .ok (.isub, 1) := by decide +kernel
theorem d_DiskFile_canExtend_25 : decode prog_3_method_4_code 25 = .ok (.aload_n 0, 1) := by decide +kernel
theorem d_DiskFile_canExtend_26 : decode prog_3_method_4_code 26 = .ok (.invokevirtual 43, 3) := by decide +kernel
theorem d_DiskFile_canExtend_29 : decode prog_3_method_4_code 29 = .ok (.ifCond .eq 7, 3) := by decide +kernel
theorem d_DiskFile_canExtend_32 : decode prog_3_method_4_code 32 = .ok (.iconst 1, 1) := by decide +kernel
theorem d_DiskFile_canExtend_33 : decode prog_3_method_4_code 33 = .ok (.goto 4, 3) := by decide +kernel
theorem d_DiskFile_canExtend_36 : decode prog_3_method_4_code 36 = .ok (.iconst 0, 1) := by decide +kernel
theorem d_DiskFile_canExtend_37 : decode prog_3_method_4_code 37 = .ok (.iadd, 1) := by decide +kernel
theorem d_DiskFile_canExtend_38 : decode prog_3_method_4_code 38 = .ok (.istore_n 3, 1) := by decide +kernel
theorem d_DiskFile_canExtend_39 : decode prog_3_method_4_code 39 = .ok (.iload_n 2, 1) := by decide +kernel
theorem d_DiskFile_canExtend_40 : decode prog_3_method_4_code 40 = .ok (.sipush 400, 3) := by decide +kernel
theorem d_DiskFile_canExtend_43 : decode prog_3_method_4_code 43 = .ok (.if_icmp .gt 18, 3) := by decide +kernel
theorem d_DiskFile_canExtend_46 : decode prog_3_method_4_code 46 = .ok (.iload_n 3, 1) := by decide +kernel
theorem d_DiskFile_canExtend_47 : decode prog_3_method_4_code 47 = .ok (.aload_n 0, 1) := by decide +kernel
theorem d_DiskFile_canExtend_48 : decode prog_3_method_4_code 48 = .ok (.getfield 9, 3) := by decide +kernel
theorem d_DiskFile_canExtend_51 : decode prog_3_method_4_code 51 = .ok (.getfield 47, 3) := by decide +kernel
theorem d_DiskFile_canExtend_54 : decode prog_3_method_4_code 54 = .ok (.if_icmp .gt 7, 3) := by decide +kernel
theorem d_DiskFile_canExtend_57 : decode prog_3_method_4_code 57 = .ok (.iconst 1, 1) := by decide +kernel
theorem d_DiskFile_canExtend_58 : decode prog_3_method_4_code 58 = .ok (.goto 4, 3) := by decide +kernel
theorem d_DiskFile_canExtend_61 : decode prog_3_method_4_code 61 = .ok (.iconst 0, 1) := by decide +kernel
theorem d_DiskFile_canExtend_62 : decode prog_3_method_4_code 62 = .ok (.ireturn, 1) := by decide +kernel
theorem d_DiskFile_canRewrite_0 : decode prog_3_method_5_code 0 = .ok (.iconst 0, 1) := by decide +kernel
theorem d_DiskFile_canRewrite_1 : decode prog_3_method_5_code 1 = .ok (.istore_n 2, 1) := by decide +kernel
theorem d_DiskFile_canRewrite_2 : decode prog_3_method_5_code 2 = .ok (.aload_n 0, 1) := by decide +kernel
theorem d_DiskFile_canRewrite_3 : decode prog_3_method_5_code 3 = .ok (.getfield 20, 3) := by decide +kernel
theorem d_DiskFile_canRewrite_6 : decode prog_3_method_5_code 6 = .ok (.getfield 27, 3) := by decide +kernel
theorem d_DiskFile_canRewrite_9 : decode prog_3_method_5_code 9 = .ok (.invokestatic 31, 3) := by decide +kernel
theorem d_DiskFile_canRewrite_12 : decode prog_3_method_5_code 12 = .ok (.istore_n 3, 1) := by decide +kernel
theorem d_DiskFile_canRewrite_13 : decode prog_3_method_5_code 13 = .ok (.iconst 0, 1) := by decide +kernel
theorem d_DiskFile_canRewrite_14 : decode prog_3_method_5_code 14 = .ok (.istore 4, 2) := by decide +kernel
theorem d_DiskFile_canRewrite_16 : decode prog_3_method_5_code 16 = .ok (.iload 4, 2) := by decide +kernel
theorem d_DiskFile_canRewrite_18 : decode prog_3_method_5_code 18 = .ok (.iload_n 3, 1) := by decide +kernel
theorem d_DiskFile_canRewrite_19 : decode prog_3_method_5_code 19 = .ok (.if_icmp .ge 26, 3) := by decide +kernel
theorem d_DiskFile_canRewrite_22 : decode prog_3_method_5_code 22 = .ok (.iload_n 2, 1) := by decide +kernel
theorem d_DiskFile_canRewrite_23 : decode prog_3_method_5_code 23 = .ok (.aload_n 0, 1) := by decide +kernel
theorem d_DiskFile_canRewrite_24 : decode prog_3_method_5_code 24 = .ok (.iload 4, 2) := by decide +kernel
theorem d_DiskFile_canRewrite_26 : decode prog_3_method_5_code 26 = .ok (.invokevirtual 39, 3) := by decide +kernel
theorem d_DiskFile_canRewrite_29 : decode prog_3_method_5_code 29 = .ok (.ifCond .eq 7, 3) := by decide +kernel
theorem d_DiskFile_canRewrite_32 : decode prog_3_method_5_code 32 = .ok (.iconst 0, 1) := by decide +kernel
theorem d_DiskFile_canRewrite_33 : decode prog_3_method_5_code 33 = .ok (.goto 4, 3) := by decide +kernel
theorem d_DiskFile_canRewrite_36 : decode prog_3_method_5_code 36 = .ok (.iconst 1, 1) := by decide +kernel
theorem d_DiskFile_canRewrite_37 : decode prog_3_method_5_code 37 = .ok (.iadd, 1) := by decide +kernel
theorem d_DiskFile_canRewrite_38 : decode prog_3_method_5_code 38 = .ok (.istore_n 2, 1) := by decide +kernel
theorem d_DiskFile_canRewrite_39 : decode prog_3_method_5_code 39 = .ok (.iinc 4 1, 3) := by decide +kernel
theorem d_DiskFile_canRewrite_42 : decode prog_3_method_5_code 42 = .ok (.goto (-26), 3) := by decide +kernel
theorem d_DiskFile_canRewrite_45 : decode prog_3_method_5_code 45 = .ok (.iload_n 1, 1) := by decide +kernel
theorem d_DiskFile_canRewrite_46 : decode prog_3_method_5_code 46 = .ok (.invokestatic 31, 3) := by decide +kernel
theorem d_DiskFile_canRewrite_49 : decode prog_3_method_5_code 49 = .ok (.istore 4, 2) := by decide +kernel
theorem d_DiskFile_canRewrite_51 : decode prog_3_method_5_code 51 = .ok (.iload 4, 2) := by decide +kernel
theorem d_DiskFile_canRewrite_53 : decode prog_3_method_5_code 53 = .ok (.sipush 400, 3) := by decide +kernel
theorem d_DiskFile_canRewrite_56 : decode prog_3_method_5_code 56 = .ok (.if_icmp .gt 21, 3) := by decide +kernel
theorem d_DiskFile_canRewrite_59 : decode prog_3_method_5_code 59 = .ok (.iload 4, 2) := by decide +kernel
theorem d_DiskFile_canRewrite_61 : decode prog_3_method_5_code 61 = .ok (.aload_n 0, 1) := by decide +kernel
theorem d_DiskFile_canRewrite_62 : decode prog_3_method_5_code 62 = .ok (.getfield 9, 3) := by decide +kernel
theorem d_DiskFile_canRewrite_65 : decode prog_3_method_5_code 65 = .ok (.getfield 47, 3) := by decide +kernel
theorem d_DiskFile_canRewrite_68 : decode prog_3_method_5_code 68 = .ok (.iload_n 2, 1) := by decide +kernel
theorem d_DiskFile_canRewrite_69 : decode prog_3_method_5_code 69 = .ok (.iadd, 1) := by decide +kernel
theorem d_DiskFile_canRewrite_70 : decode prog_3_method_5_code 70 = .ok (.if_icmp .gt 7, 3) := by decide +kernel
theorem d_DiskFile_canRewrite_73 : decode prog_3_method_5_code 73 = .ok (.iconst 1, 1) := by decide +kernel
theorem d_DiskFile_canRewrite_74 : decode prog_3_method_5_code 74 = .ok (.goto 4, 3) := by decide +kernel
theorem d_DiskFile_canRewrite_77 : decode prog_3_method_5_code 77 = .ok (.iconst 0, 1) := by decide +kernel
theorem d_DiskFile_canRewrite_78 : decode prog_3_method_5_code 78 = .ok (.ireturn, 1) := by decide +kernel
theorem d_DiskFile_write_0 : decode prog_3_method_6_code 0 = .ok (.iload_n 2, 1) := by decide +kernel
theorem d_DiskFile_write_1 : decode prog_3_method_6_code 1 = .ok (.ifCond .le 14, 3) := by decide +kernel
theorem d_DiskFile_write_4 : decode prog_3_method_6_code 4 = .ok (.aload_n 0, 1) := by decide +kernel
theorem d_DiskFile_write_5 : decode prog_3_method_6_code 5 = .ok (.invokevirtual 43, 3) := by decide +kernel
theorem d_DiskFile_write_8 : decode prog_3_method_6_code 8 = .ok (.ifCond .eq 7, 3) := by decide +kernel
theorem d_DiskFile_write_11 : decode prog_3_method_6_code 11 = .ok (.aload_n 0, 1) := by decide +kernel
theorem d_DiskFile_write_12 : decode prog_3_method_6_code 12 = .ok (.invokevirtual 52, 3) := by decide +kernel
theorem d_DiskFile_write_15 : decode prog_3_method_6_code 15 = .ok (.aload_n 0, 1) := by decide +kernel
theorem d_DiskFile_write_16 : decode prog_3_method_6_code 16 = .ok (.getfield 20, 3) := by decide +kernel
theorem d_DiskFile_write_19 : decode prog_3_method_6_code 19 = .ok (.iconst 1, 1) := by decide +kernel
theorem d_DiskFile_write_20 : decode prog_3_method_6_code 20 = .ok (.putfield 55, 3) := by decide +kernel
theorem d_DiskFile_write_23 : decode prog_3_method_6_code 23 = .ok (.iconst 0, 1) := by decide +kernel
theorem d_DiskFile_write_24 : decode prog_3_method_6_code 24 = .ok (.istore_n 3, 1) := by decide +kernel
theorem d_DiskFile_write_25 : decode prog_3_method_6_code 25 = .ok (.iconst 0, 1) := by decide +kernel
theorem d_DiskFile_write_26 : decode prog_3_method_6_code 26 = .ok (.istore 4, 2) := by decide +kernel
theorem d_DiskFile_write_28 : decode prog_3_method_6_code 28 = .ok (.iload 4, 2) := by decide +kernel
theorem d_DiskFile_write_30 : decode prog_3_method_6_code 30 = .ok (.sipush 400, 3) := by decide +kernel
theorem d_DiskFile_write_33 : decode prog_3_method_6_code 33 = .ok (.if_icmp .gt 136, 3) := by decide +kernel
theorem d_DiskFile_write_36 : decode prog_3_method_6_code 36 = .ok (.iload_n 3, 1) := by decide +kernel
theorem d_DiskFile_write_37 : decode prog_3_method_6_code 37 = .ok (.iload_n 2, 1) := by decide +kernel
theorem d_DiskFile_write_38 : decode prog_3_method_6_code 38 = .ok (.if_icmp .ge 131, 3) := by decide +kernel
theorem d_DiskFile_write_41 : decode prog_3_method_6_code 41 = .ok (.aload_n 0, 1) := by decide +kernel
theorem d_DiskFile_write_42 : decode prog_3_method_6_code 42 = .ok (.getfield 20, 3) := by decide +kernel
theorem d_DiskFile_write_45 : decode prog_3_method_6_code 45 = .ok (.getfield 27, 3) := by decide +kernel
theorem d_DiskFile_write_48 : decode prog_3_method_6_code 48 = .ok (.bipush 64, 2) := by decide +kernel
theorem d_DiskFile_write_50 : decode prog_3_method_6_code 50 = .ok (.idiv, 1) := by decide +kernel
theorem d_DiskFile_write_51 : decode prog_3_method_6_code 51 = .ok (.istore 5, 2) := by decide +kernel
theorem d_DiskFile_write_53 : decode prog_3_method_6_code 53 = .ok (.aload_n 0, 1) := by decide +kernel
theorem d_DiskFile_write_54 : decode prog_3_method_6_code 54 = .ok (.getfield 20, 3) := by decide +kernel
theorem d_DiskFile_write_57 : decode prog_3_method_6_code 57 = .ok (.getfield 27, 3) := by decide +kernel
theorem d_DiskFile_write_60 : decode prog_3_method_6_code 60 = .ok (.bipush 64, 2) := by decide +kernel
theorem d_DiskFile_write_62 : decode prog_3_method_6_code 62 = .ok (.irem, 1) := by decide +kernel
theorem d_DiskFile_write_63 : decode prog_3_method_6_code 63 = .ok (.istore 6, 2) := by decide +kernel
theorem d_DiskFile_write_65 : decode prog_3_method_6_code 65 = .ok (.iload 5, 2) := by decide +kernel
theorem d_DiskFile_write_67 : decode prog_3_method_6_code 67 = .ok (.aload_n 0, 1) := by decide +kernel
theorem d_DiskFile_write_68 : decode prog_3_method_6_code 68 = .ok (.getfield 20, 3) := by decide +kernel
theorem d_DiskFile_write_71 : decode prog_3_method_6_code 71 = .ok (.getfield 35, 3) := by decide +kernel
theorem d_DiskFile_write_74 : decode prog_3_method_6_code 74 = .ok (.arraylength, 1) := by decide +kernel
theorem d_DiskFile_write_75 : decode prog_3_method_6_code 75 = .ok (.if_icmp .lt 4, 3) := by decide +kernel
theorem d_DiskFile_write_78 : decode prog_3_method_6_code 78 = .ok (.return_, 1) := by decide +kernel
theorem d_DiskFile_write_79 : decode prog_3_method_6_code 79 = .ok (.iload 6, 2) := by decide +kernel
theorem d_DiskFile_write_81 : decode prog_3_method_6_code 81 = .ok (.ifCond .ne 20, 3) := by decide +kernel
theorem d_DiskFile_write_84 : decode prog_3_method_6_code 84 = .ok (.aload_n 0, 1) := by decide +kernel
theorem d_DiskFile_write_85 : decode prog_3_method_6_code 85 = .ok (.getfield 20, 3) := by decide +kernel
theorem d_DiskFile_write_88 : decode prog_3_method_6_code 88 = .ok (.getfield 35, 3) := by decide +kernel
theorem d_DiskFile_write_91 : decode prog_3_method_6_code 91 = .ok (.iload 5, 2) := by decide +kernel
theorem d_DiskFile_write_93 : decode prog_3_method_6_code 93 = .ok (.aload_n 0, 1) := by decide +kernel
theorem d_DiskFile_write_94 : decode prog_3_method_6_code 94 = .ok (.getfield 9, 3) := by decide +kernel
theorem d_DiskFile_write_97 : decode prog_3_method_6_code 97 = .ok (.invokevirtual 59, 3) := by decide +kernel
theorem d_DiskFile_write_100 : decode prog_3_method_6_code 100 = .ok (.iastore, 1) := by decide +kernel
theorem d_DiskFile_write_101 : decode prog_3_method_6_code 101 = .ok (.bipush 64, 2) := by decide +kernel
theorem d_DiskFile_write_103 : decode prog_3_method_6_code 103 = .ok (.iload 6, 2) := by decide +kernel
theorem d_DiskFile_write_105 : decode prog_3_method_6_code 105 = .ok (.isub, 1) := by decide +kernel
theorem d_DiskFile_write_106 : decode prog_3_method_6_code 106 = .ok (.iload_n 2, 1) := by decide +kernel
theorem d_DiskFile_write_107 : decode prog_3_method_6_code 107 = .ok (.iload_n 3, 1) := by decide +kernel
theorem d_DiskFile_write_108 : decode prog_3_method_6_code 108 = .ok (.isub, 1) := by decide +kernel
theorem d_DiskFile_write_109 : decode prog_3_method_6_code 109 = .ok (.invokestatic 63, 3) := by decide +kernel
theorem d_DiskFile_write_112 : decode prog_3_method_6_code 112 = .ok (.istore 7, 2) := by decide +kernel
theorem d_DiskFile_write_114 : decode prog_3_method_6_code 114 = .ok (.aload_n 1, 1) := by decide +kernel
theorem d_DiskFile_write_115 : decode prog_3_method_6_code 115 = .ok (.iload_n 3, 1) := by decide +kernel
theorem d_DiskFile_write_116 : decode prog_3_method_6_code 116 = .ok (.aload_n 0, 1) := by decide +kernel
theorem d_DiskFile_write_117 : decode prog_3_method_6_code 117 = .ok (.getfield 9, 3) := by decide +kernel
theorem d_DiskFile_write_120 : decode prog_3_method_6_code 120 = .ok (.getfield 69, 3) := by decide +kernel
theorem d_DiskFile_write_123 : decode prog_3_method_6_code 123 = .ok (.aload_n 0, 1) := by decide +kernel
theorem d_DiskFile_write_124 : decode prog_3_method_6_code 124 = .ok (.getfield 20, 3) := by decide +kernel
theorem d_DiskFile_write_127 : decode prog_3_method_6_code 127 = .ok (.getfield 35, 3) := by decide +kernel
theorem d_DiskFile_write_130 : decode prog_3_method_6_code 130 = .ok (.iload 5, 2) := by decide +kernel
theorem d_DiskFile_write_132 : decode prog_3_method_6_code 132 = .ok (.iaload, 1) := by decide +kernel
theorem d_DiskFile_write_133 : decode prog_3_method_6_code 133 = .ok (.bipush 64, 2) := by decide +kernel
theorem d_DiskFile_write_135 : decode prog_3_method_6_code 135 = .ok (.imul, 1) := by decide +kernel
theorem d_DiskFile_write_136 : decode prog_3_method_6_code 136 = .ok (.iload 6, 2) := by decide +kernel
theorem d_DiskFile_write_138 : decode prog_3_method_6_code 138 = .ok (.iadd, 1) := by decide +kernel
theorem d_DiskFile_write_139 : decode prog_3_method_6_code 139 = .ok (.iload 7, 2) := by decide +kernel
theorem d_DiskFile_write_141 : decode prog_3_method_6_code 141 = .ok (.invokestatic 73, 3) := by decide +kernel
theorem d_DiskFile_write_144 : decode prog_3_method_6_code 144 = .ok (.iload_n 3, 1) := by decide +kernel
theorem d_DiskFile_write_145 : decode prog_3_method_6_code 145 = .ok (.iload 7, 2) := by decide +kernel
theorem d_DiskFile_write_147 : decode prog_3_method_6_code 147 = .ok (.iadd, 1) := by decide +kernel
theorem d_DiskFile_write_148 : decode prog_3_method_6_code 148 = .ok (.istore_n 3, 1) := by decide +kernel
theorem d_DiskFile_write_149 : decode prog_3_method_6_code 149 = .ok (.aload_n 0, 1) := by decide +kernel
theorem d_DiskFile_write_150 : decode prog_3_method_6_code 150 = .ok (.getfield 20, 3) := by decide +kernel
theorem d_DiskFile_write_153 : decode prog_3_method_6_code 153 = .ok (.dup, 1) := by decide +kernel
theorem d_DiskFile_write_154 : decode prog_3_method_6_code 154 = .ok (.getfield 27, 3) := by decide +kernel
theorem d_DiskFile_write_157 : decode prog_3_method_6_code 157 = .ok (.iload 7, 2) := by decide +kernel
theorem d_DiskFile_write_159 : decode prog_3_method_6_code 159 = .ok (.iadd, 1) := by decide +kernel
theorem d_DiskFile_write_160 : decode prog_3_method_6_code 160 = .ok (.putfield 27, 3) := by decide +kernel
theorem d_DiskFile_write_163 : decode prog_3_method_6_code 163 = .ok (.iinc 4 1, 3) := by decide +kernel
theorem d_DiskFile_write_166 : decode prog_3_method_6_code 166 = .ok (.goto (-138), 3) := by decide +kernel
theorem d_DiskFile_write_169 : decode prog_3_method_6_code 169 = .ok (.return_, 1) := by decide +kernel
theorem d_DiskFile_copyLastPage_0 : decode prog_3_method_7_code 0 = .ok (.aload_n 0, 1) := by decide +kernel
theorem d_DiskFile_copyLastPage_1 : decode prog_3_method_7_code 1 = .ok (.getfield 20, 3) := by decide +kernel
theorem d_DiskFile_copyLastPage_4 : decode prog_3_method_7_code 4 = .ok (.getfield 27, 3) := by decide +kernel
theorem d_DiskFile_copyLastPage_7 : decode prog_3_method_7_code 7 = .ok (.bipush 64, 2) := by decide +kernel
theorem d_DiskFile_copyLastPage_9 : decode prog_3_method_7_code 9 = .ok (.idiv, 1) := by decide +kernel
theorem d_DiskFile_copyLastPage_10 : decode prog_3_method_7_code 10 = .ok (.istore_n 1, 1) := by decide +kernel
theorem d_DiskFile_copyLastPage_11 : decode prog_3_method_7_code 11 = .ok (.aload_n 0, 1) := by decide +kernel
theorem d_DiskFile_copyLastPage_12 : decode prog_3_method_7_code 12 = .ok (.getfield 20, 3) := by decide +kernel
theorem d_DiskFile_copyLastPage_15 : decode prog_3_method_7_code 15 = .ok (.getfield 35, 3) := by decide +kernel
theorem d_DiskFile_copyLastPage_18 : decode prog_3_method_7_code 18 = .ok (.iload_n 1, 1) := by decide +kernel
theorem d_DiskFile_copyLastPage_19 : decode prog_3_method_7_code 19 = .ok (.iaload, 1) := by decide +kernel
theorem d_DiskFile_copyLastPage_20 : decode prog_3_method_7_code 20 = .ok (.istore_n 2, 1) := by decide +kernel
theorem d_DiskFile_copyLastPage_21 : decode prog_3_method_7_code 21 = .ok (.aload_n 0, 1) := by decide +kernel
theorem d_DiskFile_copyLastPage_22 : decode prog_3_method_7_code 22 = .ok (.getfield 9, 3) := by decide +kernel
theorem d_DiskFile_copyLastPage_25 : decode prog_3_method_7_code 25 = .ok (.invokevirtual 59, 3) := by decide +kernel
theorem d_DiskFile_copyLastPage_28 : decode prog_3_method_7_code 28 = .ok (.istore_n 3, 1) := by decide +kernel
theorem d_DiskFile_copyLastPage_29 : decode prog_3_method_7_code 29 = .ok (.aload_n 0, 1) := by decide +kernel
theorem d_DiskFile_copyLastPage_30 : decode prog_3_method_7_code 30 = .ok (.getfield 9, 3) := by decide +kernel
theorem d_DiskFile_copyLastPage_33 : decode prog_3_method_7_code 33 = .ok (.getfield 69, 3) := by decide +kernel
theorem d_DiskFile_copyLastPage_36 : decode prog_3_method_7_code 36 = .ok (.iload_n 2, 1) := by decide +kernel
theorem d_DiskFile_copyLastPage_37 : decode prog_3_method_7_code 37 = .ok (.bipush 64, 2) := by decide +kernel
theorem d_DiskFile_copyLastPage_39 : decode prog_3_method_7_code 39 = .ok (.imul, 1) := by decide +kernel
theorem d_DiskFile_copyLastPage_40 : decode prog_3_method_7_code 40 = .ok (.aload_n 0, 1) := by decide +kernel
theorem d_DiskFile_copyLastPage_41 : decode prog_3_method_7_code 41 = .ok (.getfield 9, 3) := by decide +kernel
theorem d_DiskFile_copyLastPage_44 : decode prog_3_method_7_code 44 = .ok (.getfield 69, 3) := by decide +kernel
theorem d_DiskFile_copyLastPage_47 : decode prog_3_method_7_code 47 = .ok (.iload_n 3, 1) := by decide +kernel
theorem d_DiskFile_copyLastPage_48 : decode prog_3_method_7_code 48 = .ok (.bipush 64, 2) := by decide +kernel
theorem d_DiskFile_copyLastPage_50 : decode prog_3_method_7_code 50 = .ok (.imul, 1) := by decide +kernel
theorem d_DiskFile_copyLastPage_51 : decode prog_3_method_7_code 51 = .ok (.bipush 64, 2) := by decide +kernel
theorem d_DiskFile_copyLastPage_53 : decode prog_3_method_7_code 53 = .ok (.invokestatic 73, 3) := by decide +kernel
theorem d_DiskFile_copyLastPage_56 : decode prog_3_method_7_code 56 = .ok (.aload_n 0, 1) := by decide +kernel
theorem d_DiskFile_copyLastPage_57 : decode prog_3_method_7_code 57 = .ok (.getfield 9, 3) := by decide +kernel
theorem d_DiskFile_copyLastPage_60 : decode prog_3_method_7_code 60 = .ok (.iload_n 2, 1) := by decide +kernel
theorem d_DiskFile_copyLastPage_61 : decode prog_3_method_7_code 61 = .ok (.invokevirtual 79, 3) := by decide +kernel
theorem d_DiskFile_copyLastPage_64 : decode prog_3_method_7_code 64 = .ok (.aload_n 0, 1) := by decide +kernel
theorem d_DiskFile_copyLastPage_65 : decode prog_3_method_7_code 65 = .ok (.getfield 20, 3) := by decide +kernel
theorem d_DiskFile_copyLastPage_68 : decode prog_3_method_7_code 68 = .ok (.getfield 35, 3) := by decide +kernel
theorem d_DiskFile_copyLastPage_71 : decode prog_3_method_7_code 71 = .ok (.iload_n 1, 1) := by decide +kernel
theorem d_DiskFile_copyLastPage_72 : decode prog_3_method_7_code 72 = .ok (.iload_n 3, 1) := by decide +kernel
theorem d_DiskFile_copyLastPage_73 : decode prog_3_method_7_code 73 = .ok (.iastore, 1) := by decide +kernel
theorem d_DiskFile_copyLastPage_74 : decode prog_3_method_7_code 74 = .ok (.return_, 1) := by decide +kernel
theorem d_DiskFile_cutTo_0 : decode prog_3_method_8_code 0 = .ok (.iload_n 1, 1) := by decide +kernel
theorem d_DiskFile_cutTo_1 : decode prog_3_method_8_code 1 = .ok (.aload_n 0, 1) := by decide +kernel
theorem d_DiskFile_cutTo_2 : decode prog_3_method_8_code 2 = .ok (.getfield 20, 3) := by decide +kernel
theorem d_DiskFile_cutTo_5 : decode prog_3_method_8_code 5 = .ok (.getfield 27, 3) := by decide +kernel
theorem d_DiskFile_cutTo_8 : decode prog_3_method_8_code 8 = .ok (.if_icmp .ge 27, 3) := by decide +kernel
theorem d_DiskFile_cutTo_11 : decode prog_3_method_8_code 11 = .ok (.aload_n 0, 1) := by decide +kernel
theorem d_DiskFile_cutTo_12 : decode prog_3_method_8_code 12 = .ok (.getfield 20, 3) := by decide +kernel
theorem d_DiskFile_cutTo_15 : decode prog_3_method_8_code 15 = .ok (.iload_n 1, 1) := by decide +kernel
theorem d_DiskFile_cutTo_16 : decode prog_3_method_8_code 16 = .ok (.aload_n 0, 1) := by decide +kernel
theorem d_DiskFile_cutTo_17 : decode prog_3_method_8_code 17 = .ok (.getfield 9, 3) := by decide +kernel
theorem d_DiskFile_cutTo_20 : decode prog_3_method_8_code 20 = .ok (.invokevirtual 82, 3) := by decide +kernel
theorem d_DiskFile_cutTo_23 : decode prog_3_method_8_code 23 = .ok (.aload_n 0, 1) := by decide +kernel
theorem d_DiskFile_cutTo_24 : decode prog_3_method_8_code 24 = .ok (.aload_n 0, 1) := by decide +kernel
theorem d_DiskFile_cutTo_25 : decode prog_3_method_8_code 25 = .ok (.getfield 86, 3) := by decide +kernel
theorem d_DiskFile_cutTo_28 : decode prog_3_method_8_code 28 = .ok (.iload_n 1, 1) := by decide +kernel
theorem d_DiskFile_cutTo_29 : decode prog_3_method_8_code 29 = .ok (.invokestatic 63, 3) := by decide +kernel
theorem d_DiskFile_cutTo_32 : decode prog_3_method_8_code 32 = .ok (.putfield 86, 3) := by decide +kernel
theorem d_DiskFile_cutTo_35 : decode prog_3_method_8_code 35 = .ok (.return_, 1) := by decide +kernel
theorem d_DiskFile_remove_0 : decode prog_3_method_9_code 0 = .ok (.aload_n 0, 1) := by decide +kernel
theorem d_DiskFile_remove_1 : decode prog_3_method_9_code 1 = .ok (.getfield 20, 3) := by decide +kernel
theorem d_DiskFile_remove_4 : decode prog_3_method_9_code 4 = .ok (.iconst 0, 1) := by decide +kernel
theorem d_DiskFile_remove_5 : decode prog_3_method_9_code 5 = .ok (.aload_n 0, 1) := by decide +kernel
theorem d_DiskFile_remove_6 : decode prog_3_method_9_code 6 = .ok (.getfield 9, 3) := by decide +kernel
theorem d_DiskFile_remove_9 : decode prog_3_method_9_code 9 = .ok (.invokevirtual 82, 3) := by decide +kernel
theorem d_DiskFile_remove_12 : decode prog_3_method_9_code 12 = .ok (.aload_n 0, 1) := by decide +kernel
theorem d_DiskFile_remove_13 : decode prog_3_method_9_code 13 = .ok (.getfield 20, 3) := by decide +kernel
theorem d_DiskFile_remove_16 : decode prog_3_method_9_code 16 = .ok (.iconst 0, 1) := by decide +kernel
theorem d_DiskFile_remove_17 : decode prog_3_method_9_code 17 = .ok (.putfield 55, 3) := by decide +kernel
theorem d_DiskFile_remove_20 : decode prog_3_method_9_code 20 = .ok (.aload_n 0, 1) := by decide +kernel
theorem d_DiskFile_remove_21 : decode prog_3_method_9_code 21 = .ok (.iconst 0, 1) := by decide +kernel
theorem d_DiskFile_remove_22 : decode prog_3_method_9_code 22 = .ok (.putfield 86, 3) := by decide +kernel
theorem d_DiskFile_remove_25 : decode prog_3_method_9_code 25 = .ok (.return_, 1) := by decide +kernel
theorem d_DiskFile_settle_0 : decode prog_3_method_10_code 0 = .ok (.aload_n 0, 1) := by decide +kernel
theorem d_DiskFile_settle_1 : decode prog_3_method_10_code 1 = .ok (.getfield 24, 3) := by decide +kernel
theorem d_DiskFile_settle_4 : decode prog_3_method_10_code 4 = .ok (.aload_n 0, 1) := by decide +kernel
theorem d_DiskFile_settle_5 : decode prog_3_method_10_code 5 = .ok (.getfield 20, 3) := by decide +kernel
theorem d_DiskFile_settle_8 : decode prog_3_method_10_code 8 = .ok (.aload_n 0, 1) := by decide +kernel
theorem d_DiskFile_settle_9 : decode prog_3_method_10_code 9 = .ok (.getfield 9, 3) := by decide +kernel
theorem d_DiskFile_settle_12 : decode prog_3_method_10_code 12 = .ok (.invokevirtual 89, 3) := by decide +kernel
theorem d_DiskFile_settle_15 : decode prog_3_method_10_code 15 = .ok (.aload_n 0, 1) := by decide +kernel
theorem d_DiskFile_settle_16 : decode prog_3_method_10_code 16 = .ok (.aload_n 0, 1) := by decide +kernel
theorem d_DiskFile_settle_17 : decode prog_3_method_10_code 17 = .ok (.getfield 20, 3) := by decide +kernel
theorem d_DiskFile_settle_20 : decode prog_3_method_10_code 20 = .ok (.getfield 27, 3) := by decide +kernel
theorem d_DiskFile_settle_23 : decode prog_3_method_10_code 23 = .ok (.putfield 86, 3) := by decide +kernel
theorem d_DiskFile_settle_26 : decode prog_3_method_10_code 26 = .ok (.return_, 1) := by decide +kernel
theorem d_DiskFile_drawnKeep_0 : decode prog_3_method_11_code 0 = .ok (.lload_n 1, 1) := by decide +kernel
theorem d_DiskFile_drawnKeep_1 : decode prog_3_method_11_code 1 = .ok (.bipush 61, 2) := by decide +kernel
theorem d_DiskFile_drawnKeep_3 : decode prog_3_method_11_code 3 = .ok (.lushr, 1) := by decide +kernel
theorem d_DiskFile_drawnKeep_4 : decode prog_3_method_11_code 4 = .ok (.lconst 0, 1) := by decide +kernel
theorem d_DiskFile_drawnKeep_5 : decode prog_3_method_11_code 5 = .ok (.lcmp, 1) := by decide +kernel
theorem d_DiskFile_drawnKeep_6 : decode prog_3_method_11_code 6 = .ok (.ifCond .ne 5, 3) := by decide +kernel
theorem d_DiskFile_drawnKeep_9 : decode prog_3_method_11_code 9 = .ok (.iconst 0, 1) := by decide +kernel
theorem d_DiskFile_drawnKeep_10 : decode prog_3_method_11_code 10 = .ok (.ireturn, 1) := by decide +kernel
theorem d_DiskFile_drawnKeep_11 : decode prog_3_method_11_code 11 = .ok (.lload_n 1, 1) := by decide +kernel
theorem d_DiskFile_drawnKeep_12 : decode prog_3_method_11_code 12 = .ok (.bipush 33, 2) := by decide +kernel
theorem d_DiskFile_drawnKeep_14 : decode prog_3_method_11_code 14 = .ok (.lushr, 1) := by decide +kernel
theorem d_DiskFile_drawnKeep_15 : decode prog_3_method_11_code 15 = .ok (.l2i, 1) := by decide +kernel
theorem d_DiskFile_drawnKeep_16 : decode prog_3_method_11_code 16 = .ok (.ldc 93, 2) := by decide +kernel
theorem d_DiskFile_drawnKeep_18 : decode prog_3_method_11_code 18 = .ok (.iand, 1) := by decide +kernel
theorem d_DiskFile_drawnKeep_19 : decode prog_3_method_11_code 19 = .ok (.istore_n 3, 1) := by decide +kernel
theorem d_DiskFile_drawnKeep_20 : decode prog_3_method_11_code 20 = .ok (.iconst 1, 1) := by decide +kernel
theorem d_DiskFile_drawnKeep_21 : decode prog_3_method_11_code 21 = .ok (.iconst 2, 1) := by decide +kernel
theorem d_DiskFile_drawnKeep_22 : decode prog_3_method_11_code 22 = .ok (.aload_n 0, 1) := by decide +kernel
theorem d_DiskFile_drawnKeep_23 : decode prog_3_method_11_code 23 = .ok (.getfield 20, 3) := by decide +kernel
theorem d_DiskFile_drawnKeep_26 : decode prog_3_method_11_code 26 = .ok (.getfield 27, 3) := by decide +kernel
theorem d_DiskFile_drawnKeep_29 : decode prog_3_method_11_code 29 = .ok (.aload_n 0, 1) := by decide +kernel
theorem d_DiskFile_drawnKeep_30 : decode prog_3_method_11_code 30 = .ok (.getfield 86, 3) := by decide +kernel
theorem d_DiskFile_drawnKeep_33 : decode prog_3_method_11_code 33 = .ok (.isub, 1) := by decide +kernel
theorem d_DiskFile_drawnKeep_34 : decode prog_3_method_11_code 34 = .ok (.imul, 1) := by decide +kernel
theorem d_DiskFile_drawnKeep_35 : decode prog_3_method_11_code 35 = .ok (.iconst 1, 1) := by decide +kernel
theorem d_DiskFile_drawnKeep_36 : decode prog_3_method_11_code 36 = .ok (.iadd, 1) := by decide +kernel
theorem d_DiskFile_drawnKeep_37 : decode prog_3_method_11_code 37 = .ok (.invokestatic 94, 3) := by decide +kernel
theorem d_DiskFile_drawnKeep_40 : decode prog_3_method_11_code 40 = .ok (.istore 4, 2) := by decide +kernel
theorem d_DiskFile_drawnKeep_42 : decode prog_3_method_11_code 42 = .ok (.iconst 1, 1) := by decide +kernel
theorem d_DiskFile_drawnKeep_43 : decode prog_3_method_11_code 43 = .ok (.iload_n 3, 1) := by decide +kernel
theorem d_DiskFile_drawnKeep_44 : decode prog_3_method_11_code 44 = .ok (.iload 4, 2) := by decide +kernel
theorem d_DiskFile_drawnKeep_46 : decode prog_3_method_11_code 46 = .ok (.irem, 1) := by decide +kernel
theorem d_DiskFile_drawnKeep_47 : decode prog_3_method_11_code 47 = .ok (.iadd, 1) := by decide +kernel
theorem d_DiskFile_drawnKeep_48 : decode prog_3_method_11_code 48 = .ok (.ireturn, 1) := by decide +kernel
theorem d_DiskFile_fail_0 : decode prog_3_method_12_code 0 = .ok (.iload_n 1, 1) := by decide +kernel
theorem d_DiskFile_fail_1 : decode prog_3_method_12_code 1 = .ok (.ifCond .ne 21, 3) := by decide +kernel
theorem d_DiskFile_fail_4 : decode prog_3_method_12_code 4 = .ok (.aload_n 0, 1) := by decide +kernel
theorem d_DiskFile_fail_5 : decode prog_3_method_12_code 5 = .ok (.getfield 20, 3) := by decide +kernel
theorem d_DiskFile_fail_8 : decode prog_3_method_12_code 8 = .ok (.aload_n 0, 1) := by decide +kernel
theorem d_DiskFile_fail_9 : decode prog_3_method_12_code 9 = .ok (.getfield 24, 3) := by decide +kernel
theorem d_DiskFile_fail_12 : decode prog_3_method_12_code 12 = .ok (.aload_n 0, 1) := by decide +kernel
theorem d_DiskFile_fail_13 : decode prog_3_method_12_code 13 = .ok (.getfield 9, 3) := by decide +kernel
theorem d_DiskFile_fail_16 : decode prog_3_method_12_code 16 = .ok (.invokevirtual 89, 3) := by decide +kernel
theorem d_DiskFile_fail_19 : decode prog_3_method_12_code 19 = .ok (.goto 33, 3) := by decide +kernel
theorem d_DiskFile_fail_22 : decode prog_3_method_12_code 22 = .ok (.aload_n 0, 1) := by decide +kernel
theorem d_DiskFile_fail_23 : decode prog_3_method_12_code 23 = .ok (.getfield 86, 3) := by decide +kernel
theorem d_DiskFile_fail_26 : decode prog_3_method_12_code 26 = .ok (.i2l, 1) := by decide +kernel
theorem d_DiskFile_fail_27 : decode prog_3_method_12_code 27 = .ok (.iload_n 1, 1) := by decide +kernel
theorem d_DiskFile_fail_28 : decode prog_3_method_12_code 28 = .ok (.i2l, 1) := by decide +kernel
theorem d_DiskFile_fail_29 : decode prog_3_method_12_code 29 = .ok (.ladd, 1) := by decide +kernel
theorem d_DiskFile_fail_30 : decode prog_3_method_12_code 30 = .ok (.lconst 1, 1) := by decide +kernel
theorem d_DiskFile_fail_31 : decode prog_3_method_12_code 31 = .ok (.lsub, 1) := by decide +kernel
theorem d_DiskFile_fail_32 : decode prog_3_method_12_code 32 = .ok (.lstore_n 2, 1) := by decide +kernel
theorem d_DiskFile_fail_33 : decode prog_3_method_12_code 33 = .ok (.lload_n 2, 1) := by decide +kernel
theorem d_DiskFile_fail_34 : decode prog_3_method_12_code 34 = .ok (.aload_n 0, 1) := by decide +kernel
theorem d_DiskFile_fail_35 : decode prog_3_method_12_code 35 = .ok (.getfield 20, 3) := by decide +kernel
theorem d_DiskFile_fail_38 : decode prog_3_method_12_code 38 = .ok (.getfield 27, 3) := by decide +kernel
theorem d_DiskFile_fail_41 : decode prog_3_method_12_code 41 = .ok (.i2l, 1) := by decide +kernel
theorem d_DiskFile_fail_42 : decode prog_3_method_12_code 42 = .ok (.lcmp, 1) := by decide +kernel
theorem d_DiskFile_fail_43 : decode prog_3_method_12_code 43 = .ok (.ifCond .ge 9, 3) := by decide +kernel
theorem d_DiskFile_fail_46 : decode prog_3_method_12_code 46 = .ok (.aload_n 0, 1) := by decide +kernel
theorem d_DiskFile_fail_47 : decode prog_3_method_12_code 47 = .ok (.lload_n 2, 1) := by decide +kernel
theorem d_DiskFile_fail_48 : decode prog_3_method_12_code 48 = .ok (.l2i, 1) := by decide +kernel
theorem d_DiskFile_fail_49 : decode prog_3_method_12_code 49 = .ok (.invokevirtual 97, 3) := by decide +kernel
theorem d_DiskFile_fail_52 : decode prog_3_method_12_code 52 = .ok (.aload_n 0, 1) := by decide +kernel
theorem d_DiskFile_fail_53 : decode prog_3_method_12_code 53 = .ok (.invokevirtual 100, 3) := by decide +kernel
theorem d_DiskFile_fail_56 : decode prog_3_method_12_code 56 = .ok (.return_, 1) := by decide +kernel
theorem d_DiskFile_read_0 : decode prog_3_method_13_code 0 = .ok (.iload_n 1, 1) := by decide +kernel
theorem d_DiskFile_read_1 : decode prog_3_method_13_code 1 = .ok (.ifCond .lt 29, 3) := by decide +kernel
theorem d_DiskFile_read_4 : decode prog_3_method_13_code 4 = .ok (.iload_n 1, 1) := by decide +kernel
theorem d_DiskFile_read_5 : decode prog_3_method_13_code 5 = .ok (.aload_n 0, 1) := by decide +kernel
theorem d_DiskFile_read_6 : decode prog_3_method_13_code 6 = .ok (.getfield 20, 3) := by decide +kernel
theorem d_DiskFile_read_9 : decode prog_3_method_13_code 9 = .ok (.getfield 27, 3) := by decide +kernel
theorem d_DiskFile_read_12 : decode prog_3_method_13_code 12 = .ok (.if_icmp .ge 18, 3) := by decide +kernel
theorem d_DiskFile_read_15 : decode prog_3_method_13_code 15 = .ok (.iload_n 1, 1) := by decide +kernel
theorem d_DiskFile_read_16 : decode prog_3_method_13_code 16 = .ok (.bipush 64, 2) := by decide +kernel
theorem d_DiskFile_read_18 : decode prog_3_method_13_code 18 = .ok (.idiv, 1) := by decide +kernel
theorem d_DiskFile_read_19 : decode prog_3_method_13_code 19 = .ok (.aload_n 0, 1) := by decide +kernel
theorem d_DiskFile_read_20 : decode prog_3_method_13_code 20 = .ok (.getfield 20, 3) := by decide +kernel
theorem d_DiskFile_read_23 : decode prog_3_method_13_code 23 = .ok (.getfield 35, 3) := by decide +kernel
theorem d_DiskFile_read_26 : decode prog_3_method_13_code 26 = .ok (.arraylength, 1) := by decide +kernel
theorem d_DiskFile_read_27 : decode prog_3_method_13_code 27 = .ok (.if_icmp .lt 5, 3) := by decide +kernel
theorem d_DiskFile_read_30 : decode prog_3_method_13_code 30 = .ok (.iconst 0, 1) := by decide +kernel
theorem d_DiskFile_read_31 : decode prog_3_method_13_code 31 = .ok (.ireturn, 1) := by decide +kernel
theorem d_DiskFile_read_32 : decode prog_3_method_13_code 32 = .ok (.aload_n 0, 1) := by decide +kernel
theorem d_DiskFile_read_33 : decode prog_3_method_13_code 33 = .ok (.getfield 9, 3) := by decide +kernel
theorem d_DiskFile_read_36 : decode prog_3_method_13_code 36 = .ok (.getfield 69, 3) := by decide +kernel
theorem d_DiskFile_read_39 : decode prog_3_method_13_code 39 = .ok (.aload_n 0, 1) := by decide +kernel
theorem d_DiskFile_read_40 : decode prog_3_method_13_code 40 = .ok (.getfield 20, 3) := by decide +kernel
theorem d_DiskFile_read_43 : decode prog_3_method_13_code 43 = .ok (.getfield 35, 3) := by decide +kernel
theorem d_DiskFile_read_46 : decode prog_3_method_13_code 46 = .ok (.iload_n 1, 1) := by decide +kernel
theorem d_DiskFile_read_47 : decode prog_3_method_13_code 47 = .ok (.bipush 64, 2) := by decide +kernel
theorem d_DiskFile_read_49 : decode prog_3_method_13_code 49 = .ok (.idiv, 1) := by decide +kernel
theorem d_DiskFile_read_50 : decode prog_3_method_13_code 50 = .ok (.iaload, 1) := by decide +kernel
theorem d_DiskFile_read_51 : decode prog_3_method_13_code 51 = .ok (.bipush 64, 2) := by decide +kernel
theorem d_DiskFile_read_53 : decode prog_3_method_13_code 53 = .ok (.imul, 1) := by decide +kernel
theorem d_DiskFile_read_54 : decode prog_3_method_13_code 54 = .ok (.iload_n 1, 1) := by decide +kernel
theorem d_DiskFile_read_55 : decode prog_3_method_13_code 55 = .ok (.bipush 64, 2) := by decide +kernel
theorem d_DiskFile_read_57 : decode prog_3_method_13_code 57 = .ok (.irem, 1) := by decide +kernel
theorem d_DiskFile_read_58 : decode prog_3_method_13_code 58 = .ok (.iadd, 1) := by decide +kernel
theorem d_DiskFile_read_59 : decode prog_3_method_13_code 59 = .ok (.baload, 1) := by decide +kernel
theorem d_DiskFile_read_60 : decode prog_3_method_13_code 60 = .ok (.sipush 255, 3) := by decide +kernel
theorem d_DiskFile_read_63 : decode prog_3_method_13_code 63 = .ok (.iand, 1) := by decide +kernel
theorem d_DiskFile_read_64 : decode prog_3_method_13_code 64 = .ok (.ireturn, 1) := by decide +kernel
theorem d_DiskFile_number_0 : decode prog_3_method_14_code 0 = .ok (.lconst 0, 1) := by decide +kernel
theorem d_DiskFile_number_1 : decode prog_3_method_14_code 1 = .ok (.lstore_n 3, 1) := by decide +kernel
theorem d_DiskFile_number_2 : decode prog_3_method_14_code 2 = .ok (.iload_n 2, 1) := by decide +kernel
theorem d_DiskFile_number_3 : decode prog_3_method_14_code 3 = .ok (.iconst 1, 1) := by decide +kernel
theorem d_DiskFile_number_4 : decode prog_3_method_14_code 4 = .ok (.isub, 1) := by decide +kernel
theorem d_DiskFile_number_5 : decode prog_3_method_14_code 5 = .ok (.istore 5, 2) := by decide +kernel
theorem d_DiskFile_number_7 : decode prog_3_method_14_code 7 = .ok (.iload 5, 2) := by decide +kernel
theorem d_DiskFile_number_9 : decode prog_3_method_14_code 9 = .ok (.ifCond .lt 24, 3) := by decide +kernel
theorem d_DiskFile_number_12 : decode prog_3_method_14_code 12 = .ok (.lload_n 3, 1) := by decide +kernel
theorem d_DiskFile_number_13 : decode prog_3_method_14_code 13 = .ok (.bipush 8, 2) := by decide +kernel
theorem d_DiskFile_number_15 : decode prog_3_method_14_code 15 = .ok (.lshl, 1) := by decide +kernel
theorem d_DiskFile_number_16 : decode prog_3_method_14_code 16 = .ok (.aload_n 0, 1) := by decide +kernel
theorem d_DiskFile_number_17 : decode prog_3_method_14_code 17 = .ok (.iload_n 1, 1) := by decide +kernel
theorem d_DiskFile_number_18 : decode prog_3_method_14_code 18 = .ok (.iload 5, 2) := by decide +kernel
theorem d_DiskFile_number_20 : decode prog_3_method_14_code 20 = .ok (.iadd, 1) := by decide +kernel
theorem d_DiskFile_number_21 : decode prog_3_method_14_code 21 = .ok (.invokevirtual 103, 3) := by decide +kernel
theorem d_DiskFile_number_24 : decode prog_3_method_14_code 24 = .ok (.i2l, 1) := by decide +kernel
theorem d_DiskFile_number_25 : decode prog_3_method_14_code 25 = .ok (.lor, 1) := by decide +kernel
theorem d_DiskFile_number_26 : decode prog_3_method_14_code 26 = .ok (.lstore_n 3, 1) := by decide +kernel
theorem d_DiskFile_number_27 : decode prog_3_method_14_code 27 = .ok (.iinc 5 (-1), 3) := by decide +kernel
theorem d_DiskFile_number_30 : decode prog_3_method_14_code 30 = .ok (.goto (-23), 3) := by decide +kernel
theorem d_DiskFile_number_33 : decode prog_3_method_14_code 33 = .ok (.lload_n 3, 1) := by decide +kernel
theorem d_DiskFile_number_34 : decode prog_3_method_14_code 34 = .ok (.lreturn, 1) := by decide +kernel
theorem d_DiskFile_wholeFrame_0 : decode prog_3_method_15_code 0 = .ok (.iload_n 1, 1) := by decide +kernel
theorem d_DiskFile_wholeFrame_1 : decode prog_3_method_15_code 1 = .ok (.ifCond .lt 17, 3) := by decide +kernel
theorem d_DiskFile_wholeFrame_4 : decode prog_3_method_15_code 4 = .ok (.iload_n 1, 1) := by decide +kernel
theorem d_DiskFile_wholeFrame_5 : decode prog_3_method_15_code 5 = .ok (.aload_n 0, 1) := by decide +kernel
theorem d_DiskFile_wholeFrame_6 : decode prog_3_method_15_code 6 = .ok (.getfield 20, 3) := by decide +kernel
theorem d_DiskFile_wholeFrame_9 : decode prog_3_method_15_code 9 = .ok (.getfield 27, 3) := by decide +kernel
theorem d_DiskFile_wholeFrame_12 : decode prog_3_method_15_code 12 = .ok (.bipush 8, 2) := by decide +kernel
theorem d_DiskFile_wholeFrame_14 : decode prog_3_method_15_code 14 = .ok (.isub, 1) := by decide +kernel
theorem d_DiskFile_wholeFrame_15 : decode prog_3_method_15_code 15 = .ok (.if_icmp .le 5, 3) := by decide +kernel
theorem d_DiskFile_wholeFrame_18 : decode prog_3_method_15_code 18 = .ok (.iconst (-1), 1) := by decide +kernel
theorem d_DiskFile_wholeFrame_19 : decode prog_3_method_15_code 19 = .ok (.ireturn, 1) := by decide +kernel
theorem d_DiskFile_wholeFrame_20 : decode prog_3_method_15_code 20 = .ok (.aload_n 0, 1) := by decide +kernel
theorem d_DiskFile_wholeFrame_21 : decode prog_3_method_15_code 21 = .ok (.iload_n 1, 1) := by decide +kernel
theorem d_DiskFile_wholeFrame_22 : decode prog_3_method_15_code 22 = .ok (.iconst 4, 1) := by decide +kernel
theorem d_DiskFile_wholeFrame_23 : decode prog_3_method_15_code 23 = .ok (.invokevirtual 106, 3) := by decide +kernel
theorem d_DiskFile_wholeFrame_26 : decode prog_3_method_15_code 26 = .ok (.l2i, 1) := by decide +kernel
theorem d_DiskFile_wholeFrame_27 : decode prog_3_method_15_code 27 = .ok (.istore_n 2, 1) := by decide +kernel
theorem d_DiskFile_wholeFrame_28 : decode prog_3_method_15_code 28 = .ok (.iload_n 1, 1) := by decide +kernel
theorem d_DiskFile_wholeFrame_29 : decode prog_3_method_15_code 29 = .ok (.bipush 8, 2) := by decide +kernel
theorem d_DiskFile_wholeFrame_31 : decode prog_3_method_15_code 31 = .ok (.iadd, 1) := by decide +kernel
theorem d_DiskFile_wholeFrame_32 : decode prog_3_method_15_code 32 = .ok (.istore_n 3, 1) := by decide +kernel
theorem d_DiskFile_wholeFrame_33 : decode prog_3_method_15_code 33 = .ok (.iload_n 2, 1) := by decide +kernel
theorem d_DiskFile_wholeFrame_34 : decode prog_3_method_15_code 34 = .ok (.ifCond .lt 16, 3) := by decide +kernel
theorem d_DiskFile_wholeFrame_37 : decode prog_3_method_15_code 37 = .ok (.iload_n 2, 1) := by decide +kernel
theorem d_DiskFile_wholeFrame_38 : decode prog_3_method_15_code 38 = .ok (.aload_n 0, 1) := by decide +kernel
theorem d_DiskFile_wholeFrame_39 : decode prog_3_method_15_code 39 = .ok (.getfield 20, 3) := by decide +kernel
theorem d_DiskFile_wholeFrame_42 : decode prog_3_method_15_code 42 = .ok (.getfield 27, 3) := by decide +kernel
theorem d_DiskFile_wholeFrame_45 : decode prog_3_method_15_code 45 = .ok (.iload_n 3, 1) := by decide +kernel
theorem d_DiskFile_wholeFrame_46 : decode prog_3_method_15_code 46 = .ok (.isub, 1) := by decide +kernel
theorem d_DiskFile_wholeFrame_47 : decode prog_3_method_15_code 47 = .ok (.if_icmp .le 5, 3) := by decide +kernel
theorem d_DiskFile_wholeFrame_50 : decode prog_3_method_15_code 50 = .ok (.iconst (-1), 1) := by decide +kernel
theorem d_DiskFile_wholeFrame_51 : decode prog_3_method_15_code 51 = .ok (.ireturn, 1) := by decide +kernel
theorem d_DiskFile_wholeFrame_52 : decode prog_3_method_15_code 52 = .ok (.iconst (-1), 1) := by decide +kernel
theorem d_DiskFile_wholeFrame_53 : decode prog_3_method_15_code 53 = .ok (.istore 4, 2) := by decide +kernel
theorem d_DiskFile_wholeFrame_55 : decode prog_3_method_15_code 55 = .ok (.iconst 0, 1) := by decide +kernel
theorem d_DiskFile_wholeFrame_56 : decode prog_3_method_15_code 56 = .ok (.istore 5, 2) := by decide +kernel
theorem d_DiskFile_wholeFrame_58 : decode prog_3_method_15_code 58 = .ok (.iload 5, 2) := by decide +kernel
theorem d_DiskFile_wholeFrame_60 : decode prog_3_method_15_code 60 = .ok (.iload_n 2, 1) := by decide +kernel
theorem d_DiskFile_wholeFrame_61 : decode prog_3_method_15_code 61 = .ok (.if_icmp .ge 24, 3) := by decide +kernel
theorem d_DiskFile_wholeFrame_64 : decode prog_3_method_15_code 64 = .ok (.iload 4, 2) := by decide +kernel
theorem d_DiskFile_wholeFrame_66 : decode prog_3_method_15_code 66 = .ok (.aload_n 0, 1) := by decide +kernel
theorem d_DiskFile_wholeFrame_67 : decode prog_3_method_15_code 67 = .ok (.iload_n 3, 1) := by decide +kernel
theorem d_DiskFile_wholeFrame_68 : decode prog_3_method_15_code 68 = .ok (.iload 5, 2) := by decide +kernel
theorem d_DiskFile_wholeFrame_70 : decode prog_3_method_15_code 70 = .ok (.iadd, 1) := by decide +kernel
theorem d_DiskFile_wholeFrame_71 : decode prog_3_method_15_code 71 = .ok (.invokevirtual 103, 3) := by decide +kernel
theorem d_DiskFile_wholeFrame_74 : decode prog_3_method_15_code 74 = .ok (.invokestatic 110, 3) := by decide +kernel
theorem d_DiskFile_wholeFrame_77 : decode prog_3_method_15_code 77 = .ok (.istore 4, 2) := by decide +kernel
theorem d_DiskFile_wholeFrame_79 : decode prog_3_method_15_code 79 = .ok (.iinc 5 1, 3) := by decide +kernel
theorem d_DiskFile_wholeFrame_82 : decode prog_3_method_15_code 82 = .ok (.goto (-24), 3) := by decide +kernel
theorem d_DiskFile_wholeFrame_85 : decode prog_3_method_15_code 85 = .ok (.iload 4, 2) := by decide +kernel
theorem d_DiskFile_wholeFrame_87 : decode prog_3_method_15_code 87 = .ok (.iconst (-1), 1) := by decide +kernel
theorem d_DiskFile_wholeFrame_88 : decode prog_3_method_15_code 88 = .ok (.ixor, 1) := by decide +kernel
theorem d_DiskFile_wholeFrame_89 : decode prog_3_method_15_code 89 = .ok (.aload_n 0, 1) := by decide +kernel
theorem d_DiskFile_wholeFrame_90 : decode prog_3_method_15_code 90 = .ok (.iload_n 1, 1) := by decide +kernel
theorem d_DiskFile_wholeFrame_91 : decode prog_3_method_15_code 91 = .ok (.iconst 4, 1) := by decide +kernel
theorem d_DiskFile_wholeFrame_92 : decode prog_3_method_15_code 92 = .ok (.iadd, 1) := by decide +kernel
theorem d_DiskFile_wholeFrame_93 : decode prog_3_method_15_code 93 = .ok (.iconst 4, 1) := by decide +kernel
theorem d_DiskFile_wholeFrame_94 : decode prog_3_method_15_code 94 = .ok (.invokevirtual 106, 3) := by decide +kernel
theorem d_DiskFile_wholeFrame_97 : decode prog_3_method_15_code 97 = .ok (.l2i, 1) := by decide +kernel
theorem d_DiskFile_wholeFrame_98 : decode prog_3_method_15_code 98 = .ok (.if_icmp .ne 7, 3) := by decide +kernel
theorem d_DiskFile_wholeFrame_101 : decode prog_3_method_15_code 101 = .ok (.iload_n 2, 1) := by decide +kernel
theorem d_DiskFile_wholeFrame_102 : decode prog_3_method_15_code 102 = .ok (.goto 4, 3) := by decide +kernel
theorem d_DiskFile_wholeFrame_105 : decode prog_3_method_15_code 105 = .ok (.iconst (-1), 1) := by decide +kernel
theorem d_DiskFile_wholeFrame_106 : decode prog_3_method_15_code 106 = .ok (.ireturn, 1) := by decide +kernel
theorem d_DiskFile_segmentFirst_0 : decode prog_3_method_16_code 0 = .ok (.aload_n 0, 1) := by decide +kernel
theorem d_DiskFile_segmentFirst_1 : decode prog_3_method_16_code 1 = .ok (.iconst 0, 1) := by decide +kernel
theorem d_DiskFile_segmentFirst_2 : decode prog_3_method_16_code 2 = .ok (.invokevirtual 113, 3) := by decide +kernel
theorem d_DiskFile_segmentFirst_5 : decode prog_3_method_16_code 5 = .ok (.bipush 16, 2) := by decide +kernel
theorem d_DiskFile_segmentFirst_7 : decode prog_3_method_16_code 7 = .ok (.if_icmp .ne 15, 3) := by decide +kernel
theorem d_DiskFile_segmentFirst_10 : decode prog_3_method_16_code 10 = .ok (.aload_n 0, 1) := by decide +kernel
theorem d_DiskFile_segmentFirst_11 : decode prog_3_method_16_code 11 = .ok (.bipush 8, 2) := by decide +kernel
theorem d_DiskFile_segmentFirst_13 : decode prog_3_method_16_code 13 = .ok (.bipush 8, 2) := by decide +kernel
theorem d_DiskFile_segmentFirst_15 : decode prog_3_method_16_code 15 = .ok (.invokevirtual 106, 3) := by decide +kernel
theorem d_DiskFile_segmentFirst_18 : decode prog_3_method_16_code 18 = .ok (.l2i, 1) := by decide +kernel
theorem d_DiskFile_segmentFirst_19 : decode prog_3_method_16_code 19 = .ok (.goto 4, 3) := by decide +kernel
theorem d_DiskFile_segmentFirst_22 : decode prog_3_method_16_code 22 = .ok (.iconst (-1), 1) := by decide +kernel
theorem d_DiskFile_segmentFirst_23 : decode prog_3_method_16_code 23 = .ok (.ireturn, 1) := by decide +kernel
theorem d_DiskFile_termBefore_0 : decode prog_3_method_17_code 0 = .ok (.aload_n 0, 1) := by decide +kernel
theorem d_DiskFile_termBefore_1 : decode prog_3_method_17_code 1 = .ok (.bipush 16, 2) := by decide +kernel
theorem d_DiskFile_termBefore_3 : decode prog_3_method_17_code 3 = .ok (.bipush 8, 2) := by decide +kernel
theorem d_DiskFile_termBefore_5 : decode prog_3_method_17_code 5 = .ok (.invokevirtual 106, 3) := by decide +kernel
theorem d_DiskFile_termBefore_8 : decode prog_3_method_17_code 8 = .ok (.l2i, 1) := by decide +kernel
theorem d_DiskFile_termBefore_9 : decode prog_3_method_17_code 9 = .ok (.ireturn, 1) := by decide +kernel
theorem d_Entries_init_0 : decode prog_4_method_1_code 0 = .ok (.aload_n 0, 1) := by decide +kernel
theorem d_Entries_init_1 : decode prog_4_method_1_code 1 = .ok (.invokespecial 3, 3) := by decide +kernel
theorem d_Entries_init_4 : decode prog_4_method_1_code 4 = .ok (.aload_n 0, 1) := by decide +kernel
theorem d_Entries_init_5 : decode prog_4_method_1_code 5 = .ok (.sipush 301, 3) := by decide +kernel
theorem d_Entries_init_8 : decode prog_4_method_1_code 8 = .ok (.newarray .int, 2) := by decide +kernel
theorem d_Entries_init_10 : decode prog_4_method_1_code 10 = .ok (.putfield 11, 3) := by decide +kernel
theorem d_Entries_init_13 : decode prog_4_method_1_code 13 = .ok (.aload_n 0, 1) := by decide +kernel
theorem d_Entries_init_14 : decode prog_4_method_1_code 14 = .ok (.sipush 301, 3) := by decide +kernel
theorem d_Entries_init_17 : decode prog_4_method_1_code 17 = .ok (.newarray .int, 2) := by decide +kernel
theorem d_Entries_init_19 : decode prog_4_method_1_code 19 = .ok (.putfield 15, 3) := by decide +kernel
theorem d_Entries_init_22 : decode prog_4_method_1_code 22 = .ok (.aload_n 0, 1) := by decide +kernel
theorem d_Entries_init_23 : decode prog_4_method_1_code 23 = .ok (.sipush 301, 3) := by decide +kernel
theorem d_Entries_init_26 : decode prog_4_method_1_code 26 = .ok (.newarray .int, 2) := by decide +kernel
theorem d_Entries_init_28 : decode prog_4_method_1_code 28 = .ok (.putfield 18, 3) := by decide +kernel
theorem d_Entries_init_31 : decode prog_4_method_1_code 31 = .ok (.aload_n 0, 1) := by decide +kernel
theorem d_Entries_init_32 : decode prog_4_method_1_code 32 = .ok (.sipush 301, 3) := by decide +kernel
theorem d_Entries_init_35 : decode prog_4_method_1_code 35 = .ok (.newarray .int, 2) := by decide +kernel
theorem d_Entries_init_37 : decode prog_4_method_1_code 37 = .ok (.putfield 21, 3) := by decide +kernel
theorem d_Entries_init_40 : decode prog_4_method_1_code 40 = .ok (.aload_n 0, 1) := by decide +kernel
theorem d_Entries_init_41 : decode prog_4_method_1_code 41 = .ok (.sipush 301, 3) := by decide +kernel
theorem d_Entries_init_44 : decode prog_4_method_1_code 44 = .ok (.newarray .int, 2) := by decide +kernel
theorem d_Entries_init_46 : decode prog_4_method_1_code 46 = .ok (.putfield 24, 3) := by decide +kernel
theorem d_Entries_init_49 : decode prog_4_method_1_code 49 = .ok (.return_, 1) := by decide +kernel
theorem d_Entries_slot_0 : decode prog_4_method_2_code 0 = .ok (.iload_n 1, 1) := by decide +kernel
theorem d_Entries_slot_1 : decode prog_4_method_2_code 1 = .ok (.sipush 301, 3) := by decide +kernel
theorem d_Entries_slot_4 : decode prog_4_method_2_code 4 = .ok (.invokestatic 27, 3) := by decide +kernel
theorem d_Entries_slot_7 : decode prog_4_method_2_code 7 = .ok (.ireturn, 1) := by decide +kernel
theorem d_Entries_set_0 : decode prog_4_method_3_code 0 = .ok (.aload_n 0, 1) := by decide +kernel
theorem d_Entries_set_1 : decode prog_4_method_3_code 1 = .ok (.iload_n 1, 1) := by decide +kernel
theorem d_Entries_set_2 : decode prog_4_method_3_code 2 = .ok (.invokevirtual 33, 3) := by decide +kernel
theorem d_Entries_set_5 : decode prog_4_method_3_code 5 = .ok (.istore 7, 2) := by decide +kernel
theorem d_Entries_set_7 : decode prog_4_method_3_code 7 = .ok (.aload_n 0, 1) := by decide +kernel
theorem d_Entries_set_8 : decode prog_4_method_3_code 8 = .ok (.getfield 11, 3) := by decide +kernel
theorem d_Entries_set_11 : decode prog_4_method_3_code 11 = .ok (.iload 7, 2) := by decide +kernel
theorem d_Entries_set_13 : decode prog_4_method_3_code 13 = .ok (.iload_n 2, 1) := by decide +kernel
theorem d_Entries_set_14 : decode prog_4_method_3_code 14 = .ok (.iastore, 1) := by decide +kernel
theorem d_Entries_set_15 : decode prog_4_method_3_code 15 = .ok (.aload_n 0, 1) := by decide +kernel
theorem d_Entries_set_16 : decode prog_4_method_3_code 16 = .ok (.getfield 15, 3) := by decide +kernel
theorem d_Entries_set_19 : decode prog_4_method_3_code 19 = .ok (.iload 7, 2) := by decide +kernel
theorem d_Entries_set_21 : decode prog_4_method_3_code 21 = .ok (.iload_n 3, 1) := by decide +kernel
theorem d_Entries_set_22 : decode prog_4_method_3_code 22 = .ok (.iastore, 1) := by decide +kernel
theorem d_Entries_set_23 : decode prog_4_method_3_code 23 = .ok (.aload_n 0, 1) := by decide +kernel
theorem d_Entries_set_24 : decode prog_4_method_3_code 24 = .ok (.getfield 18, 3) := by decide +kernel
theorem d_Entries_set_27 : decode prog_4_method_3_code 27 = .ok (.iload 7, 2) := by decide +kernel
theorem d_Entries_set_29 : decode prog_4_method_3_code 29 = .ok (.iload 4, 2) := by decide +kernel
theorem d_Entries_set_31 : decode prog_4_method_3_code 31 = .ok (.iastore, 1) := by decide +kernel
theorem d_Entries_set_32 : decode prog_4_method_3_code 32 = .ok (.aload_n 0, 1) := by decide +kernel
theorem d_Entries_set_33 : decode prog_4_method_3_code 33 = .ok (.getfield 21, 3) := by decide +kernel
theorem d_Entries_set_36 : decode prog_4_method_3_code 36 = .ok (.iload 7, 2) := by decide +kernel
theorem d_Entries_set_38 : decode prog_4_method_3_code 38 = .ok (.iload 5, 2) := by decide +kernel
theorem d_Entries_set_40 : decode prog_4_method_3_code 40 = .ok (.iastore, 1) := by decide +kernel
theorem d_Entries_set_41 : decode prog_4_method_3_code 41 = .ok (.aload_n 0, 1) := by decide +kernel
theorem d_Entries_set_42 : decode prog_4_method_3_code 42 = .ok (.getfield 24, 3) := by decide +kernel
theorem d_Entries_set_45 : decode prog_4_method_3_code 45 = .ok (.iload 7, 2) := by decide +kernel
theorem d_Entries_set_47 : decode prog_4_method_3_code 47 = .ok (.iload 6, 2) := by decide +kernel
theorem d_Entries_set_49 : decode prog_4_method_3_code 49 = .ok (.iastore, 1) := by decide +kernel
theorem d_Entries_set_50 : decode prog_4_method_3_code 50 = .ok (.return_, 1) := by decide +kernel
theorem d_Frame_init_0 : decode prog_5_method_1_code 0 = .ok (.aload_n 0, 1) := by decide +kernel
theorem d_Frame_init_1 : decode prog_5_method_1_code 1 = .ok (.invokespecial 3, 3) := by decide +kernel
theorem d_Frame_init_4 : decode prog_5_method_1_code 4 = .ok (.aload_n 0, 1) := by decide +kernel
theorem d_Frame_init_5 : decode prog_5_method_1_code 5 = .ok (.sipush 4121, 3) := by decide +kernel
theorem d_Frame_init_8 : decode prog_5_method_1_code 8 = .ok (.newarray .byte, 2) := by decide +kernel
theorem d_Frame_init_10 : decode prog_5_method_1_code 10 = .ok (.putfield 9, 3) := by decide +kernel
theorem d_Frame_init_13 : decode prog_5_method_1_code 13 = .ok (.return_, 1) := by decide +kernel
theorem d_Frame_begin_0 : decode prog_5_method_2_code 0 = .ok (.aload_n 0, 1) := by decide +kernel
theorem d_Frame_begin_1 : decode prog_5_method_2_code 1 = .ok (.bipush 8, 2) := by decide +kernel
theorem d_Frame_begin_3 : decode prog_5_method_2_code 3 = .ok (.putfield 15, 3) := by decide +kernel
theorem d_Frame_begin_6 : decode prog_5_method_2_code 6 = .ok (.return_, 1) := by decide +kernel
theorem d_Frame_add_0 : decode prog_5_method_3_code 0 = .ok (.iload_n 3, 1) := by decide +kernel
theorem d_Frame_add_1 : decode prog_5_method_3_code 1 = .ok (.aload_n 0, 1) := by decide +kernel
theorem d_Frame_add_2 : decode prog_5_method_3_code 2 = .ok (.getfield 9, 3) := by decide +kernel
theorem d_Frame_add_5 : decode prog_5_method_3_code 5 = .ok (.arraylength, 1) := by decide +kernel
theorem d_Frame_add_6 : decode prog_5_method_3_code 6 = .ok (.aload_n 0, 1) := by decide +kernel
theorem d_Frame_add_7 : decode prog_5_method_3_code 7 = .ok (.getfield 15, 3) := by decide +kernel
theorem d_Frame_add_10 : decode prog_5_method_3_code 10 = .ok (.isub, 1) := by decide +kernel
theorem d_Frame_add_11 : decode prog_5_method_3_code 11 = .ok (.if_icmp .gt 23, 3) := by decide +kernel
theorem d_Frame_add_14 : decode prog_5_method_3_code 14 = .ok (.aload_n 0, 1) := by decide +kernel
theorem d_Frame_add_15 : decode prog_5_method_3_code 15 = .ok (.aload_n 0, 1) := by decide +kernel
theorem d_Frame_add_16 : decode prog_5_method_3_code 16 = .ok (.getfield 15, 3) := by decide +kernel
theorem d_Frame_add_19 : decode prog_5_method_3_code 19 = .ok (.lload_n 1, 1) := by decide +kernel
theorem d_Frame_add_20 : decode prog_5_method_3_code 20 = .ok (.iload_n 3, 1) := by decide +kernel
theorem d_Frame_add_21 : decode prog_5_method_3_code 21 = .ok (.invokevirtual 19, 3) := by decide +kernel
theorem d_Frame_add_24 : decode prog_5_method_3_code 24 = .ok (.aload_n 0, 1) := by decide +kernel
theorem d_Frame_add_25 : decode prog_5_method_3_code 25 = .ok (.dup, 1) := by decide +kernel
theorem d_Frame_add_26 : decode prog_5_method_3_code 26 = .ok (.getfield 15, 3) := by decide +kernel
theorem d_Frame_add_29 : decode prog_5_method_3_code 29 = .ok (.iload_n 3, 1) := by decide +kernel
theorem d_Frame_add_30 : decode prog_5_method_3_code 30 = .ok (.iadd, 1) := by decide +kernel
theorem d_Frame_add_31 : decode prog_5_method_3_code 31 = .ok (.putfield 15, 3) := by decide +kernel
theorem d_Frame_add_34 : decode prog_5_method_3_code 34 = .ok (.return_, 1) := by decide +kernel
theorem d_Frame_addBytes_0 : decode prog_5_method_4_code 0 = .ok (.iload_n 2, 1) := by decide +kernel
theorem d_Frame_addBytes_1 : decode prog_5_method_4_code 1 = .ok (.aload_n 1, 1) := by decide +kernel
theorem d_Frame_addBytes_2 : decode prog_5_method_4_code 2 = .ok (.arraylength, 1) := by decide +kernel
theorem d_Frame_addBytes_3 : decode prog_5_method_4_code 3 = .ok (.if_icmp .gt 41, 3) := by decide +kernel
theorem d_Frame_addBytes_6 : decode prog_5_method_4_code 6 = .ok (.iload_n 2, 1) := by decide +kernel
theorem d_Frame_addBytes_7 : decode prog_5_method_4_code 7 = .ok (.aload_n 0, 1) := by decide +kernel
theorem d_Frame_addBytes_8 : decode prog_5_method_4_code 8 = .ok (.getfield 9, 3) := by decide +kernel
theorem d_Frame_addBytes_11 : decode prog_5_method_4_code 11 = .ok (.arraylength, 1) := by decide +kernel
theorem d_Frame_addBytes_12 : decode prog_5_method_4_code 12 = .ok (.aload_n 0, 1) := by decide +kernel
theorem d_Frame_addBytes_13 : decode prog_5_method_4_code 13 = .ok (.getfield 15, 3) := by decide +kernel
theorem d_Frame_addBytes_16 : decode prog_5_method_4_code 16 = .ok (.isub, 1) := by decide +kernel
theorem d_Frame_addBytes_17 : decode prog_5_method_4_code 17 = .ok (.if_icmp .gt 27, 3) := by decide +kernel
theorem d_Frame_addBytes_20 : decode prog_5_method_4_code 20 = .ok (.aload_n 1, 1) := by decide +kernel
theorem d_Frame_addBytes_21 : decode prog_5_method_4_code 21 = .ok (.iconst 0, 1) := by decide +kernel
theorem d_Frame_addBytes_22 : decode prog_5_method_4_code 22 = .ok (.aload_n 0, 1) := by decide +kernel
theorem d_Frame_addBytes_23 : decode prog_5_method_4_code 23 = .ok (.getfield 9, 3) := by decide +kernel
theorem d_Frame_addBytes_26 : decode prog_5_method_4_code 26 = .ok (.aload_n 0, 1) := by decide +kernel
theorem d_Frame_addBytes_27 : decode prog_5_method_4_code 27 = .ok (.getfield 15, 3) := by decide +kernel
theorem d_Frame_addBytes_30 : decode prog_5_method_4_code 30 = .ok (.iload_n 2, 1) := by decide +kernel
theorem d_Frame_addBytes_31 : decode prog_5_method_4_code 31 = .ok (.invokestatic 23, 3) := by decide +kernel
theorem d_Frame_addBytes_34 : decode prog_5_method_4_code 34 = .ok (.aload_n 0, 1) := by decide +kernel
theorem d_Frame_addBytes_35 : decode prog_5_method_4_code 35 = .ok (.dup, 1) := by decide +kernel
theorem d_Frame_addBytes_36 : decode prog_5_method_4_code 36 = .ok (.getfield 15, 3) := by decide +kernel
theorem d_Frame_addBytes_39 : decode prog_5_method_4_code 39 = .ok (.iload_n 2, 1) := by decide +kernel
theorem d_Frame_addBytes_40 : decode prog_5_method_4_code 40 = .ok (.iadd, 1) := by decide +kernel
theorem d_Frame_addBytes_41 : decode prog_5_method_4_code 41 = .ok (.putfield 15, 3) := by decide +kernel
theorem d_Frame_addBytes_44 : decode prog_5_method_4_code 44 = .ok (.return_, 1) := by decide +kernel
theorem d_Frame_close_0 : decode prog_5_method_5_code 0 = .ok (.iconst (-1), 1) := by decide +kernel
theorem d_Frame_close_1 : decode prog_5_method_5_code 1 = .ok (.istore_n 1, 1) := by decide +kernel
theorem d_Frame_close_2 : decode prog_5_method_5_code 2 = .ok (.bipush 8, 2) := by decide +kernel
theorem d_Frame_close_4 : decode prog_5_method_5_code 4 = .ok (.istore_n 2, 1) := by decide +kernel
theorem d_Frame_close_5 : decode prog_5_method_5_code 5 = .ok (.iload_n 2, 1) := by decide +kernel
theorem d_Frame_close_6 : decode prog_5_method_5_code 6 = .ok (.aload_n 0, 1) := by decide +kernel
theorem d_Frame_close_7 : decode prog_5_method_5_code 7 = .ok (.getfield 15, 3) := by decide +kernel
theorem d_Frame_close_10 : decode prog_5_method_5_code 10 = .ok (.if_icmp .ge 24, 3) := by decide +kernel
theorem d_Frame_close_13 : decode prog_5_method_5_code 13 = .ok (.iload_n 1, 1) := by decide +kernel
theorem d_Frame_close_14 : decode prog_5_method_5_code 14 = .ok (.aload_n 0, 1) := by decide +kernel
theorem d_Frame_close_15 : decode prog_5_method_5_code 15 = .ok (.getfield 9, 3) := by decide +kernel
theorem d_Frame_close_18 : decode prog_5_method_5_code 18 = .ok (.iload_n 2, 1) := by decide +kernel
theorem d_Frame_close_19 : decode prog_5_method_5_code 19 = .ok (.baload, 1) := by decide +kernel
theorem d_Frame_close_20 : decode prog_5_method_5_code 20 = .ok (.sipush 255, 3) := by decide +kernel
theorem d_Frame_close_23 : decode prog_5_method_5_code 23 = .ok (.iand, 1) := by decide +kernel
theorem d_Frame_close_24 : decode prog_5_method_5_code 24 = .ok (.invokestatic 29, 3) := by decide +kernel
theorem d_Frame_close_27 : decode prog_5_method_5_code 27 = .ok (.istore_n 1, 1) := by decide +kernel
theorem d_Frame_close_28 : decode prog_5_method_5_code 28 = .ok (.iinc 2 1, 3) := by decide +kernel
theorem d_Frame_close_31 : decode prog_5_method_5_code 31 = .ok (.goto (-26), 3) := by decide +kernel
theorem d_Frame_close_34 : decode prog_5_method_5_code 34 = .ok (.aload_n 0, 1) := by decide +kernel
theorem d_Frame_close_35 : decode prog_5_method_5_code 35 = .ok (.iconst 0, 1) := by decide +kernel
theorem d_Frame_close_36 : decode prog_5_method_5_code 36 = .ok (.aload_n 0, 1) := by decide +kernel
theorem d_Frame_close_37 : decode prog_5_method_5_code 37 = .ok (.getfield 15, 3) := by decide +kernel
theorem d_Frame_close_40 : decode prog_5_method_5_code 40 = .ok (.bipush 8, 2) := by decide +kernel
theorem d_Frame_close_42 : decode prog_5_method_5_code 42 = .ok (.isub, 1) := by decide +kernel
theorem d_Frame_close_43 : decode prog_5_method_5_code 43 = .ok (.i2l, 1) := by decide +kernel
theorem d_Frame_close_44 : decode prog_5_method_5_code 44 = .ok (.iconst 4, 1) := by decide +kernel
theorem d_Frame_close_45 : decode prog_5_method_5_code 45 = .ok (.invokevirtual 19, 3) := by decide +kernel
theorem d_Frame_close_48 : decode prog_5_method_5_code 48 = .ok (.aload_n 0, 1) := by decide +kernel
theorem d_Frame_close_49 : decode prog_5_method_5_code 49 = .ok (.iconst 4, 1) := by decide +kernel
theorem d_Frame_close_50 : decode prog_5_method_5_code 50 = .ok (.iload_n 1, 1) := by decide +kernel
theorem d_Frame_close_51 : decode prog_5_method_5_code 51 = .ok (.iconst (-1), 1) := by decide +kernel
theorem d_Frame_close_52 : decode prog_5_method_5_code 52 = .ok (.ixor, 1) := by decide +kernel
theorem d_Frame_close_53 : decode prog_5_method_5_code 53 = .ok (.i2l, 1) := by decide +kernel
theorem d_Frame_close_54 : decode prog_5_method_5_code 54 = .ok (.iconst 4, 1) := by decide +kernel
theorem d_Frame_close_55 : decode prog_5_method_5_code 55 = .ok (.invokevirtual 19, 3) := by decide +kernel
theorem d_Frame_close_58 : decode prog_5_method_5_code 58 = .ok (.return_, 1) := by decide +kernel
theorem d_Frame_put_0 : decode prog_5_method_6_code 0 = .ok (.iconst 0, 1) := by decide +kernel
theorem d_Frame_put_1 : decode prog_5_method_6_code 1 = .ok (.istore 5, 2) := by decide +kernel
theorem d_Frame_put_3 : decode prog_5_method_6_code 3 = .ok (.iload 5, 2) := by decide +kernel
theorem d_Frame_put_5 : decode prog_5_method_6_code 5 = .ok (.iload 4, 2) := by decide +kernel
theorem d_Frame_put_7 : decode prog_5_method_6_code 7 = .ok (.if_icmp .ge 27, 3) := by decide +kernel
theorem d_Frame_put_10 : decode prog_5_method_6_code 10 = .ok (.aload_n 0, 1) := by decide +kernel
theorem d_Frame_put_11 : decode prog_5_method_6_code 11 = .ok (.getfield 9, 3) := by decide +kernel
theorem d_Frame_put_14 : decode prog_5_method_6_code 14 = .ok (.iload_n 1, 1) := by decide +kernel
theorem d_Frame_put_15 : decode prog_5_method_6_code 15 = .ok (.iload 5, 2) := by decide +kernel
theorem d_Frame_put_17 : decode prog_5_method_6_code 17 = .ok (.iadd, 1) := by decide +kernel
theorem d_Frame_put_18 : decode prog_5_method_6_code 18 = .ok (.lload_n 2, 1) := by decide +kernel
theorem d_Frame_put_19 : decode prog_5_method_6_code 19 = .ok (.bipush 8, 2) := by decide +kernel
theorem d_Frame_put_21 : decode prog_5_method_6_code 21 = .ok (.iload 5, 2) := by decide +kernel
theorem d_Frame_put_23 : decode prog_5_method_6_code 23 = .ok (.imul, 1) := by decide +kernel
theorem d_Frame_put_24 : decode prog_5_method_6_code 24 = .ok (.lushr, 1) := by decide +kernel
theorem d_Frame_put_25 : decode prog_5_method_6_code 25 = .ok (.l2i, 1) := by decide +kernel
theorem d_Frame_put_26 : decode prog_5_method_6_code 26 = .ok (.i2b, 1) := by decide +kernel
theorem d_Frame_put_27 : decode prog_5_method_6_code 27 = .ok (.bastore, 1) := by decide +kernel
theorem d_Frame_put_28 : decode prog_5_method_6_code 28 = .ok (.iinc 5 1, 3) := by decide +kernel
theorem d_Frame_put_31 : decode prog_5_method_6_code 31 = .ok (.goto (-28), 3) := by decide +kernel
theorem d_Frame_put_34 : decode prog_5_method_6_code 34 = .ok (.return_, 1) := by decide +kernel
theorem d_Pages_init_0 : decode prog_6_method_1_code 0 = .ok (.aload_n 0, 1) := by decide +kernel
theorem d_Pages_init_1 : decode prog_6_method_1_code 1 = .ok (.invokespecial 3, 3) := by decide +kernel
theorem d_Pages_init_4 : decode prog_6_method_1_code 4 = .ok (.aload_n 0, 1) := by decide +kernel
theorem d_Pages_init_5 : decode prog_6_method_1_code 5 = .ok (.iload_n 1, 1) := by decide +kernel
theorem d_Pages_init_6 : decode prog_6_method_1_code 6 = .ok (.bipush 64, 2) := by decide +kernel
theorem d_Pages_init_8 : decode prog_6_method_1_code 8 = .ok (.imul, 1) := by decide +kernel
theorem d_Pages_init_9 : decode prog_6_method_1_code 9 = .ok (.newarray .byte, 2) := by decide +kernel
theorem d_Pages_init_11 : decode prog_6_method_1_code 11 = .ok (.putfield 9, 3) := by decide +kernel
theorem d_Pages_init_14 : decode prog_6_method_1_code 14 = .ok (.aload_n 0, 1) := by decide +kernel
theorem d_Pages_init_15 : decode prog_6_method_1_code 15 = .ok (.iload_n 1, 1) := by decide +kernel
theorem d_Pages_init_16 : decode prog_6_method_1_code 16 = .ok (.newarray .int, 2) := by decide +kernel
theorem d_Pages_init_18 : decode prog_6_method_1_code 18 = .ok (.putfield 15, 3) := by decide +kernel
theorem d_Pages_init_21 : decode prog_6_method_1_code 21 = .ok (.aload_n 0, 1) := by decide +kernel
theorem d_Pages_init_22 : decode prog_6_method_1_code 22 = .ok (.iload_n 1, 1) := by decide +kernel
theorem d_Pages_init_23 : decode prog_6_method_1_code 23 = .ok (.newarray .int, 2) := by decide +kernel
theorem d_Pages_init_25 : decode prog_6_method_1_code 25 = .ok (.putfield 19, 3) := by decide +kernel
theorem d_Pages_init_28 : decode prog_6_method_1_code 28 = .ok (.aload_n 0, 1) := by decide +kernel
theorem d_Pages_init_29 : decode prog_6_method_1_code 29 = .ok (.iload_n 1, 1) := by decide +kernel
theorem d_Pages_init_30 : decode prog_6_method_1_code 30 = .ok (.putfield 22, 3) := by decide +kernel
theorem d_Pages_init_33 : decode prog_6_method_1_code 33 = .ok (.iconst 0, 1) := by decide +kernel
theorem d_Pages_init_34 : decode prog_6_method_1_code 34 = .ok (.istore_n 2, 1) := by decide +kernel
theorem d_Pages_init_35 : decode prog_6_method_1_code 35 = .ok (.iload_n 2, 1) := by decide +kernel
theorem d_Pages_init_36 : decode prog_6_method_1_code 36 = .ok (.iload_n 1, 1) := by decide +kernel
theorem d_Pages_init_37 : decode prog_6_method_1_code 37 = .ok (.if_icmp .ge 20, 3) := by decide +kernel
theorem d_Pages_init_40 : decode prog_6_method_1_code 40 = .ok (.aload_n 0, 1) := by decide +kernel
theorem d_Pages_init_41 : decode prog_6_method_1_code 41 = .ok (.getfield 19, 3) := by decide +kernel
theorem d_Pages_init_44 : decode prog_6_method_1_code 44 = .ok (.iload_n 2, 1) := by decide +kernel
theorem d_Pages_init_45 : decode prog_6_method_1_code 45 = .ok (.iload_n 1, 1) := by decide +kernel
theorem d_Pages_init_46 : decode prog_6_method_1_code 46 = .ok (.iconst 1, 1) := by decide +kernel
theorem d_Pages_init_47 : decode prog_6_method_1_code 47 = .ok (.isub, 1) := by decide +kernel
theorem d_Pages_init_48 : decode prog_6_method_1_code 48 = .ok (.iload_n 2, 1) := by decide +kernel
theorem d_Pages_init_49 : decode prog_6_method_1_code 49 = .ok (.isub, 1) := by decide +kernel
theorem d_Pages_init_50 : decode prog_6_method_1_code 50 = .ok (.iastore, 1) := by decide +kernel
theorem d_Pages_init_51 : decode prog_6_method_1_code 51 = .ok (.iinc 2 1, 3) := by decide +kernel
theorem d_Pages_init_54 : decode prog_6_method_1_code 54 = .ok (.goto (-19), 3) := by decide +kernel
theorem d_Pages_init_57 : decode prog_6_method_1_code 57 = .ok (.return_, 1) := by decide +kernel
theorem d_Pages_used_0 : decode prog_6_method_2_code 0 = .ok (.aload_n 0, 1) := by decide +kernel
theorem d_Pages_used_1 : decode prog_6_method_2_code 1 = .ok (.getfield 19, 3) := by decide +kernel
theorem d_Pages_used_4 : decode prog_6_method_2_code 4 = .ok (.arraylength, 1) := by decide +kernel
theorem d_Pages_used_5 : decode prog_6_method_2_code 5 = .ok (.aload_n 0, 1) := by decide +kernel
theorem d_Pages_used_6 : decode prog_6_method_2_code 6 = .ok (.getfield 22, 3) := by decide +kernel
theorem d_Pages_used_9 : decode prog_6_method_2_code 9 = .ok (.isub, 1) := by decide +kernel
theorem d_Pages_used_10 : decode prog_6_method_2_code 10 = .ok (.ireturn, 1) := by decide +kernel
theorem d_Pages_seize_0 : decode prog_6_method_3_code 0 = .ok (.aload_n 0, 1) := by decide +kernel
theorem d_Pages_seize_1 : decode prog_6_method_3_code 1 = .ok (.getfield 22, 3) := by decide +kernel
theorem d_Pages_seize_4 : decode prog_6_method_3_code 4 = .ok (.ifCond .le 13, 3) := by decide +kernel
theorem d_Pages_seize_7 : decode prog_6_method_3_code 7 = .ok (.aload_n 0, 1) := by decide +kernel
theorem d_Pages_seize_8 : decode prog_6_method_3_code 8 = .ok (.dup, 1) := by decide +kernel
theorem d_Pages_seize_9 : decode prog_6_method_3_code 9 = .ok (.getfield 22, 3) := by decide +kernel
theorem d_Pages_seize_12 : decode prog_6_method_3_code 12 = .ok (.iconst 1, 1) := by decide +kernel
theorem d_Pages_seize_13 : decode prog_6_method_3_code 13 = .ok (.isub, 1) := by decide +kernel
theorem d_Pages_seize_14 : decode prog_6_method_3_code 14 = .ok (.putfield 22, 3) := by decide +kernel
theorem d_Pages_seize_17 : decode prog_6_method_3_code 17 = .ok (.aload_n 0, 1) := by decide +kernel
theorem d_Pages_seize_18 : decode prog_6_method_3_code 18 = .ok (.getfield 19, 3) := by decide +kernel
theorem d_Pages_seize_21 : decode prog_6_method_3_code 21 = .ok (.aload_n 0, 1) := by decide +kernel
theorem d_Pages_seize_22 : decode prog_6_method_3_code 22 = .ok (.getfield 22, 3) := by decide +kernel
theorem d_Pages_seize_25 : decode prog_6_method_3_code 25 = .ok (.iaload, 1) := by decide +kernel
theorem d_Pages_seize_26 : decode prog_6_method_3_code 26 = .ok (.istore_n 1, 1) := by decide +kernel
theorem d_Pages_seize_27 : decode prog_6_method_3_code 27 = .ok (.aload_n 0, 1) := by decide +kernel
theorem d_Pages_seize_28 : decode prog_6_method_3_code 28 = .ok (.getfield 15, 3) := by decide +kernel
theorem d_Pages_seize_31 : decode prog_6_method_3_code 31 = .ok (.iload_n 1, 1) := by decide +kernel
theorem d_Pages_seize_32 : decode prog_6_method_3_code 32 = .ok (.iconst 1, 1) := by decide +kernel
theorem d_Pages_seize_33 : decode prog_6_method_3_code 33 = .ok (.iastore, 1) := by decide +kernel
theorem d_Pages_seize_34 : decode prog_6_method_3_code 34 = .ok (.iload_n 1, 1) := by decide +kernel
theorem d_Pages_seize_35 : decode prog_6_method_3_code 35 = .ok (.ireturn, 1) := by decide +kernel
theorem d_Pages_share_0 : decode prog_6_method_4_code 0 = .ok (.aload_n 0, 1) := by decide +kernel
theorem d_Pages_share_1 : decode prog_6_method_4_code 1 = .ok (.getfield 15, 3) := by decide +kernel
theorem d_Pages_share_4 : decode prog_6_method_4_code 4 = .ok (.iload_n 1, 1) := by decide +kernel
theorem d_Pages_share_5 : decode prog_6_method_4_code 5 = .ok (.dup2, 1) := by decide +kernel
theorem d_Pages_share_6 : decode prog_6_method_4_code 6 = .ok (.iaload, 1) := by decide +kernel
theorem d_Pages_share_7 : decode prog_6_method_4_code 7 = .ok (.iconst 1, 1) := by decide +kernel
theorem d_Pages_share_8 : decode prog_6_method_4_code 8 = .ok (.iadd, 1) := by decide +kernel
theorem d_Pages_share_9 : decode prog_6_method_4_code 9 = .ok (.iastore, 1) := by decide +kernel
theorem d_Pages_share_10 : decode prog_6_method_4_code 10 = .ok (.return_, 1) := by decide +kernel
theorem d_Pages_giveUp_0 : decode prog_6_method_5_code 0 = .ok (.aload_n 0, 1) := by decide +kernel
theorem d_Pages_giveUp_1 : decode prog_6_method_5_code 1 = .ok (.getfield 15, 3) := by decide +kernel
theorem d_Pages_giveUp_4 : decode prog_6_method_5_code 4 = .ok (.iload_n 1, 1) := by decide +kernel
theorem d_Pages_giveUp_5 : decode prog_6_method_5_code 5 = .ok (.dup2, 1) := by decide +kernel
theorem d_Pages_giveUp_6 : decode prog_6_method_5_code 6 = .ok (.iaload, 1) := by decide +kernel
theorem d_Pages_giveUp_7 : decode prog_6_method_5_code 7 = .ok (.iconst 1, 1) := by decide +kernel
theorem d_Pages_giveUp_8 : decode prog_6_method_5_code 8 = .ok (.isub, 1) := by decide +kernel
theorem d_Pages_giveUp_9 : decode prog_6_method_5_code 9 = .ok (.iastore, 1) := by decide +kernel
theorem d_Pages_giveUp_10 : decode prog_6_method_5_code 10 = .ok (.aload_n 0, 1) := by decide +kernel
theorem d_Pages_giveUp_11 : decode prog_6_method_5_code 11 = .ok (.getfield 15, 3) := by decide +kernel
theorem d_Pages_giveUp_14 : decode prog_6_method_5_code 14 = .ok (.iload_n 1, 1) := by decide +kernel
theorem d_Pages_giveUp_15 : decode prog_6_method_5_code 15 = .ok (.iaload, 1) := by decide +kernel
theorem d_Pages_giveUp_16 : decode prog_6_method_5_code 16 = .ok (.ifCond .ne 35, 3) := by decide +kernel
theorem d_Pages_giveUp_19 : decode prog_6_method_5_code 19 = .ok (.aload_n 0, 1) := by decide +kernel
theorem d_Pages_giveUp_20 : decode prog_6_method_5_code 20 = .ok (.getfield 22, 3) := by decide +kernel
theorem d_Pages_giveUp_23 : decode prog_6_method_5_code 23 = .ok (.aload_n 0, 1) := by decide +kernel
theorem d_Pages_giveUp_24 : decode prog_6_method_5_code 24 = .ok (.getfield 19, 3) := by decide +kernel
theorem d_Pages_giveUp_27 : decode prog_6_method_5_code 27 = .ok (.arraylength, 1) := by decide +kernel
theorem d_Pages_giveUp_28 : decode prog_6_method_5_code 28 = .ok (.if_icmp .ge 23, 3) := by decide +kernel
theorem d_Pages_giveUp_31 : decode prog_6_method_5_code 31 = .ok (.aload_n 0, 1) := by decide +kernel
theorem d_Pages_giveUp_32 : decode prog_6_method_5_code 32 = .ok (.getfield 19, 3) := by decide +kernel
theorem d_Pages_giveUp_35 : decode prog_6_method_5_code 35 = .ok (.aload_n 0, 1) := by decide +kernel
theorem d_Pages_giveUp_36 : decode prog_6_method_5_code 36 = .ok (.getfield 22, 3) := by decide +kernel
theorem d_Pages_giveUp_39 : decode prog_6_method_5_code 39 = .ok (.iload_n 1, 1) := by decide +kernel
theorem d_Pages_giveUp_40 : decode prog_6_method_5_code 40 = .ok (.iastore, 1) := by decide +kernel
theorem d_Pages_giveUp_41 : decode prog_6_method_5_code 41 = .ok (.aload_n 0, 1) := by decide +kernel
theorem d_Pages_giveUp_42 : decode prog_6_method_5_code 42 = .ok (.dup, 1) := by decide +kernel
theorem d_Pages_giveUp_43 : decode prog_6_method_5_code 43 = .ok (.getfield 22, 3) := by decide +kernel
theorem d_Pages_giveUp_46 : decode prog_6_method_5_code 46 = .ok (.iconst 1, 1) := by decide +kernel
theorem d_Pages_giveUp_47 : decode prog_6_method_5_code 47 = .ok (.iadd, 1) := by decide +kernel
theorem d_Pages_giveUp_48 : decode prog_6_method_5_code 48 = .ok (.putfield 22, 3) := by decide +kernel
theorem d_Pages_giveUp_51 : decode prog_6_method_5_code 51 = .ok (.return_, 1) := by decide +kernel
theorem d_Segments_init_0 : decode prog_7_method_1_code 0 = .ok (.aload_n 0, 1) := by decide +kernel
theorem d_Segments_init_1 : decode prog_7_method_1_code 1 = .ok (.invokespecial 3, 3) := by decide +kernel
theorem d_Segments_init_4 : decode prog_7_method_1_code 4 = .ok (.aload_n 0, 1) := by decide +kernel
theorem d_Segments_init_5 : decode prog_7_method_1_code 5 = .ok (.bipush 12, 2) := by decide +kernel
theorem d_Segments_init_7 : decode prog_7_method_1_code 7 = .ok (.newarray .int, 2) := by decide +kernel
theorem d_Segments_init_9 : decode prog_7_method_1_code 9 = .ok (.putfield 9, 3) := by decide +kernel
theorem d_Segments_init_12 : decode prog_7_method_1_code 12 = .ok (.aload_n 0, 1) := by decide +kernel
theorem d_Segments_init_13 : decode prog_7_method_1_code 13 = .ok (.bipush 12, 2) := by decide +kernel
theorem d_Segments_init_15 : decode prog_7_method_1_code 15 = .ok (.newarray .int, 2) := by decide +kernel
theorem d_Segments_init_17 : decode prog_7_method_1_code 17 = .ok (.putfield 15, 3) := by decide +kernel
theorem d_Segments_init_20 : decode prog_7_method_1_code 20 = .ok (.return_, 1) := by decide +kernel
theorem d_Segments_add_0 : decode prog_7_method_2_code 0 = .ok (.aload_n 0, 1) := by decide +kernel
theorem d_Segments_add_1 : decode prog_7_method_2_code 1 = .ok (.getfield 18, 3) := by decide +kernel
theorem d_Segments_add_4 : decode prog_7_method_2_code 4 = .ok (.bipush 12, 2) := by decide +kernel
theorem d_Segments_add_6 : decode prog_7_method_2_code 6 = .ok (.if_icmp .ge 33, 3) := by decide +kernel
theorem d_Segments_add_9 : decode prog_7_method_2_code 9 = .ok (.aload_n 0, 1) := by decide +kernel
theorem d_Segments_add_10 : decode prog_7_method_2_code 10 = .ok (.getfield 9, 3) := by decide +kernel
theorem d_Segments_add_13 : decode prog_7_method_2_code 13 = .ok (.aload_n 0, 1) := by decide +kernel
theorem d_Segments_add_14 : decode prog_7_method_2_code 14 = .ok (.getfield 18, 3) := by decide +kernel
theorem d_Segments_add_17 : decode prog_7_method_2_code 17 = .ok (.iload_n 1, 1) := by decide +kernel
theorem d_Segments_add_18 : decode prog_7_method_2_code 18 = .ok (.iastore, 1) := by decide +kernel
theorem d_Segments_add_19 : decode prog_7_method_2_code 19 = .ok (.aload_n 0, 1) := by decide +kernel
theorem d_Segments_add_20 : decode prog_7_method_2_code 20 = .ok (.getfield 15, 3) := by decide +kernel
theorem d_Segments_add_23 : decode prog_7_method_2_code 23 = .ok (.aload_n 0, 1) := by decide +kernel
theorem d_Segments_add_24 : decode prog_7_method_2_code 24 = .ok (.getfield 18, 3) := by decide +kernel
theorem d_Segments_add_27 : decode prog_7_method_2_code 27 = .ok (.iload_n 2, 1) := by decide +kernel
theorem d_Segments_add_28 : decode prog_7_method_2_code 28 = .ok (.iastore, 1) := by decide +kernel
theorem d_Segments_add_29 : decode prog_7_method_2_code 29 = .ok (.aload_n 0, 1) := by decide +kernel
theorem d_Segments_add_30 : decode prog_7_method_2_code 30 = .ok (.dup, 1) := by decide +kernel
theorem d_Segments_add_31 : decode prog_7_method_2_code 31 = .ok (.getfield 18, 3) := by decide +kernel
theorem d_Segments_add_34 : decode prog_7_method_2_code 34 = .ok (.iconst 1, 1) := by decide +kernel
theorem d_Segments_add_35 : decode prog_7_method_2_code 35 = .ok (.iadd, 1) := by decide +kernel
theorem d_Segments_add_36 : decode prog_7_method_2_code 36 = .ok (.putfield 18, 3) := by decide +kernel
theorem d_Segments_add_39 : decode prog_7_method_2_code 39 = .ok (.return_, 1) := by decide +kernel
theorem d_Segments_lastFile_0 : decode prog_7_method_3_code 0 = .ok (.aload_n 0, 1) := by decide +kernel
theorem d_Segments_lastFile_1 : decode prog_7_method_3_code 1 = .ok (.getfield 18, 3) := by decide +kernel
theorem d_Segments_lastFile_4 : decode prog_7_method_3_code 4 = .ok (.ifCond .ne 7, 3) := by decide +kernel
theorem d_Segments_lastFile_7 : decode prog_7_method_3_code 7 = .ok (.iconst (-1), 1) := by decide +kernel
theorem d_Segments_lastFile_8 : decode prog_7_method_3_code 8 = .ok (.goto 14, 3) := by decide +kernel
theorem d_Segments_lastFile_11 : decode prog_7_method_3_code 11 = .ok (.aload_n 0, 1) := by decide +kernel
theorem d_Segments_lastFile_12 : decode prog_7_method_3_code 12 = .ok (.getfield 9, 3) := by decide +kernel
theorem d_Segments_lastFile_15 : decode prog_7_method_3_code 15 = .ok (.aload_n 0, 1) := by decide +kernel
theorem d_Segments_lastFile_16 : decode prog_7_method_3_code 16 = .ok (.getfield 18, 3) := by decide +kernel
theorem d_Segments_lastFile_19 : decode prog_7_method_3_code 19 = .ok (.iconst 1, 1) := by decide +kernel
theorem d_Segments_lastFile_20 : decode prog_7_method_3_code 20 = .ok (.isub, 1) := by decide +kernel
theorem d_Segments_lastFile_21 : decode prog_7_method_3_code 21 = .ok (.iaload, 1) := by decide +kernel
theorem d_Segments_lastFile_22 : decode prog_7_method_3_code 22 = .ok (.ireturn, 1) := by decide +kernel
theorem d_Segments_has_0 : decode prog_7_method_4_code 0 = .ok (.iconst 0, 1) := by decide +kernel
theorem d_Segments_has_1 : decode prog_7_method_4_code 1 = .ok (.istore_n 2, 1) := by decide +kernel
theorem d_Segments_has_2 : decode prog_7_method_4_code 2 = .ok (.iload_n 2, 1) := by decide +kernel
theorem d_Segments_has_3 : decode prog_7_method_4_code 3 = .ok (.aload_n 0, 1) := by decide +kernel
theorem d_Segments_has_4 : decode prog_7_method_4_code 4 = .ok (.getfield 18, 3) := by decide +kernel
theorem d_Segments_has_7 : decode prog_7_method_4_code 7 = .ok (.if_icmp .ge 21, 3) := by decide +kernel
theorem d_Segments_has_10 : decode prog_7_method_4_code 10 = .ok (.aload_n 0, 1) := by decide +kernel
theorem d_Segments_has_11 : decode prog_7_method_4_code 11 = .ok (.getfield 9, 3) := by decide +kernel
theorem d_Segments_has_14 : decode prog_7_method_4_code 14 = .ok (.iload_n 2, 1) := by decide +kernel
theorem d_Segments_has_15 : decode prog_7_method_4_code 15 = .ok (.iaload, 1) := by decide +kernel
theorem d_Segments_has_16 : decode prog_7_method_4_code 16 = .ok (.iload_n 1, 1) := by decide +kernel
theorem d_Segments_has_17 : decode prog_7_method_4_code 17 = .ok (.if_icmp .ne 5, 3) := by decide +kernel
theorem d_Segments_has_20 : decode prog_7_method_4_code 20 = .ok (.iconst 1, 1) := by decide +kernel
theorem d_Segments_has_21 : decode prog_7_method_4_code 21 = .ok (.ireturn, 1) := by decide +kernel
theorem d_Segments_has_22 : decode prog_7_method_4_code 22 = .ok (.iinc 2 1, 3) := by decide +kernel
theorem d_Segments_has_25 : decode prog_7_method_4_code 25 = .ok (.goto (-23), 3) := by decide +kernel
theorem d_Segments_has_28 : decode prog_7_method_4_code 28 = .ok (.iconst 0, 1) := by decide +kernel
theorem d_Segments_has_29 : decode prog_7_method_4_code 29 = .ok (.ireturn, 1) := by decide +kernel
theorem d_Segments_endedBy_0 : decode prog_7_method_5_code 0 = .ok (.iconst 0, 1) := by decide +kernel
theorem d_Segments_endedBy_1 : decode prog_7_method_5_code 1 = .ok (.istore_n 2, 1) := by decide +kernel
theorem d_Segments_endedBy_2 : decode prog_7_method_5_code 2 = .ok (.iconst 1, 1) := by decide +kernel
theorem d_Segments_endedBy_3 : decode prog_7_method_5_code 3 = .ok (.istore_n 3, 1) := by decide +kernel
theorem d_Segments_endedBy_4 : decode prog_7_method_5_code 4 = .ok (.iload_n 3, 1) := by decide +kernel
theorem d_Segments_endedBy_5 : decode prog_7_method_5_code 5 = .ok (.aload_n 0, 1) := by decide +kernel
theorem d_Segments_endedBy_6 : decode prog_7_method_5_code 6 = .ok (.getfield 18, 3) := by decide +kernel
theorem d_Segments_endedBy_9 : decode prog_7_method_5_code 9 = .ok (.if_icmp .ge 24, 3) := by decide +kernel
theorem d_Segments_endedBy_12 : decode prog_7_method_5_code 12 = .ok (.aload_n 0, 1) := by decide +kernel
theorem d_Segments_endedBy_13 : decode prog_7_method_5_code 13 = .ok (.getfield 15, 3) := by decide +kernel
theorem d_Segments_endedBy_16 : decode prog_7_method_5_code 16 = .ok (.iload_n 3, 1) := by decide +kernel
theorem d_Segments_endedBy_17 : decode prog_7_method_5_code 17 = .ok (.iaload, 1) := by decide +kernel
theorem d_Segments_endedBy_18 : decode prog_7_method_5_code 18 = .ok (.iload_n 1, 1) := by decide +kernel
theorem d_Segments_endedBy_19 : decode prog_7_method_5_code 19 = .ok (.iconst 1, 1) := by decide +kernel
theorem d_Segments_endedBy_20 : decode prog_7_method_5_code 20 = .ok (.iadd, 1) := by decide +kernel
theorem d_Segments_endedBy_21 : decode prog_7_method_5_code 21 = .ok (.if_icmp .gt 12, 3) := by decide +kernel
theorem d_Segments_endedBy_24 : decode prog_7_method_5_code 24 = .ok (.iinc 2 1, 3) := by decide +kernel
theorem d_Segments_endedBy_27 : decode prog_7_method_5_code 27 = .ok (.iinc 3 1, 3) := by decide +kernel
theorem d_Segments_endedBy_30 : decode prog_7_method_5_code 30 = .ok (.goto (-26), 3) := by decide +kernel
theorem d_Segments_endedBy_33 : decode prog_7_method_5_code 33 = .ok (.iload_n 2, 1) := by decide +kernel
theorem d_Segments_endedBy_34 : decode prog_7_method_5_code 34 = .ok (.ireturn, 1) := by decide +kernel
theorem d_Segments_dropFront_0 : decode prog_7_method_6_code 0 = .ok (.iload_n 1, 1) := by decide +kernel
theorem d_Segments_dropFront_1 : decode prog_7_method_6_code 1 = .ok (.istore_n 2, 1) := by decide +kernel
theorem d_Segments_dropFront_2 : decode prog_7_method_6_code 2 = .ok (.iload_n 2, 1) := by decide +kernel
theorem d_Segments_dropFront_3 : decode prog_7_method_6_code 3 = .ok (.aload_n 0, 1) := by decide +kernel
theorem d_Segments_dropFront_4 : decode prog_7_method_6_code 4 = .ok (.getfield 18, 3) := by decide +kernel
theorem d_Segments_dropFront_7 : decode prog_7_method_6_code 7 = .ok (.if_icmp .ge 37, 3) := by decide +kernel
theorem d_Segments_dropFront_10 : decode prog_7_method_6_code 10 = .ok (.aload_n 0, 1) := by decide +kernel
theorem d_Segments_dropFront_11 : decode prog_7_method_6_code 11 = .ok (.getfield 9, 3) := by decide +kernel
theorem d_Segments_dropFront_14 : decode prog_7_method_6_code 14 = .ok (.iload_n 2, 1) := by decide +kernel
theorem d_Segments_dropFront_15 : decode prog_7_method_6_code 15 = .ok (.iload_n 1, 1) := by decide +kernel
theorem d_Segments_dropFront_16 : decode prog_7_method_6_code 16 = .ok (.isub, 1) := by decide +kernel
theorem d_Segments_dropFront_17 : decode prog_7_method_6_code 17 = .ok (.aload_n 0, 1) := by decide +kernel
theorem d_Segments_dropFront_18 : decode prog_7_method_6_code 18 = .ok (.getfield 9, 3) := by decide +kernel
theorem d_Segments_dropFront_21 : decode prog_7_method_6_code 21 = .ok (.iload_n 2, 1) := by decide +kernel
theorem d_Segments_dropFront_22 : decode prog_7_method_6_code 22 = .ok (.iaload, 1) := by decide +kernel
theorem d_Segments_dropFront_23 : decode prog_7_method_6_code 23 = .ok (.iastore, 1) := by decide +kernel
theorem d_Segments_dropFront_24 : decode prog_7_method_6_code 24 = .ok (.aload_n 0, 1) := by decide +kernel
theorem d_Segments_dropFront_25 : decode prog_7_method_6_code 25 = .ok (.getfield 15, 3) := by decide +kernel
theorem d_Segments_dropFront_28 : decode prog_7_method_6_code 28 = .ok (.iload_n 2, 1) := by decide +kernel
theorem d_Segments_dropFront_29 : decode prog_7_method_6_code 29 = .ok (.iload_n 1, 1) := by decide +kernel
theorem d_Segments_dropFront_30 : decode prog_7_method_6_code 30 = .ok (.isub, 1) := by decide +kernel
theorem d_Segments_dropFront_31 : decode prog_7_method_6_code 31 = .ok (.aload_n 0, 1) := by decide +kernel
theorem d_Segments_dropFront_32 : decode prog_7_method_6_code 32 = .ok (.getfield 15, 3) := by decide +kernel
theorem d_Segments_dropFront_35 : decode prog_7_method_6_code 35 = .ok (.iload_n 2, 1) := by decide +kernel
theorem d_Segments_dropFront_36 : decode prog_7_method_6_code 36 = .ok (.iaload, 1) := by decide +kernel
theorem d_Segments_dropFront_37 : decode prog_7_method_6_code 37 = .ok (.iastore, 1) := by decide +kernel
theorem d_Segments_dropFront_38 : decode prog_7_method_6_code 38 = .ok (.iinc 2 1, 3) := by decide +kernel
theorem d_Segments_dropFront_41 : decode prog_7_method_6_code 41 = .ok (.goto (-39), 3) := by decide +kernel
theorem d_Segments_dropFront_44 : decode prog_7_method_6_code 44 = .ok (.aload_n 0, 1) := by decide +kernel
theorem d_Segments_dropFront_45 : decode prog_7_method_6_code 45 = .ok (.dup, 1) := by decide +kernel
theorem d_Segments_dropFront_46 : decode prog_7_method_6_code 46 = .ok (.getfield 18, 3) := by decide +kernel
theorem d_Segments_dropFront_49 : decode prog_7_method_6_code 49 = .ok (.iload_n 1, 1) := by decide +kernel
theorem d_Segments_dropFront_50 : decode prog_7_method_6_code 50 = .ok (.isub, 1) := by decide +kernel
theorem d_Segments_dropFront_51 : decode prog_7_method_6_code 51 = .ok (.putfield 18, 3) := by decide +kernel
theorem d_Segments_dropFront_54 : decode prog_7_method_6_code 54 = .ok (.return_, 1) := by decide +kernel
theorem d_Snapshot_init_0 : decode prog_8_method_1_code 0 = .ok (.aload_n 0, 1) := by decide +kernel
theorem d_Snapshot_init_1 : decode prog_8_method_1_code 1 = .ok (.invokespecial 3, 3) := by decide +kernel
theorem d_Snapshot_init_4 : decode prog_8_method_1_code 4 = .ok (.aload_n 0, 1) := by decide +kernel
theorem d_Snapshot_init_5 : decode prog_8_method_1_code 5 = .ok (.iconst (-1), 1) := by decide +kernel
theorem d_Snapshot_init_6 : decode prog_8_method_1_code 6 = .ok (.putfield 9, 3) := by decide +kernel
theorem d_Snapshot_init_9 : decode prog_8_method_1_code 9 = .ok (.return_, 1) := by decide +kernel
theorem d_Snapshot_set_0 : decode prog_8_method_2_code 0 = .ok (.aload_n 0, 1) := by decide +kernel
theorem d_Snapshot_set_1 : decode prog_8_method_2_code 1 = .ok (.iload_n 1, 1) := by decide +kernel
theorem d_Snapshot_set_2 : decode prog_8_method_2_code 2 = .ok (.putfield 9, 3) := by decide +kernel
theorem d_Snapshot_set_5 : decode prog_8_method_2_code 5 = .ok (.aload_n 0, 1) := by decide +kernel
theorem d_Snapshot_set_6 : decode prog_8_method_2_code 6 = .ok (.iload_n 2, 1) := by decide +kernel
theorem d_Snapshot_set_7 : decode prog_8_method_2_code 7 = .ok (.putfield 15, 3) := by decide +kernel
theorem d_Snapshot_set_10 : decode prog_8_method_2_code 10 = .ok (.aload_n 0, 1) := by decide +kernel
theorem d_Snapshot_set_11 : decode prog_8_method_2_code 11 = .ok (.iload_n 3, 1) := by decide +kernel
theorem d_Snapshot_set_12 : decode prog_8_method_2_code 12 = .ok (.putfield 18, 3) := by decide +kernel
theorem d_Snapshot_set_15 : decode prog_8_method_2_code 15 = .ok (.aload_n 0, 1) := by decide +kernel
theorem d_Snapshot_set_16 : decode prog_8_method_2_code 16 = .ok (.iload 4, 2) := by decide +kernel
theorem d_Snapshot_set_18 : decode prog_8_method_2_code 18 = .ok (.putfield 21, 3) := by decide +kernel
theorem d_Snapshot_set_21 : decode prog_8_method_2_code 21 = .ok (.return_, 1) := by decide +kernel
theorem d_Snapshot_nextFile_0 : decode prog_8_method_3_code 0 = .ok (.aload_n 0, 1) := by decide +kernel
theorem d_Snapshot_nextFile_1 : decode prog_8_method_3_code 1 = .ok (.getfield 9, 3) := by decide +kernel
theorem d_Snapshot_nextFile_4 : decode prog_8_method_3_code 4 = .ok (.iconst 2, 1) := by decide +kernel
theorem d_Snapshot_nextFile_5 : decode prog_8_method_3_code 5 = .ok (.if_icmp .ne 7, 3) := by decide +kernel
theorem d_Snapshot_nextFile_8 : decode prog_8_method_3_code 8 = .ok (.iconst 3, 1) := by decide +kernel
theorem d_Snapshot_nextFile_9 : decode prog_8_method_3_code 9 = .ok (.goto 4, 3) := by decide +kernel
theorem d_Snapshot_nextFile_12 : decode prog_8_method_3_code 12 = .ok (.iconst 2, 1) := by decide +kernel
theorem d_Snapshot_nextFile_13 : decode prog_8_method_3_code 13 = .ok (.ireturn, 1) := by decide +kernel
theorem d_Tape_init_0 : decode prog_9_method_1_code 0 = .ok (.aload_n 0, 1) := by decide +kernel
theorem d_Tape_init_1 : decode prog_9_method_1_code 1 = .ok (.invokespecial 3, 3) := by decide +kernel
theorem d_Tape_init_4 : decode prog_9_method_1_code 4 = .ok (.aload_n 0, 1) := by decide +kernel
theorem d_Tape_init_5 : decode prog_9_method_1_code 5 = .ok (.sipush 4096, 3) := by decide +kernel
theorem d_Tape_init_8 : decode prog_9_method_1_code 8 = .ok (.newarray .byte, 2) := by decide +kernel
theorem d_Tape_init_10 : decode prog_9_method_1_code 10 = .ok (.putfield 9, 3) := by decide +kernel
theorem d_Tape_init_13 : decode prog_9_method_1_code 13 = .ok (.return_, 1) := by decide +kernel
theorem d_Tape_handOver_0 : decode prog_9_method_2_code 0 = .ok (.aload_n 0, 1) := by decide +kernel
theorem d_Tape_handOver_1 : decode prog_9_method_2_code 1 = .ok (.getfield 15, 3) := by decide +kernel
theorem d_Tape_handOver_4 : decode prog_9_method_2_code 4 = .ok (.istore_n 1, 1) := by decide +kernel
theorem d_Tape_handOver_5 : decode prog_9_method_2_code 5 = .ok (.aload_n 0, 1) := by decide +kernel
theorem d_Tape_handOver_6 : decode prog_9_method_2_code 6 = .ok (.iconst 0, 1) := by decide +kernel
theorem d_Tape_handOver_7 : decode prog_9_method_2_code 7 = .ok (.putfield 15, 3) := by decide +kernel
theorem d_Tape_handOver_10 : decode prog_9_method_2_code 10 = .ok (.iload_n 1, 1) := by decide +kernel
theorem d_Tape_handOver_11 : decode prog_9_method_2_code 11 = .ok (.ireturn, 1) := by decide +kernel
theorem d_Vote_init_0 : decode prog_10_method_1_code 0 = .ok (.aload_n 0, 1) := by decide +kernel
theorem d_Vote_init_1 : decode prog_10_method_1_code 1 = .ok (.invokespecial 3, 3) := by decide +kernel
theorem d_Vote_init_4 : decode prog_10_method_1_code 4 = .ok (.aload_n 0, 1) := by decide +kernel
theorem d_Vote_init_5 : decode prog_10_method_1_code 5 = .ok (.iconst (-1), 1) := by decide +kernel
theorem d_Vote_init_6 : decode prog_10_method_1_code 6 = .ok (.putfield 9, 3) := by decide +kernel
theorem d_Vote_init_9 : decode prog_10_method_1_code 9 = .ok (.aload_n 0, 1) := by decide +kernel
theorem d_Vote_init_10 : decode prog_10_method_1_code 10 = .ok (.iconst (-1), 1) := by decide +kernel
theorem d_Vote_init_11 : decode prog_10_method_1_code 11 = .ok (.putfield 15, 3) := by decide +kernel
theorem d_Vote_init_14 : decode prog_10_method_1_code 14 = .ok (.return_, 1) := by decide +kernel
theorem d_Vote_set_0 : decode prog_10_method_2_code 0 = .ok (.aload_n 0, 1) := by decide +kernel
theorem d_Vote_set_1 : decode prog_10_method_2_code 1 = .ok (.iload_n 1, 1) := by decide +kernel
theorem d_Vote_set_2 : decode prog_10_method_2_code 2 = .ok (.putfield 15, 3) := by decide +kernel
theorem d_Vote_set_5 : decode prog_10_method_2_code 5 = .ok (.aload_n 0, 1) := by decide +kernel
theorem d_Vote_set_6 : decode prog_10_method_2_code 6 = .ok (.lload_n 2, 1) := by decide +kernel
theorem d_Vote_set_7 : decode prog_10_method_2_code 7 = .ok (.putfield 18, 3) := by decide +kernel
theorem d_Vote_set_10 : decode prog_10_method_2_code 10 = .ok (.aload_n 0, 1) := by decide +kernel
theorem d_Vote_set_11 : decode prog_10_method_2_code 11 = .ok (.iload 4, 2) := by decide +kernel
theorem d_Vote_set_13 : decode prog_10_method_2_code 13 = .ok (.putfield 22, 3) := by decide +kernel
theorem d_Vote_set_16 : decode prog_10_method_2_code 16 = .ok (.aload_n 0, 1) := by decide +kernel
theorem d_Vote_set_17 : decode prog_10_method_2_code 17 = .ok (.iload 5, 2) := by decide +kernel
theorem d_Vote_set_19 : decode prog_10_method_2_code 19 = .ok (.putfield 9, 3) := by decide +kernel
theorem d_Vote_set_22 : decode prog_10_method_2_code 22 = .ok (.return_, 1) := by decide +kernel
theorem d_Vote_forget_0 : decode prog_10_method_3_code 0 = .ok (.aload_n 0, 1) := by decide +kernel
theorem d_Vote_forget_1 : decode prog_10_method_3_code 1 = .ok (.iconst (-1), 1) := by decide +kernel
theorem d_Vote_forget_2 : decode prog_10_method_3_code 2 = .ok (.lconst 0, 1) := by decide +kernel
theorem d_Vote_forget_3 : decode prog_10_method_3_code 3 = .ok (.iconst 0, 1) := by decide +kernel
theorem d_Vote_forget_4 : decode prog_10_method_3_code 4 = .ok (.iconst (-1), 1) := by decide +kernel
theorem d_Vote_forget_5 : decode prog_10_method_3_code 5 = .ok (.invokevirtual 25, 3) := by decide +kernel
theorem d_Vote_forget_8 : decode prog_10_method_3_code 8 = .ok (.aload_n 0, 1) := by decide +kernel
theorem d_Vote_forget_9 : decode prog_10_method_3_code 9 = .ok (.iconst 0, 1) := by decide +kernel
theorem d_Vote_forget_10 : decode prog_10_method_3_code 10 = .ok (.putfield 29, 3) := by decide +kernel
theorem d_Vote_forget_13 : decode prog_10_method_3_code 13 = .ok (.return_, 1) := by decide +kernel
theorem d_Vote_nextFile_0 : decode prog_10_method_4_code 0 = .ok (.aload_n 0, 1) := by decide +kernel
theorem d_Vote_nextFile_1 : decode prog_10_method_4_code 1 = .ok (.getfield 15, 3) := by decide +kernel
theorem d_Vote_nextFile_4 : decode prog_10_method_4_code 4 = .ok (.iconst (-1), 1) := by decide +kernel
theorem d_Vote_nextFile_5 : decode prog_10_method_4_code 5 = .ok (.if_icmp .ne 5, 3) := by decide +kernel
theorem d_Vote_nextFile_8 : decode prog_10_method_4_code 8 = .ok (.iconst 1, 1) := by decide +kernel
theorem d_Vote_nextFile_9 : decode prog_10_method_4_code 9 = .ok (.ireturn, 1) := by decide +kernel
theorem d_Vote_nextFile_10 : decode prog_10_method_4_code 10 = .ok (.aload_n 0, 1) := by decide +kernel
theorem d_Vote_nextFile_11 : decode prog_10_method_4_code 11 = .ok (.getfield 29, 3) := by decide +kernel
theorem d_Vote_nextFile_14 : decode prog_10_method_4_code 14 = .ok (.ifCond .eq 10, 3) := by decide +kernel
theorem d_Vote_nextFile_17 : decode prog_10_method_4_code 17 = .ok (.aload_n 0, 1) := by decide +kernel
theorem d_Vote_nextFile_18 : decode prog_10_method_4_code 18 = .ok (.getfield 15, 3) := by decide +kernel
theorem d_Vote_nextFile_21 : decode prog_10_method_4_code 21 = .ok (.goto 9, 3) := by decide +kernel
theorem d_Vote_nextFile_24 : decode prog_10_method_4_code 24 = .ok (.iconst 1, 1) := by decide +kernel
theorem d_Vote_nextFile_25 : decode prog_10_method_4_code 25 = .ok (.aload_n 0, 1) := by decide +kernel
theorem d_Vote_nextFile_26 : decode prog_10_method_4_code 26 = .ok (.getfield 15, 3) := by decide +kernel
theorem d_Vote_nextFile_29 : decode prog_10_method_4_code 29 = .ok (.isub, 1) := by decide +kernel
theorem d_Vote_nextFile_30 : decode prog_10_method_4_code 30 = .ok (.ireturn, 1) := by decide +kernel
