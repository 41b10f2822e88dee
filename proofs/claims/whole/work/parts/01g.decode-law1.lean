theorem d_Law_cell_0 : decode method_2_code 0 = .ok (.iload_n 1, 1) := by decide +kernel
theorem d_Law_cell_1 : decode method_2_code 1 = .ok (.aload_n 0, 1) := by decide +kernel
theorem d_Law_cell_2 : decode method_2_code 2 = .ok (.arraylength, 1) := by decide +kernel
theorem d_Law_cell_3 : decode method_2_code 3 = .ok (.if_icmp .ge 9, 3) := by decide +kernel
theorem d_Law_cell_6 : decode method_2_code 6 = .ok (.aload_n 0, 1) := by decide +kernel
theorem d_Law_cell_7 : decode method_2_code 7 = .ok (.iload_n 1, 1) := by decide +kernel
theorem d_Law_cell_8 : decode method_2_code 8 = .ok (.iaload, 1) := by decide +kernel
theorem d_Law_cell_9 : decode method_2_code 9 = .ok (.goto 4, 3) := by decide +kernel
theorem d_Law_cell_12 : decode method_2_code 12 = .ok (.iconst 0, 1) := by decide +kernel
theorem d_Law_cell_13 : decode method_2_code 13 = .ok (.ireturn, 1) := by decide +kernel
theorem d_Law_feed_0 : decode method_3_code 0 = .ok (.aload 4, 2) := by decide +kernel
theorem d_Law_feed_2 : decode method_3_code 2 = .ok (.iconst 0, 1) := by decide +kernel
theorem d_Law_feed_3 : decode method_3_code 3 = .ok (.aload_n 0, 1) := by decide +kernel
theorem d_Law_feed_4 : decode method_3_code 4 = .ok (.lload_n 1, 1) := by decide +kernel
theorem d_Law_feed_5 : decode method_3_code 5 = .ok (.iload_n 3, 1) := by decide +kernel
theorem d_Law_feed_6 : decode method_3_code 6 = .ok (.invokevirtual 7, 3) := by decide +kernel
theorem d_Law_feed_9 : decode method_3_code 9 = .ok (.i2l, 1) := by decide +kernel
theorem d_Law_feed_10 : decode method_3_code 10 = .ok (.lastore, 1) := by decide +kernel
theorem d_Law_feed_11 : decode method_3_code 11 = .ok (.goto 11, 3) := by decide +kernel
theorem d_Law_feed_14 : decode method_3_code 14 = .ok (.astore 5, 2) := by decide +kernel
theorem d_Law_feed_16 : decode method_3_code 16 = .ok (.iconst 1, 1) := by decide +kernel
theorem d_Law_feed_17 : decode method_3_code 17 = .ok (.ireturn, 1) := by decide +kernel
theorem d_Law_feed_18 : decode method_3_code 18 = .ok (.astore 5, 2) := by decide +kernel
theorem d_Law_feed_20 : decode method_3_code 20 = .ok (.iconst 2, 1) := by decide +kernel
theorem d_Law_feed_21 : decode method_3_code 21 = .ok (.ireturn, 1) := by decide +kernel
theorem d_Law_feed_22 : decode method_3_code 22 = .ok (.iconst 0, 1) := by decide +kernel
theorem d_Law_feed_23 : decode method_3_code 23 = .ok (.ireturn, 1) := by decide +kernel
theorem d_Law_save_0 : decode method_4_code 0 = .ok (.aload_n 3, 1) := by decide +kernel
theorem d_Law_save_1 : decode method_4_code 1 = .ok (.iconst 0, 1) := by decide +kernel
theorem d_Law_save_2 : decode method_4_code 2 = .ok (.aload_n 0, 1) := by decide +kernel
theorem d_Law_save_3 : decode method_4_code 3 = .ok (.iload_n 1, 1) := by decide +kernel
theorem d_Law_save_4 : decode method_4_code 4 = .ok (.iload_n 2, 1) := by decide +kernel
theorem d_Law_save_5 : decode method_4_code 5 = .ok (.invokevirtual 17, 3) := by decide +kernel
theorem d_Law_save_8 : decode method_4_code 8 = .ok (.i2l, 1) := by decide +kernel
theorem d_Law_save_9 : decode method_4_code 9 = .ok (.lastore, 1) := by decide +kernel
theorem d_Law_save_10 : decode method_4_code 10 = .ok (.goto 11, 3) := by decide +kernel
theorem d_Law_save_13 : decode method_4_code 13 = .ok (.astore 4, 2) := by decide +kernel
theorem d_Law_save_15 : decode method_4_code 15 = .ok (.iconst 1, 1) := by decide +kernel
theorem d_Law_save_16 : decode method_4_code 16 = .ok (.ireturn, 1) := by decide +kernel
theorem d_Law_save_17 : decode method_4_code 17 = .ok (.astore 4, 2) := by decide +kernel
theorem d_Law_save_19 : decode method_4_code 19 = .ok (.iconst 2, 1) := by decide +kernel
theorem d_Law_save_20 : decode method_4_code 20 = .ok (.ireturn, 1) := by decide +kernel
theorem d_Law_save_21 : decode method_4_code 21 = .ok (.iconst 0, 1) := by decide +kernel
theorem d_Law_save_22 : decode method_4_code 22 = .ok (.ireturn, 1) := by decide +kernel
theorem d_Law_append_0 : decode method_5_code 0 = .ok (.aload_n 3, 1) := by decide +kernel
theorem d_Law_append_1 : decode method_5_code 1 = .ok (.iconst 0, 1) := by decide +kernel
theorem d_Law_append_2 : decode method_5_code 2 = .ok (.aload_n 0, 1) := by decide +kernel
theorem d_Law_append_3 : decode method_5_code 3 = .ok (.iload_n 1, 1) := by decide +kernel
theorem d_Law_append_4 : decode method_5_code 4 = .ok (.iload_n 2, 1) := by decide +kernel
theorem d_Law_append_5 : decode method_5_code 5 = .ok (.invokevirtual 23, 3) := by decide +kernel
theorem d_Law_append_8 : decode method_5_code 8 = .ok (.i2l, 1) := by decide +kernel
theorem d_Law_append_9 : decode method_5_code 9 = .ok (.lastore, 1) := by decide +kernel
theorem d_Law_append_10 : decode method_5_code 10 = .ok (.goto 15, 3) := by decide +kernel
theorem d_Law_append_13 : decode method_5_code 13 = .ok (.astore 4, 2) := by decide +kernel
theorem d_Law_append_15 : decode method_5_code 15 = .ok (.iconst 1, 1) := by decide +kernel
theorem d_Law_append_16 : decode method_5_code 16 = .ok (.ireturn, 1) := by decide +kernel
theorem d_Law_append_17 : decode method_5_code 17 = .ok (.astore 4, 2) := by decide +kernel
theorem d_Law_append_19 : decode method_5_code 19 = .ok (.iconst 2, 1) := by decide +kernel
theorem d_Law_append_20 : decode method_5_code 20 = .ok (.ireturn, 1) := by decide +kernel
theorem d_Law_append_21 : decode method_5_code 21 = .ok (.astore 4, 2) := by decide +kernel
theorem d_Law_append_23 : decode method_5_code 23 = .ok (.iconst 3, 1) := by decide +kernel
theorem d_Law_append_24 : decode method_5_code 24 = .ok (.ireturn, 1) := by decide +kernel
theorem d_Law_append_25 : decode method_5_code 25 = .ok (.iconst 0, 1) := by decide +kernel
theorem d_Law_append_26 : decode method_5_code 26 = .ok (.ireturn, 1) := by decide +kernel
theorem d_Law_cutFrom_0 : decode method_6_code 0 = .ok (.aload_n 2, 1) := by decide +kernel
theorem d_Law_cutFrom_1 : decode method_6_code 1 = .ok (.iconst 0, 1) := by decide +kernel
theorem d_Law_cutFrom_2 : decode method_6_code 2 = .ok (.aload_n 0, 1) := by decide +kernel
theorem d_Law_cutFrom_3 : decode method_6_code 3 = .ok (.iload_n 1, 1) := by decide +kernel
theorem d_Law_cutFrom_4 : decode method_6_code 4 = .ok (.invokevirtual 26, 3) := by decide +kernel
theorem d_Law_cutFrom_7 : decode method_6_code 7 = .ok (.i2l, 1) := by decide +kernel
theorem d_Law_cutFrom_8 : decode method_6_code 8 = .ok (.lastore, 1) := by decide +kernel
theorem d_Law_cutFrom_9 : decode method_6_code 9 = .ok (.goto 6, 3) := by decide +kernel
theorem d_Law_cutFrom_12 : decode method_6_code 12 = .ok (.astore_n 3, 1) := by decide +kernel
theorem d_Law_cutFrom_13 : decode method_6_code 13 = .ok (.iconst 1, 1) := by decide +kernel
theorem d_Law_cutFrom_14 : decode method_6_code 14 = .ok (.ireturn, 1) := by decide +kernel
theorem d_Law_cutFrom_15 : decode method_6_code 15 = .ok (.iconst 0, 1) := by decide +kernel
theorem d_Law_cutFrom_16 : decode method_6_code 16 = .ok (.ireturn, 1) := by decide +kernel
theorem d_Law_compact_0 : decode method_7_code 0 = .ok (.aload_n 3, 1) := by decide +kernel
theorem d_Law_compact_1 : decode method_7_code 1 = .ok (.iconst 0, 1) := by decide +kernel
theorem d_Law_compact_2 : decode method_7_code 2 = .ok (.aload_n 0, 1) := by decide +kernel
theorem d_Law_compact_3 : decode method_7_code 3 = .ok (.iload_n 1, 1) := by decide +kernel
theorem d_Law_compact_4 : decode method_7_code 4 = .ok (.iload_n 2, 1) := by decide +kernel
theorem d_Law_compact_5 : decode method_7_code 5 = .ok (.invokevirtual 32, 3) := by decide +kernel
theorem d_Law_compact_8 : decode method_7_code 8 = .ok (.i2l, 1) := by decide +kernel
theorem d_Law_compact_9 : decode method_7_code 9 = .ok (.lastore, 1) := by decide +kernel
theorem d_Law_compact_10 : decode method_7_code 10 = .ok (.goto 11, 3) := by decide +kernel
theorem d_Law_compact_13 : decode method_7_code 13 = .ok (.astore 4, 2) := by decide +kernel
theorem d_Law_compact_15 : decode method_7_code 15 = .ok (.iconst 1, 1) := by decide +kernel
theorem d_Law_compact_16 : decode method_7_code 16 = .ok (.ireturn, 1) := by decide +kernel
theorem d_Law_compact_17 : decode method_7_code 17 = .ok (.astore 4, 2) := by decide +kernel
theorem d_Law_compact_19 : decode method_7_code 19 = .ok (.iconst 2, 1) := by decide +kernel
theorem d_Law_compact_20 : decode method_7_code 20 = .ok (.ireturn, 1) := by decide +kernel
theorem d_Law_compact_21 : decode method_7_code 21 = .ok (.iconst 0, 1) := by decide +kernel
theorem d_Law_compact_22 : decode method_7_code 22 = .ok (.ireturn, 1) := by decide +kernel
theorem d_Law_take_0 : decode method_8_code 0 = .ok (.aload 4, 2) := by decide +kernel
theorem d_Law_take_2 : decode method_8_code 2 = .ok (.iconst 0, 1) := by decide +kernel
theorem d_Law_take_3 : decode method_8_code 3 = .ok (.aload_n 0, 1) := by decide +kernel
theorem d_Law_take_4 : decode method_8_code 4 = .ok (.iload_n 1, 1) := by decide +kernel
theorem d_Law_take_5 : decode method_8_code 5 = .ok (.iload_n 2, 1) := by decide +kernel
theorem d_Law_take_6 : decode method_8_code 6 = .ok (.iload_n 3, 1) := by decide +kernel
theorem d_Law_take_7 : decode method_8_code 7 = .ok (.invokevirtual 35, 3) := by decide +kernel
theorem d_Law_take_10 : decode method_8_code 10 = .ok (.i2l, 1) := by decide +kernel
theorem d_Law_take_11 : decode method_8_code 11 = .ok (.lastore, 1) := by decide +kernel
theorem d_Law_take_12 : decode method_8_code 12 = .ok (.goto 11, 3) := by decide +kernel
theorem d_Law_take_15 : decode method_8_code 15 = .ok (.astore 5, 2) := by decide +kernel
theorem d_Law_take_17 : decode method_8_code 17 = .ok (.iconst 1, 1) := by decide +kernel
theorem d_Law_take_18 : decode method_8_code 18 = .ok (.ireturn, 1) := by decide +kernel
theorem d_Law_take_19 : decode method_8_code 19 = .ok (.astore 5, 2) := by decide +kernel
theorem d_Law_take_21 : decode method_8_code 21 = .ok (.iconst 2, 1) := by decide +kernel
theorem d_Law_take_22 : decode method_8_code 22 = .ok (.ireturn, 1) := by decide +kernel
theorem d_Law_take_23 : decode method_8_code 23 = .ok (.iconst 0, 1) := by decide +kernel
theorem d_Law_take_24 : decode method_8_code 24 = .ok (.ireturn, 1) := by decide +kernel
theorem d_Law_keep_0 : decode method_9_code 0 = .ok (.aload_n 0, 1) := by decide +kernel
theorem d_Law_keep_1 : decode method_9_code 1 = .ok (.iload_n 1, 1) := by decide +kernel
theorem d_Law_keep_2 : decode method_9_code 2 = .ok (.iload_n 2, 1) := by decide +kernel
theorem d_Law_keep_3 : decode method_9_code 3 = .ok (.invokevirtual 39, 3) := by decide +kernel
theorem d_Law_keep_6 : decode method_9_code 6 = .ok (.goto 9, 3) := by decide +kernel
theorem d_Law_keep_9 : decode method_9_code 9 = .ok (.astore_n 3, 1) := by decide +kernel
theorem d_Law_keep_10 : decode method_9_code 10 = .ok (.iconst 1, 1) := by decide +kernel
theorem d_Law_keep_11 : decode method_9_code 11 = .ok (.ireturn, 1) := by decide +kernel
theorem d_Law_keep_12 : decode method_9_code 12 = .ok (.astore_n 3, 1) := by decide +kernel
theorem d_Law_keep_13 : decode method_9_code 13 = .ok (.iconst 2, 1) := by decide +kernel
theorem d_Law_keep_14 : decode method_9_code 14 = .ok (.ireturn, 1) := by decide +kernel
theorem d_Law_keep_15 : decode method_9_code 15 = .ok (.iconst 0, 1) := by decide +kernel
theorem d_Law_keep_16 : decode method_9_code 16 = .ok (.ireturn, 1) := by decide +kernel
theorem d_Law_state_0 : decode method_10_code 0 = .ok (.aload_n 2, 1) := by decide +kernel
theorem d_Law_state_1 : decode method_10_code 1 = .ok (.iconst 0, 1) := by decide +kernel
theorem d_Law_state_2 : decode method_10_code 2 = .ok (.aload_n 0, 1) := by decide +kernel
theorem d_Law_state_3 : decode method_10_code 3 = .ok (.iload_n 1, 1) := by decide +kernel
theorem d_Law_state_4 : decode method_10_code 4 = .ok (.invokevirtual 43, 3) := by decide +kernel
theorem d_Law_state_7 : decode method_10_code 7 = .ok (.i2l, 1) := by decide +kernel
theorem d_Law_state_8 : decode method_10_code 8 = .ok (.lastore, 1) := by decide +kernel
theorem d_Law_state_9 : decode method_10_code 9 = .ok (.goto 6, 3) := by decide +kernel
theorem d_Law_state_12 : decode method_10_code 12 = .ok (.astore_n 3, 1) := by decide +kernel
theorem d_Law_state_13 : decode method_10_code 13 = .ok (.iconst 1, 1) := by decide +kernel
theorem d_Law_state_14 : decode method_10_code 14 = .ok (.ireturn, 1) := by decide +kernel
theorem d_Law_state_15 : decode method_10_code 15 = .ok (.iconst 0, 1) := by decide +kernel
theorem d_Law_state_16 : decode method_10_code 16 = .ok (.ireturn, 1) := by decide +kernel
theorem d_Law_entry_0 : decode method_11_code 0 = .ok (.aload_n 3, 1) := by decide +kernel
theorem d_Law_entry_1 : decode method_11_code 1 = .ok (.iconst 0, 1) := by decide +kernel
theorem d_Law_entry_2 : decode method_11_code 2 = .ok (.aload_n 0, 1) := by decide +kernel
theorem d_Law_entry_3 : decode method_11_code 3 = .ok (.iload_n 1, 1) := by decide +kernel
theorem d_Law_entry_4 : decode method_11_code 4 = .ok (.iload_n 2, 1) := by decide +kernel
theorem d_Law_entry_5 : decode method_11_code 5 = .ok (.invokevirtual 46, 3) := by decide +kernel
theorem d_Law_entry_8 : decode method_11_code 8 = .ok (.i2l, 1) := by decide +kernel
theorem d_Law_entry_9 : decode method_11_code 9 = .ok (.lastore, 1) := by decide +kernel
theorem d_Law_entry_10 : decode method_11_code 10 = .ok (.goto 7, 3) := by decide +kernel
theorem d_Law_entry_13 : decode method_11_code 13 = .ok (.astore 4, 2) := by decide +kernel
theorem d_Law_entry_15 : decode method_11_code 15 = .ok (.iconst 1, 1) := by decide +kernel
theorem d_Law_entry_16 : decode method_11_code 16 = .ok (.ireturn, 1) := by decide +kernel
theorem d_Law_entry_17 : decode method_11_code 17 = .ok (.iconst 0, 1) := by decide +kernel
theorem d_Law_entry_18 : decode method_11_code 18 = .ok (.ireturn, 1) := by decide +kernel
theorem d_Law_contentAt_0 : decode method_12_code 0 = .ok (.aload_n 3, 1) := by decide +kernel
theorem d_Law_contentAt_1 : decode method_12_code 1 = .ok (.iconst 0, 1) := by decide +kernel
theorem d_Law_contentAt_2 : decode method_12_code 2 = .ok (.aload_n 0, 1) := by decide +kernel
theorem d_Law_contentAt_3 : decode method_12_code 3 = .ok (.iload_n 1, 1) := by decide +kernel
theorem d_Law_contentAt_4 : decode method_12_code 4 = .ok (.iload_n 2, 1) := by decide +kernel
theorem d_Law_contentAt_5 : decode method_12_code 5 = .ok (.invokevirtual 49, 3) := by decide +kernel
theorem d_Law_contentAt_8 : decode method_12_code 8 = .ok (.i2l, 1) := by decide +kernel
theorem d_Law_contentAt_9 : decode method_12_code 9 = .ok (.lastore, 1) := by decide +kernel
theorem d_Law_contentAt_10 : decode method_12_code 10 = .ok (.goto 11, 3) := by decide +kernel
theorem d_Law_contentAt_13 : decode method_12_code 13 = .ok (.astore 4, 2) := by decide +kernel
theorem d_Law_contentAt_15 : decode method_12_code 15 = .ok (.iconst 1, 1) := by decide +kernel
theorem d_Law_contentAt_16 : decode method_12_code 16 = .ok (.ireturn, 1) := by decide +kernel
theorem d_Law_contentAt_17 : decode method_12_code 17 = .ok (.astore 4, 2) := by decide +kernel
theorem d_Law_contentAt_19 : decode method_12_code 19 = .ok (.iconst 2, 1) := by decide +kernel
theorem d_Law_contentAt_20 : decode method_12_code 20 = .ok (.ireturn, 1) := by decide +kernel
theorem d_Law_contentAt_21 : decode method_12_code 21 = .ok (.iconst 0, 1) := by decide +kernel
theorem d_Law_contentAt_22 : decode method_12_code 22 = .ok (.ireturn, 1) := by decide +kernel
theorem d_Law_snapshotAt_0 : decode method_13_code 0 = .ok (.aload_n 2, 1) := by decide +kernel
theorem d_Law_snapshotAt_1 : decode method_13_code 1 = .ok (.iconst 0, 1) := by decide +kernel
theorem d_Law_snapshotAt_2 : decode method_13_code 2 = .ok (.aload_n 0, 1) := by decide +kernel
theorem d_Law_snapshotAt_3 : decode method_13_code 3 = .ok (.iload_n 1, 1) := by decide +kernel
theorem d_Law_snapshotAt_4 : decode method_13_code 4 = .ok (.invokevirtual 54, 3) := by decide +kernel
theorem d_Law_snapshotAt_7 : decode method_13_code 7 = .ok (.i2l, 1) := by decide +kernel
theorem d_Law_snapshotAt_8 : decode method_13_code 8 = .ok (.lastore, 1) := by decide +kernel
theorem d_Law_snapshotAt_9 : decode method_13_code 9 = .ok (.goto 6, 3) := by decide +kernel
theorem d_Law_snapshotAt_12 : decode method_13_code 12 = .ok (.astore_n 3, 1) := by decide +kernel
theorem d_Law_snapshotAt_13 : decode method_13_code 13 = .ok (.iconst 1, 1) := by decide +kernel
theorem d_Law_snapshotAt_14 : decode method_13_code 14 = .ok (.ireturn, 1) := by decide +kernel
theorem d_Law_snapshotAt_15 : decode method_13_code 15 = .ok (.iconst 0, 1) := by decide +kernel
theorem d_Law_snapshotAt_16 : decode method_13_code 16 = .ok (.ireturn, 1) := by decide +kernel
theorem d_Law_segment_0 : decode method_14_code 0 = .ok (.aload_n 3, 1) := by decide +kernel
theorem d_Law_segment_1 : decode method_14_code 1 = .ok (.iconst 0, 1) := by decide +kernel
theorem d_Law_segment_2 : decode method_14_code 2 = .ok (.aload_n 0, 1) := by decide +kernel
theorem d_Law_segment_3 : decode method_14_code 3 = .ok (.iload_n 1, 1) := by decide +kernel
theorem d_Law_segment_4 : decode method_14_code 4 = .ok (.iload_n 2, 1) := by decide +kernel
theorem d_Law_segment_5 : decode method_14_code 5 = .ok (.invokevirtual 57, 3) := by decide +kernel
theorem d_Law_segment_8 : decode method_14_code 8 = .ok (.i2l, 1) := by decide +kernel
theorem d_Law_segment_9 : decode method_14_code 9 = .ok (.lastore, 1) := by decide +kernel
theorem d_Law_segment_10 : decode method_14_code 10 = .ok (.goto 7, 3) := by decide +kernel
theorem d_Law_segment_13 : decode method_14_code 13 = .ok (.astore 4, 2) := by decide +kernel
theorem d_Law_segment_15 : decode method_14_code 15 = .ok (.iconst 1, 1) := by decide +kernel
theorem d_Law_segment_16 : decode method_14_code 16 = .ok (.ireturn, 1) := by decide +kernel
theorem d_Law_segment_17 : decode method_14_code 17 = .ok (.iconst 0, 1) := by decide +kernel
theorem d_Law_segment_18 : decode method_14_code 18 = .ok (.ireturn, 1) := by decide +kernel
theorem d_Law_file_0 : decode method_15_code 0 = .ok (.aload_n 3, 1) := by decide +kernel
theorem d_Law_file_1 : decode method_15_code 1 = .ok (.iconst 0, 1) := by decide +kernel
theorem d_Law_file_2 : decode method_15_code 2 = .ok (.aload_n 0, 1) := by decide +kernel
theorem d_Law_file_3 : decode method_15_code 3 = .ok (.iload_n 1, 1) := by decide +kernel
theorem d_Law_file_4 : decode method_15_code 4 = .ok (.iload_n 2, 1) := by decide +kernel
theorem d_Law_file_5 : decode method_15_code 5 = .ok (.invokevirtual 60, 3) := by decide +kernel
theorem d_Law_file_8 : decode method_15_code 8 = .ok (.i2l, 1) := by decide +kernel
theorem d_Law_file_9 : decode method_15_code 9 = .ok (.lastore, 1) := by decide +kernel
theorem d_Law_file_10 : decode method_15_code 10 = .ok (.goto 7, 3) := by decide +kernel
theorem d_Law_file_13 : decode method_15_code 13 = .ok (.astore 4, 2) := by decide +kernel
theorem d_Law_file_15 : decode method_15_code 15 = .ok (.iconst 1, 1) := by decide +kernel
theorem d_Law_file_16 : decode method_15_code 16 = .ok (.ireturn, 1) := by decide +kernel
theorem d_Law_file_17 : decode method_15_code 17 = .ok (.iconst 0, 1) := by decide +kernel
theorem d_Law_file_18 : decode method_15_code 18 = .ok (.ireturn, 1) := by decide +kernel
theorem d_Law_byteAt_0 : decode method_16_code 0 = .ok (.aload_n 3, 1) := by decide +kernel
theorem d_Law_byteAt_1 : decode method_16_code 1 = .ok (.iconst 0, 1) := by decide +kernel
theorem d_Law_byteAt_2 : decode method_16_code 2 = .ok (.aload_n 0, 1) := by decide +kernel
theorem d_Law_byteAt_3 : decode method_16_code 3 = .ok (.iload_n 1, 1) := by decide +kernel
theorem d_Law_byteAt_4 : decode method_16_code 4 = .ok (.iload_n 2, 1) := by decide +kernel
theorem d_Law_byteAt_5 : decode method_16_code 5 = .ok (.invokevirtual 63, 3) := by decide +kernel
theorem d_Law_byteAt_8 : decode method_16_code 8 = .ok (.i2l, 1) := by decide +kernel
theorem d_Law_byteAt_9 : decode method_16_code 9 = .ok (.lastore, 1) := by decide +kernel
theorem d_Law_byteAt_10 : decode method_16_code 10 = .ok (.goto 7, 3) := by decide +kernel
theorem d_Law_byteAt_13 : decode method_16_code 13 = .ok (.astore 4, 2) := by decide +kernel
theorem d_Law_byteAt_15 : decode method_16_code 15 = .ok (.iconst 1, 1) := by decide +kernel
theorem d_Law_byteAt_16 : decode method_16_code 16 = .ok (.ireturn, 1) := by decide +kernel
theorem d_Law_byteAt_17 : decode method_16_code 17 = .ok (.iconst 0, 1) := by decide +kernel
theorem d_Law_byteAt_18 : decode method_16_code 18 = .ok (.ireturn, 1) := by decide +kernel
theorem d_Law_law_0 : decode code 0 = .ok (.new 8, 3) := by decide +kernel
theorem d_Law_law_3 : decode code 3 = .ok (.dup, 1) := by decide +kernel
theorem d_Law_law_4 : decode code 4 = .ok (.aload_n 0, 1) := by decide +kernel
theorem d_Law_law_5 : decode code 5 = .ok (.iconst 0, 1) := by decide +kernel
theorem d_Law_law_6 : decode code 6 = .ok (.invokestatic 66, 3) := by decide +kernel
theorem d_Law_law_9 : decode code 9 = .ok (.aload_n 0, 1) := by decide +kernel
theorem d_Law_law_10 : decode code 10 = .ok (.iconst 1, 1) := by decide +kernel
theorem d_Law_law_11 : decode code 11 = .ok (.invokestatic 66, 3) := by decide +kernel
theorem d_Law_law_14 : decode code 14 = .ok (.invokespecial 72, 3) := by decide +kernel
theorem d_Law_law_17 : decode code 17 = .ok (.astore_n 1, 1) := by decide +kernel
theorem d_Law_law_18 : decode code 18 = .ok (.new 74, 3) := by decide +kernel
theorem d_Law_law_21 : decode code 21 = .ok (.dup, 1) := by decide +kernel
theorem d_Law_law_22 : decode code 22 = .ok (.aload_n 0, 1) := by decide +kernel
theorem d_Law_law_23 : decode code 23 = .ok (.iconst 0, 1) := by decide +kernel
theorem d_Law_law_24 : decode code 24 = .ok (.invokestatic 66, 3) := by decide +kernel
theorem d_Law_law_27 : decode code 27 = .ok (.aload_n 0, 1) := by decide +kernel
theorem d_Law_law_28 : decode code 28 = .ok (.iconst 1, 1) := by decide +kernel
theorem d_Law_law_29 : decode code 29 = .ok (.invokestatic 66, 3) := by decide +kernel
theorem d_Law_law_32 : decode code 32 = .ok (.invokespecial 76, 3) := by decide +kernel
theorem d_Law_law_35 : decode code 35 = .ok (.astore_n 2, 1) := by decide +kernel
theorem d_Law_law_36 : decode code 36 = .ok (.iconst 1, 1) := by decide +kernel
theorem d_Law_law_37 : decode code 37 = .ok (.newarray .long, 2) := by decide +kernel
theorem d_Law_law_39 : decode code 39 = .ok (.astore_n 3, 1) := by decide +kernel
theorem d_Law_law_40 : decode code 40 = .ok (.iconst 2, 1) := by decide +kernel
theorem d_Law_law_41 : decode code 41 = .ok (.istore 4, 2) := by decide +kernel
theorem d_Law_law_43 : decode code 43 = .ok (.iload 4, 2) := by decide +kernel
theorem d_Law_law_45 : decode code 45 = .ok (.aload_n 0, 1) := by decide +kernel
theorem d_Law_law_46 : decode code 46 = .ok (.arraylength, 1) := by decide +kernel
theorem d_Law_law_47 : decode code 47 = .ok (.iconst 4, 1) := by decide +kernel
theorem d_Law_law_48 : decode code 48 = .ok (.isub, 1) := by decide +kernel
theorem d_Law_law_49 : decode code 49 = .ok (.if_icmp .gt 1103, 3) := by decide +kernel
theorem d_Law_law_52 : decode code 52 = .ok (.aload_n 0, 1) := by decide +kernel
theorem d_Law_law_53 : decode code 53 = .ok (.iload 4, 2) := by decide +kernel
theorem d_Law_law_55 : decode code 55 = .ok (.iaload, 1) := by decide +kernel
theorem d_Law_law_56 : decode code 56 = .ok (.bipush 15, 2) := by decide +kernel
theorem d_Law_law_58 : decode code 58 = .ok (.iand, 1) := by decide +kernel
theorem d_Law_law_59 : decode code 59 = .ok (.tableswitch 1087 0 15 #[77, 177, 245, 313, 369, 437, 517, 530, 578, 635, 691, 759, 827, 883, 951, 1019], 77) := by decide +kernel
theorem d_Law_law_136 : decode code 136 = .ok (.aload_n 1, 1) := by decide +kernel
theorem d_Law_law_137 : decode code 137 = .ok (.aload_n 0, 1) := by decide +kernel
theorem d_Law_law_138 : decode code 138 = .ok (.iload 4, 2) := by decide +kernel
theorem d_Law_law_140 : decode code 140 = .ok (.iconst 1, 1) := by decide +kernel
theorem d_Law_law_141 : decode code 141 = .ok (.iadd, 1) := by decide +kernel
theorem d_Law_law_142 : decode code 142 = .ok (.iaload, 1) := by decide +kernel
theorem d_Law_law_143 : decode code 143 = .ok (.i2l, 1) := by decide +kernel
theorem d_Law_law_144 : decode code 144 = .ok (.bipush 32, 2) := by decide +kernel
theorem d_Law_law_146 : decode code 146 = .ok (.lshl, 1) := by decide +kernel
theorem d_Law_law_147 : decode code 147 = .ok (.aload_n 0, 1) := by decide +kernel
theorem d_Law_law_148 : decode code 148 = .ok (.iload 4, 2) := by decide +kernel
theorem d_Law_law_150 : decode code 150 = .ok (.iconst 2, 1) := by decide +kernel
theorem d_Law_law_151 : decode code 151 = .ok (.iadd, 1) := by decide +kernel
theorem d_Law_law_152 : decode code 152 = .ok (.iaload, 1) := by decide +kernel
theorem d_Law_law_153 : decode code 153 = .ok (.i2l, 1) := by decide +kernel
theorem d_Law_law_154 : decode code 154 = .ok (.ldc2_w 77, 3) := by decide +kernel
theorem d_Law_law_157 : decode code 157 = .ok (.land, 1) := by decide +kernel
theorem d_Law_law_158 : decode code 158 = .ok (.lor, 1) := by decide +kernel
theorem d_Law_law_159 : decode code 159 = .ok (.aload_n 0, 1) := by decide +kernel
theorem d_Law_law_160 : decode code 160 = .ok (.iload 4, 2) := by decide +kernel
theorem d_Law_law_162 : decode code 162 = .ok (.iconst 3, 1) := by decide +kernel
theorem d_Law_law_163 : decode code 163 = .ok (.iadd, 1) := by decide +kernel
theorem d_Law_law_164 : decode code 164 = .ok (.iaload, 1) := by decide +kernel
theorem d_Law_law_165 : decode code 165 = .ok (.aload_n 3, 1) := by decide +kernel
theorem d_Law_law_166 : decode code 166 = .ok (.invokestatic 79, 3) := by decide +kernel
theorem d_Law_law_169 : decode code 169 = .ok (.istore 5, 2) := by decide +kernel
theorem d_Law_law_171 : decode code 171 = .ok (.aload_n 2, 1) := by decide +kernel
theorem d_Law_law_172 : decode code 172 = .ok (.aload_n 0, 1) := by decide +kernel
theorem d_Law_law_173 : decode code 173 = .ok (.iload 4, 2) := by decide +kernel
theorem d_Law_law_175 : decode code 175 = .ok (.iconst 1, 1) := by decide +kernel
theorem d_Law_law_176 : decode code 176 = .ok (.iadd, 1) := by decide +kernel
theorem d_Law_law_177 : decode code 177 = .ok (.iaload, 1) := by decide +kernel
theorem d_Law_law_178 : decode code 178 = .ok (.i2l, 1) := by decide +kernel
theorem d_Law_law_179 : decode code 179 = .ok (.bipush 32, 2) := by decide +kernel
theorem d_Law_law_181 : decode code 181 = .ok (.lshl, 1) := by decide +kernel
theorem d_Law_law_182 : decode code 182 = .ok (.aload_n 0, 1) := by decide +kernel
theorem d_Law_law_183 : decode code 183 = .ok (.iload 4, 2) := by decide +kernel
theorem d_Law_law_185 : decode code 185 = .ok (.iconst 2, 1) := by decide +kernel
theorem d_Law_law_186 : decode code 186 = .ok (.iadd, 1) := by decide +kernel
theorem d_Law_law_187 : decode code 187 = .ok (.iaload, 1) := by decide +kernel
theorem d_Law_law_188 : decode code 188 = .ok (.i2l, 1) := by decide +kernel
theorem d_Law_law_189 : decode code 189 = .ok (.ldc2_w 77, 3) := by decide +kernel
theorem d_Law_law_192 : decode code 192 = .ok (.land, 1) := by decide +kernel
theorem d_Law_law_193 : decode code 193 = .ok (.lor, 1) := by decide +kernel
theorem d_Law_law_194 : decode code 194 = .ok (.aload_n 0, 1) := by decide +kernel
theorem d_Law_law_195 : decode code 195 = .ok (.iload 4, 2) := by decide +kernel
theorem d_Law_law_197 : decode code 197 = .ok (.iconst 3, 1) := by decide +kernel
theorem d_Law_law_198 : decode code 198 = .ok (.iadd, 1) := by decide +kernel
theorem d_Law_law_199 : decode code 199 = .ok (.iaload, 1) := by decide +kernel
theorem d_Law_law_200 : decode code 200 = .ok (.invokevirtual 82, 3) := by decide +kernel
theorem d_Law_law_203 : decode code 203 = .ok (.istore 6, 2) := by decide +kernel
theorem d_Law_law_205 : decode code 205 = .ok (.aload_n 2, 1) := by decide +kernel
theorem d_Law_law_206 : decode code 206 = .ok (.invokevirtual 83, 3) := by decide +kernel
theorem d_Law_law_209 : decode code 209 = .ok (.iload 5, 2) := by decide +kernel
theorem d_Law_law_211 : decode code 211 = .ok (.if_icmp .eq 5, 3) := by decide +kernel
theorem d_Law_law_214 : decode code 214 = .ok (.iconst 0, 1) := by decide +kernel
theorem d_Law_law_215 : decode code 215 = .ok (.ireturn, 1) := by decide +kernel
theorem d_Law_law_216 : decode code 216 = .ok (.iload 5, 2) := by decide +kernel
theorem d_Law_law_218 : decode code 218 = .ok (.ifCond .ne 15, 3) := by decide +kernel
theorem d_Law_law_221 : decode code 221 = .ok (.aload_n 3, 1) := by decide +kernel
theorem d_Law_law_222 : decode code 222 = .ok (.iconst 0, 1) := by decide +kernel
theorem d_Law_law_223 : decode code 223 = .ok (.laload, 1) := by decide +kernel
theorem d_Law_law_224 : decode code 224 = .ok (.iload 6, 2) := by decide +kernel
theorem d_Law_law_226 : decode code 226 = .ok (.i2l, 1) := by decide +kernel
theorem d_Law_law_227 : decode code 227 = .ok (.lcmp, 1) := by decide +kernel
theorem d_Law_law_228 : decode code 228 = .ok (.ifCond .eq 5, 3) := by decide +kernel
theorem d_Law_law_231 : decode code 231 = .ok (.iconst 0, 1) := by decide +kernel
theorem d_Law_law_232 : decode code 232 = .ok (.ireturn, 1) := by decide +kernel
theorem d_Law_law_233 : decode code 233 = .ok (.goto 913, 3) := by decide +kernel
theorem d_Law_law_236 : decode code 236 = .ok (.aload_n 1, 1) := by decide +kernel
theorem d_Law_law_237 : decode code 237 = .ok (.aload_n 0, 1) := by decide +kernel
theorem d_Law_law_238 : decode code 238 = .ok (.iload 4, 2) := by decide +kernel
theorem d_Law_law_240 : decode code 240 = .ok (.iconst 1, 1) := by decide +kernel
theorem d_Law_law_241 : decode code 241 = .ok (.iadd, 1) := by decide +kernel
theorem d_Law_law_242 : decode code 242 = .ok (.iaload, 1) := by decide +kernel
theorem d_Law_law_243 : decode code 243 = .ok (.aload_n 0, 1) := by decide +kernel
theorem d_Law_law_244 : decode code 244 = .ok (.iload 4, 2) := by decide +kernel
theorem d_Law_law_246 : decode code 246 = .ok (.iconst 2, 1) := by decide +kernel
theorem d_Law_law_247 : decode code 247 = .ok (.iadd, 1) := by decide +kernel
theorem d_Law_law_248 : decode code 248 = .ok (.iaload, 1) := by decide +kernel
theorem d_Law_law_249 : decode code 249 = .ok (.aload_n 3, 1) := by decide +kernel
theorem d_Law_law_250 : decode code 250 = .ok (.invokestatic 87, 3) := by decide +kernel
theorem d_Law_law_253 : decode code 253 = .ok (.istore 5, 2) := by decide +kernel
theorem d_Law_law_255 : decode code 255 = .ok (.aload_n 2, 1) := by decide +kernel
theorem d_Law_law_256 : decode code 256 = .ok (.aload_n 0, 1) := by decide +kernel
theorem d_Law_law_257 : decode code 257 = .ok (.iload 4, 2) := by decide +kernel
theorem d_Law_law_259 : decode code 259 = .ok (.iconst 1, 1) := by decide +kernel
theorem d_Law_law_260 : decode code 260 = .ok (.iadd, 1) := by decide +kernel
theorem d_Law_law_261 : decode code 261 = .ok (.iaload, 1) := by decide +kernel
theorem d_Law_law_262 : decode code 262 = .ok (.aload_n 0, 1) := by decide +kernel
theorem d_Law_law_263 : decode code 263 = .ok (.iload 4, 2) := by decide +kernel
theorem d_Law_law_265 : decode code 265 = .ok (.iconst 2, 1) := by decide +kernel
theorem d_Law_law_266 : decode code 266 = .ok (.iadd, 1) := by decide +kernel
theorem d_Law_law_267 : decode code 267 = .ok (.iaload, 1) := by decide +kernel
theorem d_Law_law_268 : decode code 268 = .ok (.invokevirtual 90, 3) := by decide +kernel
theorem d_Law_law_271 : decode code 271 = .ok (.istore 6, 2) := by decide +kernel
theorem d_Law_law_273 : decode code 273 = .ok (.aload_n 2, 1) := by decide +kernel
theorem d_Law_law_274 : decode code 274 = .ok (.invokevirtual 83, 3) := by decide +kernel
theorem d_Law_law_277 : decode code 277 = .ok (.iload 5, 2) := by decide +kernel
theorem d_Law_law_279 : decode code 279 = .ok (.if_icmp .eq 5, 3) := by decide +kernel
theorem d_Law_law_282 : decode code 282 = .ok (.iconst 0, 1) := by decide +kernel
theorem d_Law_law_283 : decode code 283 = .ok (.ireturn, 1) := by decide +kernel
theorem d_Law_law_284 : decode code 284 = .ok (.iload 5, 2) := by decide +kernel
theorem d_Law_law_286 : decode code 286 = .ok (.ifCond .ne 15, 3) := by decide +kernel
theorem d_Law_law_289 : decode code 289 = .ok (.aload_n 3, 1) := by decide +kernel
theorem d_Law_law_290 : decode code 290 = .ok (.iconst 0, 1) := by decide +kernel
theorem d_Law_law_291 : decode code 291 = .ok (.laload, 1) := by decide +kernel
theorem d_Law_law_292 : decode code 292 = .ok (.iload 6, 2) := by decide +kernel
theorem d_Law_law_294 : decode code 294 = .ok (.i2l, 1) := by decide +kernel
theorem d_Law_law_295 : decode code 295 = .ok (.lcmp, 1) := by decide +kernel
theorem d_Law_law_296 : decode code 296 = .ok (.ifCond .eq 5, 3) := by decide +kernel
theorem d_Law_law_299 : decode code 299 = .ok (.iconst 0, 1) := by decide +kernel
theorem d_Law_law_300 : decode code 300 = .ok (.ireturn, 1) := by decide +kernel
theorem d_Law_law_301 : decode code 301 = .ok (.goto 845, 3) := by decide +kernel
theorem d_Law_law_304 : decode code 304 = .ok (.aload_n 1, 1) := by decide +kernel
theorem d_Law_law_305 : decode code 305 = .ok (.aload_n 0, 1) := by decide +kernel
theorem d_Law_law_306 : decode code 306 = .ok (.iload 4, 2) := by decide +kernel
theorem d_Law_law_308 : decode code 308 = .ok (.iconst 1, 1) := by decide +kernel
theorem d_Law_law_309 : decode code 309 = .ok (.iadd, 1) := by decide +kernel
theorem d_Law_law_310 : decode code 310 = .ok (.iaload, 1) := by decide +kernel
theorem d_Law_law_311 : decode code 311 = .ok (.aload_n 0, 1) := by decide +kernel
theorem d_Law_law_312 : decode code 312 = .ok (.iload 4, 2) := by decide +kernel
theorem d_Law_law_314 : decode code 314 = .ok (.iconst 2, 1) := by decide +kernel
theorem d_Law_law_315 : decode code 315 = .ok (.iadd, 1) := by decide +kernel
theorem d_Law_law_316 : decode code 316 = .ok (.iaload, 1) := by decide +kernel
theorem d_Law_law_317 : decode code 317 = .ok (.aload_n 3, 1) := by decide +kernel
theorem d_Law_law_318 : decode code 318 = .ok (.invokestatic 91, 3) := by decide +kernel
theorem d_Law_law_321 : decode code 321 = .ok (.istore 5, 2) := by decide +kernel
theorem d_Law_law_323 : decode code 323 = .ok (.aload_n 2, 1) := by decide +kernel
theorem d_Law_law_324 : decode code 324 = .ok (.aload_n 0, 1) := by decide +kernel
theorem d_Law_law_325 : decode code 325 = .ok (.iload 4, 2) := by decide +kernel
theorem d_Law_law_327 : decode code 327 = .ok (.iconst 1, 1) := by decide +kernel
theorem d_Law_law_328 : decode code 328 = .ok (.iadd, 1) := by decide +kernel
theorem d_Law_law_329 : decode code 329 = .ok (.iaload, 1) := by decide +kernel
theorem d_Law_law_330 : decode code 330 = .ok (.aload_n 0, 1) := by decide +kernel
theorem d_Law_law_331 : decode code 331 = .ok (.iload 4, 2) := by decide +kernel
theorem d_Law_law_333 : decode code 333 = .ok (.iconst 2, 1) := by decide +kernel
theorem d_Law_law_334 : decode code 334 = .ok (.iadd, 1) := by decide +kernel
theorem d_Law_law_335 : decode code 335 = .ok (.iaload, 1) := by decide +kernel
theorem d_Law_law_336 : decode code 336 = .ok (.invokevirtual 93, 3) := by decide +kernel
theorem d_Law_law_339 : decode code 339 = .ok (.istore 6, 2) := by decide +kernel
theorem d_Law_law_341 : decode code 341 = .ok (.aload_n 2, 1) := by decide +kernel
theorem d_Law_law_342 : decode code 342 = .ok (.invokevirtual 83, 3) := by decide +kernel
theorem d_Law_law_345 : decode code 345 = .ok (.iload 5, 2) := by decide +kernel
theorem d_Law_law_347 : decode code 347 = .ok (.if_icmp .eq 5, 3) := by decide +kernel
theorem d_Law_law_350 : decode code 350 = .ok (.iconst 0, 1) := by decide +kernel
theorem d_Law_law_351 : decode code 351 = .ok (.ireturn, 1) := by decide +kernel
theorem d_Law_law_352 : decode code 352 = .ok (.iload 5, 2) := by decide +kernel
theorem d_Law_law_354 : decode code 354 = .ok (.ifCond .ne 15, 3) := by decide +kernel
theorem d_Law_law_357 : decode code 357 = .ok (.aload_n 3, 1) := by decide +kernel
theorem d_Law_law_358 : decode code 358 = .ok (.iconst 0, 1) := by decide +kernel
theorem d_Law_law_359 : decode code 359 = .ok (.laload, 1) := by decide +kernel
theorem d_Law_law_360 : decode code 360 = .ok (.iload 6, 2) := by decide +kernel
theorem d_Law_law_362 : decode code 362 = .ok (.i2l, 1) := by decide +kernel
theorem d_Law_law_363 : decode code 363 = .ok (.lcmp, 1) := by decide +kernel
theorem d_Law_law_364 : decode code 364 = .ok (.ifCond .eq 5, 3) := by decide +kernel
theorem d_Law_law_367 : decode code 367 = .ok (.iconst 0, 1) := by decide +kernel
theorem d_Law_law_368 : decode code 368 = .ok (.ireturn, 1) := by decide +kernel
theorem d_Law_law_369 : decode code 369 = .ok (.goto 777, 3) := by decide +kernel
theorem d_Law_law_372 : decode code 372 = .ok (.aload_n 1, 1) := by decide +kernel
theorem d_Law_law_373 : decode code 373 = .ok (.aload_n 0, 1) := by decide +kernel
theorem d_Law_law_374 : decode code 374 = .ok (.iload 4, 2) := by decide +kernel
theorem d_Law_law_376 : decode code 376 = .ok (.iconst 1, 1) := by decide +kernel
theorem d_Law_law_377 : decode code 377 = .ok (.iadd, 1) := by decide +kernel
theorem d_Law_law_378 : decode code 378 = .ok (.iaload, 1) := by decide +kernel
theorem d_Law_law_379 : decode code 379 = .ok (.aload_n 3, 1) := by decide +kernel
theorem d_Law_law_380 : decode code 380 = .ok (.invokestatic 94, 3) := by decide +kernel
theorem d_Law_law_383 : decode code 383 = .ok (.istore 5, 2) := by decide +kernel
theorem d_Law_law_385 : decode code 385 = .ok (.aload_n 2, 1) := by decide +kernel
theorem d_Law_law_386 : decode code 386 = .ok (.aload_n 0, 1) := by decide +kernel
theorem d_Law_law_387 : decode code 387 = .ok (.iload 4, 2) := by decide +kernel
theorem d_Law_law_389 : decode code 389 = .ok (.iconst 1, 1) := by decide +kernel
theorem d_Law_law_390 : decode code 390 = .ok (.iadd, 1) := by decide +kernel
theorem d_Law_law_391 : decode code 391 = .ok (.iaload, 1) := by decide +kernel
theorem d_Law_law_392 : decode code 392 = .ok (.invokevirtual 97, 3) := by decide +kernel
theorem d_Law_law_395 : decode code 395 = .ok (.istore 6, 2) := by decide +kernel
theorem d_Law_law_397 : decode code 397 = .ok (.aload_n 2, 1) := by decide +kernel
theorem d_Law_law_398 : decode code 398 = .ok (.invokevirtual 83, 3) := by decide +kernel
theorem d_Law_law_401 : decode code 401 = .ok (.iload 5, 2) := by decide +kernel
theorem d_Law_law_403 : decode code 403 = .ok (.if_icmp .eq 5, 3) := by decide +kernel
theorem d_Law_law_406 : decode code 406 = .ok (.iconst 0, 1) := by decide +kernel
theorem d_Law_law_407 : decode code 407 = .ok (.ireturn, 1) := by decide +kernel
theorem d_Law_law_408 : decode code 408 = .ok (.iload 5, 2) := by decide +kernel
theorem d_Law_law_410 : decode code 410 = .ok (.ifCond .ne 15, 3) := by decide +kernel
theorem d_Law_law_413 : decode code 413 = .ok (.aload_n 3, 1) := by decide +kernel
theorem d_Law_law_414 : decode code 414 = .ok (.iconst 0, 1) := by decide +kernel
theorem d_Law_law_415 : decode code 415 = .ok (.laload, 1) := by decide +kernel
theorem d_Law_law_416 : decode code 416 = .ok (.iload 6, 2) := by decide +kernel
theorem d_Law_law_418 : decode code 418 = .ok (.i2l, 1) := by decide +kernel
theorem d_Law_law_419 : decode code 419 = .ok (.lcmp, 1) := by decide +kernel
theorem d_Law_law_420 : decode code 420 = .ok (.ifCond .eq 5, 3) := by decide +kernel
theorem d_Law_law_423 : decode code 423 = .ok (.iconst 0, 1) := by decide +kernel
theorem d_Law_law_424 : decode code 424 = .ok (.ireturn, 1) := by decide +kernel
theorem d_Law_law_425 : decode code 425 = .ok (.goto 721, 3) := by decide +kernel
theorem d_Law_law_428 : decode code 428 = .ok (.aload_n 1, 1) := by decide +kernel
theorem d_Law_law_429 : decode code 429 = .ok (.aload_n 0, 1) := by decide +kernel
theorem d_Law_law_430 : decode code 430 = .ok (.iload 4, 2) := by decide +kernel
theorem d_Law_law_432 : decode code 432 = .ok (.iconst 1, 1) := by decide +kernel
theorem d_Law_law_433 : decode code 433 = .ok (.iadd, 1) := by decide +kernel
theorem d_Law_law_434 : decode code 434 = .ok (.iaload, 1) := by decide +kernel
theorem d_Law_law_435 : decode code 435 = .ok (.aload_n 0, 1) := by decide +kernel
theorem d_Law_law_436 : decode code 436 = .ok (.iload 4, 2) := by decide +kernel
theorem d_Law_law_438 : decode code 438 = .ok (.iconst 2, 1) := by decide +kernel
theorem d_Law_law_439 : decode code 439 = .ok (.iadd, 1) := by decide +kernel
theorem d_Law_law_440 : decode code 440 = .ok (.iaload, 1) := by decide +kernel
theorem d_Law_law_441 : decode code 441 = .ok (.aload_n 3, 1) := by decide +kernel
theorem d_Law_law_442 : decode code 442 = .ok (.invokestatic 98, 3) := by decide +kernel
theorem d_Law_law_445 : decode code 445 = .ok (.istore 5, 2) := by decide +kernel
theorem d_Law_law_447 : decode code 447 = .ok (.aload_n 2, 1) := by decide +kernel
theorem d_Law_law_448 : decode code 448 = .ok (.aload_n 0, 1) := by decide +kernel
theorem d_Law_law_449 : decode code 449 = .ok (.iload 4, 2) := by decide +kernel
theorem d_Law_law_451 : decode code 451 = .ok (.iconst 1, 1) := by decide +kernel
theorem d_Law_law_452 : decode code 452 = .ok (.iadd, 1) := by decide +kernel
theorem d_Law_law_453 : decode code 453 = .ok (.iaload, 1) := by decide +kernel
theorem d_Law_law_454 : decode code 454 = .ok (.aload_n 0, 1) := by decide +kernel
theorem d_Law_law_455 : decode code 455 = .ok (.iload 4, 2) := by decide +kernel
theorem d_Law_law_457 : decode code 457 = .ok (.iconst 2, 1) := by decide +kernel
theorem d_Law_law_458 : decode code 458 = .ok (.iadd, 1) := by decide +kernel
theorem d_Law_law_459 : decode code 459 = .ok (.iaload, 1) := by decide +kernel
theorem d_Law_law_460 : decode code 460 = .ok (.invokevirtual 100, 3) := by decide +kernel
theorem d_Law_law_463 : decode code 463 = .ok (.istore 6, 2) := by decide +kernel
theorem d_Law_law_465 : decode code 465 = .ok (.aload_n 2, 1) := by decide +kernel
theorem d_Law_law_466 : decode code 466 = .ok (.invokevirtual 83, 3) := by decide +kernel
theorem d_Law_law_469 : decode code 469 = .ok (.iload 5, 2) := by decide +kernel
theorem d_Law_law_471 : decode code 471 = .ok (.if_icmp .eq 5, 3) := by decide +kernel
theorem d_Law_law_474 : decode code 474 = .ok (.iconst 0, 1) := by decide +kernel
theorem d_Law_law_475 : decode code 475 = .ok (.ireturn, 1) := by decide +kernel
theorem d_Law_law_476 : decode code 476 = .ok (.iload 5, 2) := by decide +kernel
theorem d_Law_law_478 : decode code 478 = .ok (.ifCond .ne 15, 3) := by decide +kernel
theorem d_Law_law_481 : decode code 481 = .ok (.aload_n 3, 1) := by decide +kernel
theorem d_Law_law_482 : decode code 482 = .ok (.iconst 0, 1) := by decide +kernel
theorem d_Law_law_483 : decode code 483 = .ok (.laload, 1) := by decide +kernel
theorem d_Law_law_484 : decode code 484 = .ok (.iload 6, 2) := by decide +kernel
theorem d_Law_law_486 : decode code 486 = .ok (.i2l, 1) := by decide +kernel
theorem d_Law_law_487 : decode code 487 = .ok (.lcmp, 1) := by decide +kernel
theorem d_Law_law_488 : decode code 488 = .ok (.ifCond .eq 5, 3) := by decide +kernel
theorem d_Law_law_491 : decode code 491 = .ok (.iconst 0, 1) := by decide +kernel
theorem d_Law_law_492 : decode code 492 = .ok (.ireturn, 1) := by decide +kernel
theorem d_Law_law_493 : decode code 493 = .ok (.goto 653, 3) := by decide +kernel
theorem d_Law_law_496 : decode code 496 = .ok (.aload_n 1, 1) := by decide +kernel
theorem d_Law_law_497 : decode code 497 = .ok (.aload_n 0, 1) := by decide +kernel
theorem d_Law_law_498 : decode code 498 = .ok (.iload 4, 2) := by decide +kernel
theorem d_Law_law_500 : decode code 500 = .ok (.iconst 1, 1) := by decide +kernel
theorem d_Law_law_501 : decode code 501 = .ok (.iadd, 1) := by decide +kernel
theorem d_Law_law_502 : decode code 502 = .ok (.iaload, 1) := by decide +kernel
theorem d_Law_law_503 : decode code 503 = .ok (.aload_n 0, 1) := by decide +kernel
theorem d_Law_law_504 : decode code 504 = .ok (.iload 4, 2) := by decide +kernel
theorem d_Law_law_506 : decode code 506 = .ok (.iconst 2, 1) := by decide +kernel
theorem d_Law_law_507 : decode code 507 = .ok (.iadd, 1) := by decide +kernel
theorem d_Law_law_508 : decode code 508 = .ok (.iaload, 1) := by decide +kernel
theorem d_Law_law_509 : decode code 509 = .ok (.aload_n 0, 1) := by decide +kernel
theorem d_Law_law_510 : decode code 510 = .ok (.iload 4, 2) := by decide +kernel
theorem d_Law_law_512 : decode code 512 = .ok (.iconst 3, 1) := by decide +kernel
theorem d_Law_law_513 : decode code 513 = .ok (.iadd, 1) := by decide +kernel
theorem d_Law_law_514 : decode code 514 = .ok (.iaload, 1) := by decide +kernel
theorem d_Law_law_515 : decode code 515 = .ok (.aload_n 3, 1) := by decide +kernel
theorem d_Law_law_516 : decode code 516 = .ok (.invokestatic 101, 3) := by decide +kernel
theorem d_Law_law_519 : decode code 519 = .ok (.istore 5, 2) := by decide +kernel
theorem d_Law_law_521 : decode code 521 = .ok (.aload_n 2, 1) := by decide +kernel
theorem d_Law_law_522 : decode code 522 = .ok (.aload_n 0, 1) := by decide +kernel
theorem d_Law_law_523 : decode code 523 = .ok (.iload 4, 2) := by decide +kernel
theorem d_Law_law_525 : decode code 525 = .ok (.iconst 1, 1) := by decide +kernel
theorem d_Law_law_526 : decode code 526 = .ok (.iadd, 1) := by decide +kernel
theorem d_Law_law_527 : decode code 527 = .ok (.iaload, 1) := by decide +kernel
theorem d_Law_law_528 : decode code 528 = .ok (.aload_n 0, 1) := by decide +kernel
theorem d_Law_law_529 : decode code 529 = .ok (.iload 4, 2) := by decide +kernel
theorem d_Law_law_531 : decode code 531 = .ok (.iconst 2, 1) := by decide +kernel
theorem d_Law_law_532 : decode code 532 = .ok (.iadd, 1) := by decide +kernel
theorem d_Law_law_533 : decode code 533 = .ok (.iaload, 1) := by decide +kernel
theorem d_Law_law_534 : decode code 534 = .ok (.aload_n 0, 1) := by decide +kernel
theorem d_Law_law_535 : decode code 535 = .ok (.iload 4, 2) := by decide +kernel
theorem d_Law_law_537 : decode code 537 = .ok (.iconst 3, 1) := by decide +kernel
theorem d_Law_law_538 : decode code 538 = .ok (.iadd, 1) := by decide +kernel
theorem d_Law_law_539 : decode code 539 = .ok (.iaload, 1) := by decide +kernel
theorem d_Law_law_540 : decode code 540 = .ok (.invokevirtual 104, 3) := by decide +kernel
theorem d_Law_law_543 : decode code 543 = .ok (.istore 6, 2) := by decide +kernel
theorem d_Law_law_545 : decode code 545 = .ok (.aload_n 2, 1) := by decide +kernel
theorem d_Law_law_546 : decode code 546 = .ok (.invokevirtual 83, 3) := by decide +kernel
theorem d_Law_law_549 : decode code 549 = .ok (.iload 5, 2) := by decide +kernel
theorem d_Law_law_551 : decode code 551 = .ok (.if_icmp .eq 5, 3) := by decide +kernel
theorem d_Law_law_554 : decode code 554 = .ok (.iconst 0, 1) := by decide +kernel
theorem d_Law_law_555 : decode code 555 = .ok (.ireturn, 1) := by decide +kernel
theorem d_Law_law_556 : decode code 556 = .ok (.iload 5, 2) := by decide +kernel
theorem d_Law_law_558 : decode code 558 = .ok (.ifCond .ne 15, 3) := by decide +kernel
theorem d_Law_law_561 : decode code 561 = .ok (.aload_n 3, 1) := by decide +kernel
theorem d_Law_law_562 : decode code 562 = .ok (.iconst 0, 1) := by decide +kernel
theorem d_Law_law_563 : decode code 563 = .ok (.laload, 1) := by decide +kernel
theorem d_Law_law_564 : decode code 564 = .ok (.iload 6, 2) := by decide +kernel
theorem d_Law_law_566 : decode code 566 = .ok (.i2l, 1) := by decide +kernel
theorem d_Law_law_567 : decode code 567 = .ok (.lcmp, 1) := by decide +kernel
theorem d_Law_law_568 : decode code 568 = .ok (.ifCond .eq 5, 3) := by decide +kernel
theorem d_Law_law_571 : decode code 571 = .ok (.iconst 0, 1) := by decide +kernel
theorem d_Law_law_572 : decode code 572 = .ok (.ireturn, 1) := by decide +kernel
theorem d_Law_law_573 : decode code 573 = .ok (.goto 573, 3) := by decide +kernel
theorem d_Law_law_576 : decode code 576 = .ok (.aload_n 1, 1) := by decide +kernel
theorem d_Law_law_577 : decode code 577 = .ok (.invokevirtual 105, 3) := by decide +kernel
theorem d_Law_law_580 : decode code 580 = .ok (.aload_n 2, 1) := by decide +kernel
theorem d_Law_law_581 : decode code 581 = .ok (.invokevirtual 109, 3) := by decide +kernel
theorem d_Law_law_584 : decode code 584 = .ok (.if_icmp .eq 562, 3) := by decide +kernel
theorem d_Law_law_587 : decode code 587 = .ok (.iconst 0, 1) := by decide +kernel
theorem d_Law_law_588 : decode code 588 = .ok (.ireturn, 1) := by decide +kernel
theorem d_Law_law_589 : decode code 589 = .ok (.aload_n 1, 1) := by decide +kernel
theorem d_Law_law_590 : decode code 590 = .ok (.aload_n 0, 1) := by decide +kernel
theorem d_Law_law_591 : decode code 591 = .ok (.iload 4, 2) := by decide +kernel
theorem d_Law_law_593 : decode code 593 = .ok (.iconst 1, 1) := by decide +kernel
theorem d_Law_law_594 : decode code 594 = .ok (.iadd, 1) := by decide +kernel
theorem d_Law_law_595 : decode code 595 = .ok (.iaload, 1) := by decide +kernel
theorem d_Law_law_596 : decode code 596 = .ok (.aload_n 0, 1) := by decide +kernel
theorem d_Law_law_597 : decode code 597 = .ok (.iload 4, 2) := by decide +kernel
theorem d_Law_law_599 : decode code 599 = .ok (.iconst 2, 1) := by decide +kernel
theorem d_Law_law_600 : decode code 600 = .ok (.iadd, 1) := by decide +kernel
theorem d_Law_law_601 : decode code 601 = .ok (.iaload, 1) := by decide +kernel
theorem d_Law_law_602 : decode code 602 = .ok (.invokestatic 110, 3) := by decide +kernel
theorem d_Law_law_605 : decode code 605 = .ok (.istore 5, 2) := by decide +kernel
theorem d_Law_law_607 : decode code 607 = .ok (.aload_n 2, 1) := by decide +kernel
theorem d_Law_law_608 : decode code 608 = .ok (.aload_n 0, 1) := by decide +kernel
theorem d_Law_law_609 : decode code 609 = .ok (.iload 4, 2) := by decide +kernel
theorem d_Law_law_611 : decode code 611 = .ok (.iconst 1, 1) := by decide +kernel
theorem d_Law_law_612 : decode code 612 = .ok (.iadd, 1) := by decide +kernel
theorem d_Law_law_613 : decode code 613 = .ok (.iaload, 1) := by decide +kernel
theorem d_Law_law_614 : decode code 614 = .ok (.aload_n 0, 1) := by decide +kernel
theorem d_Law_law_615 : decode code 615 = .ok (.iload 4, 2) := by decide +kernel
theorem d_Law_law_617 : decode code 617 = .ok (.iconst 2, 1) := by decide +kernel
theorem d_Law_law_618 : decode code 618 = .ok (.iadd, 1) := by decide +kernel
theorem d_Law_law_619 : decode code 619 = .ok (.iaload, 1) := by decide +kernel
theorem d_Law_law_620 : decode code 620 = .ok (.invokevirtual 113, 3) := by decide +kernel
theorem d_Law_law_623 : decode code 623 = .ok (.aload_n 2, 1) := by decide +kernel
theorem d_Law_law_624 : decode code 624 = .ok (.invokevirtual 83, 3) := by decide +kernel
theorem d_Law_law_627 : decode code 627 = .ok (.iload 5, 2) := by decide +kernel
theorem d_Law_law_629 : decode code 629 = .ok (.if_icmp .eq 5, 3) := by decide +kernel
theorem d_Law_law_632 : decode code 632 = .ok (.iconst 0, 1) := by decide +kernel
theorem d_Law_law_633 : decode code 633 = .ok (.ireturn, 1) := by decide +kernel
theorem d_Law_law_634 : decode code 634 = .ok (.goto 512, 3) := by decide +kernel
theorem d_Law_law_637 : decode code 637 = .ok (.aload_n 1, 1) := by decide +kernel
theorem d_Law_law_638 : decode code 638 = .ok (.aload_n 0, 1) := by decide +kernel
theorem d_Law_law_639 : decode code 639 = .ok (.iload 4, 2) := by decide +kernel
theorem d_Law_law_641 : decode code 641 = .ok (.iconst 1, 1) := by decide +kernel
theorem d_Law_law_642 : decode code 642 = .ok (.iadd, 1) := by decide +kernel
theorem d_Law_law_643 : decode code 643 = .ok (.iaload, 1) := by decide +kernel
theorem d_Law_law_644 : decode code 644 = .ok (.i2l, 1) := by decide +kernel
theorem d_Law_law_645 : decode code 645 = .ok (.bipush 32, 2) := by decide +kernel
theorem d_Law_law_647 : decode code 647 = .ok (.lshl, 1) := by decide +kernel
theorem d_Law_law_648 : decode code 648 = .ok (.aload_n 0, 1) := by decide +kernel
theorem d_Law_law_649 : decode code 649 = .ok (.iload 4, 2) := by decide +kernel
theorem d_Law_law_651 : decode code 651 = .ok (.iconst 2, 1) := by decide +kernel
theorem d_Law_law_652 : decode code 652 = .ok (.iadd, 1) := by decide +kernel
theorem d_Law_law_653 : decode code 653 = .ok (.iaload, 1) := by decide +kernel
theorem d_Law_law_654 : decode code 654 = .ok (.i2l, 1) := by decide +kernel
theorem d_Law_law_655 : decode code 655 = .ok (.ldc2_w 77, 3) := by decide +kernel
theorem d_Law_law_658 : decode code 658 = .ok (.land, 1) := by decide +kernel
theorem d_Law_law_659 : decode code 659 = .ok (.lor, 1) := by decide +kernel
theorem d_Law_law_660 : decode code 660 = .ok (.invokevirtual 114, 3) := by decide +kernel
theorem d_Law_law_663 : decode code 663 = .ok (.aload_n 2, 1) := by decide +kernel
theorem d_Law_law_664 : decode code 664 = .ok (.aload_n 0, 1) := by decide +kernel
theorem d_Law_law_665 : decode code 665 = .ok (.iload 4, 2) := by decide +kernel
theorem d_Law_law_667 : decode code 667 = .ok (.iconst 1, 1) := by decide +kernel
theorem d_Law_law_668 : decode code 668 = .ok (.iadd, 1) := by decide +kernel
theorem d_Law_law_669 : decode code 669 = .ok (.iaload, 1) := by decide +kernel
theorem d_Law_law_670 : decode code 670 = .ok (.i2l, 1) := by decide +kernel
theorem d_Law_law_671 : decode code 671 = .ok (.bipush 32, 2) := by decide +kernel
theorem d_Law_law_673 : decode code 673 = .ok (.lshl, 1) := by decide +kernel
theorem d_Law_law_674 : decode code 674 = .ok (.aload_n 0, 1) := by decide +kernel
theorem d_Law_law_675 : decode code 675 = .ok (.iload 4, 2) := by decide +kernel
theorem d_Law_law_677 : decode code 677 = .ok (.iconst 2, 1) := by decide +kernel
theorem d_Law_law_678 : decode code 678 = .ok (.iadd, 1) := by decide +kernel
theorem d_Law_law_679 : decode code 679 = .ok (.iaload, 1) := by decide +kernel
theorem d_Law_law_680 : decode code 680 = .ok (.i2l, 1) := by decide +kernel
theorem d_Law_law_681 : decode code 681 = .ok (.ldc2_w 77, 3) := by decide +kernel
theorem d_Law_law_684 : decode code 684 = .ok (.land, 1) := by decide +kernel
theorem d_Law_law_685 : decode code 685 = .ok (.lor, 1) := by decide +kernel
theorem d_Law_law_686 : decode code 686 = .ok (.invokevirtual 118, 3) := by decide +kernel
theorem d_Law_law_689 : decode code 689 = .ok (.if_icmp .eq 457, 3) := by decide +kernel
theorem d_Law_law_692 : decode code 692 = .ok (.iconst 0, 1) := by decide +kernel
theorem d_Law_law_693 : decode code 693 = .ok (.ireturn, 1) := by decide +kernel
theorem d_Law_law_694 : decode code 694 = .ok (.aload_n 1, 1) := by decide +kernel
theorem d_Law_law_695 : decode code 695 = .ok (.aload_n 0, 1) := by decide +kernel
theorem d_Law_law_696 : decode code 696 = .ok (.iload 4, 2) := by decide +kernel
theorem d_Law_law_698 : decode code 698 = .ok (.iconst 1, 1) := by decide +kernel
theorem d_Law_law_699 : decode code 699 = .ok (.iadd, 1) := by decide +kernel
theorem d_Law_law_700 : decode code 700 = .ok (.iaload, 1) := by decide +kernel
theorem d_Law_law_701 : decode code 701 = .ok (.aload_n 3, 1) := by decide +kernel
theorem d_Law_law_702 : decode code 702 = .ok (.invokestatic 119, 3) := by decide +kernel
theorem d_Law_law_705 : decode code 705 = .ok (.istore 5, 2) := by decide +kernel
theorem d_Law_law_707 : decode code 707 = .ok (.aload_n 2, 1) := by decide +kernel
theorem d_Law_law_708 : decode code 708 = .ok (.aload_n 0, 1) := by decide +kernel
theorem d_Law_law_709 : decode code 709 = .ok (.iload 4, 2) := by decide +kernel
theorem d_Law_law_711 : decode code 711 = .ok (.iconst 1, 1) := by decide +kernel
theorem d_Law_law_712 : decode code 712 = .ok (.iadd, 1) := by decide +kernel
theorem d_Law_law_713 : decode code 713 = .ok (.iaload, 1) := by decide +kernel
theorem d_Law_law_714 : decode code 714 = .ok (.invokevirtual 121, 3) := by decide +kernel
theorem d_Law_law_717 : decode code 717 = .ok (.istore 6, 2) := by decide +kernel
theorem d_Law_law_719 : decode code 719 = .ok (.aload_n 2, 1) := by decide +kernel
theorem d_Law_law_720 : decode code 720 = .ok (.invokevirtual 83, 3) := by decide +kernel
theorem d_Law_law_723 : decode code 723 = .ok (.iload 5, 2) := by decide +kernel
theorem d_Law_law_725 : decode code 725 = .ok (.if_icmp .eq 5, 3) := by decide +kernel
theorem d_Law_law_728 : decode code 728 = .ok (.iconst 0, 1) := by decide +kernel
theorem d_Law_law_729 : decode code 729 = .ok (.ireturn, 1) := by decide +kernel
theorem d_Law_law_730 : decode code 730 = .ok (.iload 5, 2) := by decide +kernel
theorem d_Law_law_732 : decode code 732 = .ok (.ifCond .ne 15, 3) := by decide +kernel
theorem d_Law_law_735 : decode code 735 = .ok (.aload_n 3, 1) := by decide +kernel
theorem d_Law_law_736 : decode code 736 = .ok (.iconst 0, 1) := by decide +kernel
theorem d_Law_law_737 : decode code 737 = .ok (.laload, 1) := by decide +kernel
theorem d_Law_law_738 : decode code 738 = .ok (.iload 6, 2) := by decide +kernel
theorem d_Law_law_740 : decode code 740 = .ok (.i2l, 1) := by decide +kernel
theorem d_Law_law_741 : decode code 741 = .ok (.lcmp, 1) := by decide +kernel
theorem d_Law_law_742 : decode code 742 = .ok (.ifCond .eq 5, 3) := by decide +kernel
theorem d_Law_law_745 : decode code 745 = .ok (.iconst 0, 1) := by decide +kernel
theorem d_Law_law_746 : decode code 746 = .ok (.ireturn, 1) := by decide +kernel
theorem d_Law_law_747 : decode code 747 = .ok (.goto 399, 3) := by decide +kernel
theorem d_Law_law_750 : decode code 750 = .ok (.aload_n 1, 1) := by decide +kernel
theorem d_Law_law_751 : decode code 751 = .ok (.aload_n 0, 1) := by decide +kernel
theorem d_Law_law_752 : decode code 752 = .ok (.iload 4, 2) := by decide +kernel
theorem d_Law_law_754 : decode code 754 = .ok (.iconst 1, 1) := by decide +kernel
theorem d_Law_law_755 : decode code 755 = .ok (.iadd, 1) := by decide +kernel
theorem d_Law_law_756 : decode code 756 = .ok (.iaload, 1) := by decide +kernel
theorem d_Law_law_757 : decode code 757 = .ok (.aload_n 0, 1) := by decide +kernel
theorem d_Law_law_758 : decode code 758 = .ok (.iload 4, 2) := by decide +kernel
theorem d_Law_law_760 : decode code 760 = .ok (.iconst 2, 1) := by decide +kernel
theorem d_Law_law_761 : decode code 761 = .ok (.iadd, 1) := by decide +kernel
theorem d_Law_law_762 : decode code 762 = .ok (.iaload, 1) := by decide +kernel
theorem d_Law_law_763 : decode code 763 = .ok (.aload_n 3, 1) := by decide +kernel
theorem d_Law_law_764 : decode code 764 = .ok (.invokestatic 122, 3) := by decide +kernel
theorem d_Law_law_767 : decode code 767 = .ok (.istore 5, 2) := by decide +kernel
theorem d_Law_law_769 : decode code 769 = .ok (.aload_n 2, 1) := by decide +kernel
theorem d_Law_law_770 : decode code 770 = .ok (.aload_n 0, 1) := by decide +kernel
theorem d_Law_law_771 : decode code 771 = .ok (.iload 4, 2) := by decide +kernel
theorem d_Law_law_773 : decode code 773 = .ok (.iconst 1, 1) := by decide +kernel
theorem d_Law_law_774 : decode code 774 = .ok (.iadd, 1) := by decide +kernel
theorem d_Law_law_775 : decode code 775 = .ok (.iaload, 1) := by decide +kernel
theorem d_Law_law_776 : decode code 776 = .ok (.aload_n 0, 1) := by decide +kernel
theorem d_Law_law_777 : decode code 777 = .ok (.iload 4, 2) := by decide +kernel
theorem d_Law_law_779 : decode code 779 = .ok (.iconst 2, 1) := by decide +kernel
theorem d_Law_law_780 : decode code 780 = .ok (.iadd, 1) := by decide +kernel
theorem d_Law_law_781 : decode code 781 = .ok (.iaload, 1) := by decide +kernel
theorem d_Law_law_782 : decode code 782 = .ok (.invokevirtual 124, 3) := by decide +kernel
theorem d_Law_law_785 : decode code 785 = .ok (.istore 6, 2) := by decide +kernel
theorem d_Law_law_787 : decode code 787 = .ok (.aload_n 2, 1) := by decide +kernel
theorem d_Law_law_788 : decode code 788 = .ok (.invokevirtual 83, 3) := by decide +kernel
theorem d_Law_law_791 : decode code 791 = .ok (.iload 5, 2) := by decide +kernel
