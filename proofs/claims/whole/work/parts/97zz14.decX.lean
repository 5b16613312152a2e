theorem d_Bytes_size_0 : decode s_Bytes_size.2.1 0 = .ok (.aload_n 0, 1) := by decide +kernel
theorem d_Bytes_size_1 : decode s_Bytes_size.2.1 1 = .ok (.getfield 15, 3) := by decide +kernel
theorem d_Bytes_size_4 : decode s_Bytes_size.2.1 4 = .ok (.ireturn, 1) := by decide +kernel
theorem d_PA_refuse_0 : decode s_PA_refuse.2.1 0 = .ok (.aload_n 0, 1) := by decide +kernel
theorem d_PA_refuse_1 : decode s_PA_refuse.2.1 1 = .ok (.getfield 57, 3) := by decide +kernel
theorem d_PA_refuse_4 : decode s_PA_refuse.2.1 4 = .ok (.iload_n 1, 1) := by decide +kernel
theorem d_PA_refuse_5 : decode s_PA_refuse.2.1 5 = .ok (.dup2, 1) := by decide +kernel
theorem d_PA_refuse_6 : decode s_PA_refuse.2.1 6 = .ok (.iaload, 1) := by decide +kernel
theorem d_PA_refuse_7 : decode s_PA_refuse.2.1 7 = .ok (.iconst 1, 1) := by decide +kernel
theorem d_PA_refuse_8 : decode s_PA_refuse.2.1 8 = .ok (.iadd, 1) := by decide +kernel
theorem d_PA_refuse_9 : decode s_PA_refuse.2.1 9 = .ok (.iastore, 1) := by decide +kernel
theorem d_PA_refuse_10 : decode s_PA_refuse.2.1 10 = .ok (.iconst (-1), 1) := by decide +kernel
theorem d_PA_refuse_11 : decode s_PA_refuse.2.1 11 = .ok (.ireturn, 1) := by decide +kernel
theorem d_Bytes_add_0 : decode s_Bytes_add.2.1 0 = .ok (.aload_n 0, 1) := by decide +kernel
theorem d_Bytes_add_1 : decode s_Bytes_add.2.1 1 = .ok (.getfield 15, 3) := by decide +kernel
theorem d_Bytes_add_4 : decode s_Bytes_add.2.1 4 = .ok (.sipush 1600, 3) := by decide +kernel
theorem d_Bytes_add_7 : decode s_Bytes_add.2.1 7 = .ok (.if_icmp .ge 27, 3) := by decide +kernel
theorem d_Bytes_add_10 : decode s_Bytes_add.2.1 10 = .ok (.aload_n 0, 1) := by decide +kernel
theorem d_Bytes_add_11 : decode s_Bytes_add.2.1 11 = .ok (.getfield 9, 3) := by decide +kernel
theorem d_Bytes_add_14 : decode s_Bytes_add.2.1 14 = .ok (.aload_n 0, 1) := by decide +kernel
theorem d_Bytes_add_15 : decode s_Bytes_add.2.1 15 = .ok (.getfield 15, 3) := by decide +kernel
theorem d_Bytes_add_18 : decode s_Bytes_add.2.1 18 = .ok (.iload_n 1, 1) := by decide +kernel
theorem d_Bytes_add_19 : decode s_Bytes_add.2.1 19 = .ok (.sipush 255, 3) := by decide +kernel
theorem d_Bytes_add_22 : decode s_Bytes_add.2.1 22 = .ok (.iand, 1) := by decide +kernel
theorem d_Bytes_add_23 : decode s_Bytes_add.2.1 23 = .ok (.iastore, 1) := by decide +kernel
theorem d_Bytes_add_24 : decode s_Bytes_add.2.1 24 = .ok (.aload_n 0, 1) := by decide +kernel
theorem d_Bytes_add_25 : decode s_Bytes_add.2.1 25 = .ok (.dup, 1) := by decide +kernel
theorem d_Bytes_add_26 : decode s_Bytes_add.2.1 26 = .ok (.getfield 15, 3) := by decide +kernel
theorem d_Bytes_add_29 : decode s_Bytes_add.2.1 29 = .ok (.iconst 1, 1) := by decide +kernel
theorem d_Bytes_add_30 : decode s_Bytes_add.2.1 30 = .ok (.iadd, 1) := by decide +kernel
theorem d_Bytes_add_31 : decode s_Bytes_add.2.1 31 = .ok (.putfield 15, 3) := by decide +kernel
theorem d_Bytes_add_34 : decode s_Bytes_add.2.1 34 = .ok (.return_, 1) := by decide +kernel
theorem d_Bytes_addNumber_0 : decode s_Bytes_addNumber.2.1 0 = .ok (.bipush 24, 2) := by decide +kernel
theorem d_Bytes_addNumber_2 : decode s_Bytes_addNumber.2.1 2 = .ok (.istore_n 2, 1) := by decide +kernel
theorem d_Bytes_addNumber_3 : decode s_Bytes_addNumber.2.1 3 = .ok (.iload_n 2, 1) := by decide +kernel
theorem d_Bytes_addNumber_4 : decode s_Bytes_addNumber.2.1 4 = .ok (.ifCond .lt 16, 3) := by decide +kernel
theorem d_Bytes_addNumber_7 : decode s_Bytes_addNumber.2.1 7 = .ok (.aload_n 0, 1) := by decide +kernel
theorem d_Bytes_addNumber_8 : decode s_Bytes_addNumber.2.1 8 = .ok (.iload_n 1, 1) := by decide +kernel
theorem d_Bytes_addNumber_9 : decode s_Bytes_addNumber.2.1 9 = .ok (.iload_n 2, 1) := by decide +kernel
theorem d_Bytes_addNumber_10 : decode s_Bytes_addNumber.2.1 10 = .ok (.ishr, 1) := by decide +kernel
theorem d_Bytes_addNumber_11 : decode s_Bytes_addNumber.2.1 11 = .ok (.invokevirtual 19, 3) := by decide +kernel
theorem d_Bytes_addNumber_14 : decode s_Bytes_addNumber.2.1 14 = .ok (.iinc 2 (-8), 3) := by decide +kernel
theorem d_Bytes_addNumber_17 : decode s_Bytes_addNumber.2.1 17 = .ok (.goto (-14), 3) := by decide +kernel
theorem d_Bytes_addNumber_20 : decode s_Bytes_addNumber.2.1 20 = .ok (.return_, 1) := by decide +kernel
theorem d_PA_feed_0 : decode s_PA_feed.2.1 0 = .ok (.aload_n 0, 1) := by decide +kernel
theorem d_PA_feed_1 : decode s_PA_feed.2.1 1 = .ok (.getfield 12, 3) := by decide +kernel
theorem d_PA_feed_4 : decode s_PA_feed.2.1 4 = .ok (.invokevirtual 96, 3) := by decide +kernel
theorem d_PA_feed_7 : decode s_PA_feed.2.1 7 = .ok (.bipush 20, 2) := by decide +kernel
theorem d_PA_feed_9 : decode s_PA_feed.2.1 9 = .ok (.iadd, 1) := by decide +kernel
theorem d_PA_feed_10 : decode s_PA_feed.2.1 10 = .ok (.sipush 1600, 3) := by decide +kernel
theorem d_PA_feed_13 : decode s_PA_feed.2.1 13 = .ok (.if_icmp .le 9, 3) := by decide +kernel
theorem d_PA_feed_16 : decode s_PA_feed.2.1 16 = .ok (.aload_n 0, 1) := by decide +kernel
theorem d_PA_feed_17 : decode s_PA_feed.2.1 17 = .ok (.iconst 0, 1) := by decide +kernel
theorem d_PA_feed_18 : decode s_PA_feed.2.1 18 = .ok (.invokevirtual 100, 3) := by decide +kernel
theorem d_PA_feed_21 : decode s_PA_feed.2.1 21 = .ok (.ireturn, 1) := by decide +kernel
theorem d_PA_feed_22 : decode s_PA_feed.2.1 22 = .ok (.aload_n 0, 1) := by decide +kernel
theorem d_PA_feed_23 : decode s_PA_feed.2.1 23 = .ok (.getfield 12, 3) := by decide +kernel
theorem d_PA_feed_26 : decode s_PA_feed.2.1 26 = .ok (.iload_n 1, 1) := by decide +kernel
theorem d_PA_feed_27 : decode s_PA_feed.2.1 27 = .ok (.invokevirtual 104, 3) := by decide +kernel
theorem d_PA_feed_30 : decode s_PA_feed.2.1 30 = .ok (.aload_n 0, 1) := by decide +kernel
theorem d_PA_feed_31 : decode s_PA_feed.2.1 31 = .ok (.getfield 12, 3) := by decide +kernel
theorem d_PA_feed_34 : decode s_PA_feed.2.1 34 = .ok (.iload_n 2, 1) := by decide +kernel
theorem d_PA_feed_35 : decode s_PA_feed.2.1 35 = .ok (.invokevirtual 104, 3) := by decide +kernel
theorem d_PA_feed_38 : decode s_PA_feed.2.1 38 = .ok (.aload_n 0, 1) := by decide +kernel
theorem d_PA_feed_39 : decode s_PA_feed.2.1 39 = .ok (.getfield 12, 3) := by decide +kernel
theorem d_PA_feed_42 : decode s_PA_feed.2.1 42 = .ok (.iload_n 3, 1) := by decide +kernel
theorem d_PA_feed_43 : decode s_PA_feed.2.1 43 = .ok (.invokevirtual 104, 3) := by decide +kernel
theorem d_PA_feed_46 : decode s_PA_feed.2.1 46 = .ok (.aload_n 0, 1) := by decide +kernel
theorem d_PA_feed_47 : decode s_PA_feed.2.1 47 = .ok (.getfield 12, 3) := by decide +kernel
theorem d_PA_feed_50 : decode s_PA_feed.2.1 50 = .ok (.iload 4, 2) := by decide +kernel
theorem d_PA_feed_52 : decode s_PA_feed.2.1 52 = .ok (.invokevirtual 104, 3) := by decide +kernel
theorem d_PA_feed_55 : decode s_PA_feed.2.1 55 = .ok (.aload_n 0, 1) := by decide +kernel
theorem d_PA_feed_56 : decode s_PA_feed.2.1 56 = .ok (.getfield 12, 3) := by decide +kernel
theorem d_PA_feed_59 : decode s_PA_feed.2.1 59 = .ok (.iload 5, 2) := by decide +kernel
theorem d_PA_feed_61 : decode s_PA_feed.2.1 61 = .ok (.invokevirtual 104, 3) := by decide +kernel
theorem d_PA_feed_64 : decode s_PA_feed.2.1 64 = .ok (.aload_n 0, 1) := by decide +kernel
theorem d_PA_feed_65 : decode s_PA_feed.2.1 65 = .ok (.getfield 12, 3) := by decide +kernel
theorem d_PA_feed_68 : decode s_PA_feed.2.1 68 = .ok (.invokevirtual 96, 3) := by decide +kernel
theorem d_PA_feed_71 : decode s_PA_feed.2.1 71 = .ok (.ireturn, 1) := by decide +kernel
theorem d_Bytes_cut_0 : decode s_Bytes_cut.2.1 0 = .ok (.iload_n 1, 1) := by decide +kernel
theorem d_Bytes_cut_1 : decode s_Bytes_cut.2.1 1 = .ok (.ifCond .lt 16, 3) := by decide +kernel
theorem d_Bytes_cut_4 : decode s_Bytes_cut.2.1 4 = .ok (.iload_n 1, 1) := by decide +kernel
theorem d_Bytes_cut_5 : decode s_Bytes_cut.2.1 5 = .ok (.aload_n 0, 1) := by decide +kernel
theorem d_Bytes_cut_6 : decode s_Bytes_cut.2.1 6 = .ok (.getfield 15, 3) := by decide +kernel
theorem d_Bytes_cut_9 : decode s_Bytes_cut.2.1 9 = .ok (.if_icmp .ge 8, 3) := by decide +kernel
theorem d_Bytes_cut_12 : decode s_Bytes_cut.2.1 12 = .ok (.aload_n 0, 1) := by decide +kernel
theorem d_Bytes_cut_13 : decode s_Bytes_cut.2.1 13 = .ok (.iload_n 1, 1) := by decide +kernel
theorem d_Bytes_cut_14 : decode s_Bytes_cut.2.1 14 = .ok (.putfield 15, 3) := by decide +kernel
theorem d_Bytes_cut_17 : decode s_Bytes_cut.2.1 17 = .ok (.return_, 1) := by decide +kernel
theorem d_PA_end_0 : decode s_PA_end.2.1 0 = .ok (.iload_n 1, 1) := by decide +kernel
theorem d_PA_end_1 : decode s_PA_end.2.1 1 = .ok (.ifCond .lt 14, 3) := by decide +kernel
theorem d_PA_end_4 : decode s_PA_end.2.1 4 = .ok (.iload_n 1, 1) := by decide +kernel
theorem d_PA_end_5 : decode s_PA_end.2.1 5 = .ok (.aload_n 0, 1) := by decide +kernel
theorem d_PA_end_6 : decode s_PA_end.2.1 6 = .ok (.getfield 12, 3) := by decide +kernel
theorem d_PA_end_9 : decode s_PA_end.2.1 9 = .ok (.invokevirtual 96, 3) := by decide +kernel
theorem d_PA_end_12 : decode s_PA_end.2.1 12 = .ok (.if_icmp .le 11, 3) := by decide +kernel
theorem d_PA_end_15 : decode s_PA_end.2.1 15 = .ok (.aload_n 0, 1) := by decide +kernel
theorem d_PA_end_16 : decode s_PA_end.2.1 16 = .ok (.iconst 0, 1) := by decide +kernel
theorem d_PA_end_17 : decode s_PA_end.2.1 17 = .ok (.invokevirtual 100, 3) := by decide +kernel
theorem d_PA_end_20 : decode s_PA_end.2.1 20 = .ok (.pop, 1) := by decide +kernel
theorem d_PA_end_21 : decode s_PA_end.2.1 21 = .ok (.iconst 0, 1) := by decide +kernel
theorem d_PA_end_22 : decode s_PA_end.2.1 22 = .ok (.ireturn, 1) := by decide +kernel
theorem d_PA_end_23 : decode s_PA_end.2.1 23 = .ok (.aload_n 0, 1) := by decide +kernel
theorem d_PA_end_24 : decode s_PA_end.2.1 24 = .ok (.getfield 12, 3) := by decide +kernel
theorem d_PA_end_27 : decode s_PA_end.2.1 27 = .ok (.iload_n 1, 1) := by decide +kernel
theorem d_PA_end_28 : decode s_PA_end.2.1 28 = .ok (.invokevirtual 108, 3) := by decide +kernel
theorem d_PA_end_31 : decode s_PA_end.2.1 31 = .ok (.iconst 1, 1) := by decide +kernel
theorem d_PA_end_32 : decode s_PA_end.2.1 32 = .ok (.ireturn, 1) := by decide +kernel
theorem d_Arrays_fill_0 : decode s_Arrays_fill.2.1 0 = .ok (.iconst 0, 1) := by decide +kernel
theorem d_Arrays_fill_1 : decode s_Arrays_fill.2.1 1 = .ok (.istore_n 2, 1) := by decide +kernel
theorem d_Arrays_fill_2 : decode s_Arrays_fill.2.1 2 = .ok (.aload_n 0, 1) := by decide +kernel
theorem d_Arrays_fill_3 : decode s_Arrays_fill.2.1 3 = .ok (.arraylength, 1) := by decide +kernel
theorem d_Arrays_fill_4 : decode s_Arrays_fill.2.1 4 = .ok (.istore_n 3, 1) := by decide +kernel
theorem d_Arrays_fill_5 : decode s_Arrays_fill.2.1 5 = .ok (.iload_n 2, 1) := by decide +kernel
theorem d_Arrays_fill_6 : decode s_Arrays_fill.2.1 6 = .ok (.iload_n 3, 1) := by decide +kernel
theorem d_Arrays_fill_7 : decode s_Arrays_fill.2.1 7 = .ok (.if_icmp .ge 13, 3) := by decide +kernel
theorem d_Arrays_fill_10 : decode s_Arrays_fill.2.1 10 = .ok (.aload_n 0, 1) := by decide +kernel
theorem d_Arrays_fill_11 : decode s_Arrays_fill.2.1 11 = .ok (.iload_n 2, 1) := by decide +kernel
theorem d_Arrays_fill_12 : decode s_Arrays_fill.2.1 12 = .ok (.iload_n 1, 1) := by decide +kernel
theorem d_Arrays_fill_13 : decode s_Arrays_fill.2.1 13 = .ok (.iastore, 1) := by decide +kernel
theorem d_Arrays_fill_14 : decode s_Arrays_fill.2.1 14 = .ok (.iinc 2 1, 3) := by decide +kernel
theorem d_Arrays_fill_17 : decode s_Arrays_fill.2.1 17 = .ok (.goto (-12), 3) := by decide +kernel
theorem d_Arrays_fill_20 : decode s_Arrays_fill.2.1 20 = .ok (.return_, 1) := by decide +kernel
theorem d_Table_clear_0 : decode s_Table_clear.2.1 0 = .ok (.aload_n 0, 1) := by decide +kernel
theorem d_Table_clear_1 : decode s_Table_clear.2.1 1 = .ok (.iconst 0, 1) := by decide +kernel
theorem d_Table_clear_2 : decode s_Table_clear.2.1 2 = .ok (.putfield 9, 3) := by decide +kernel
theorem d_Table_clear_5 : decode s_Table_clear.2.1 5 = .ok (.aload_n 0, 1) := by decide +kernel
theorem d_Table_clear_6 : decode s_Table_clear.2.1 6 = .ok (.getfield 15, 3) := by decide +kernel
theorem d_Table_clear_9 : decode s_Table_clear.2.1 9 = .ok (.iconst 0, 1) := by decide +kernel
theorem d_Table_clear_10 : decode s_Table_clear.2.1 10 = .ok (.invokestatic 54, 3) := by decide +kernel
theorem d_Table_clear_13 : decode s_Table_clear.2.1 13 = .ok (.aload_n 0, 1) := by decide +kernel
theorem d_Table_clear_14 : decode s_Table_clear.2.1 14 = .ok (.iconst 0, 1) := by decide +kernel
theorem d_Table_clear_15 : decode s_Table_clear.2.1 15 = .ok (.putfield 22, 3) := by decide +kernel
theorem d_Table_clear_18 : decode s_Table_clear.2.1 18 = .ok (.aload_n 0, 1) := by decide +kernel
theorem d_Table_clear_19 : decode s_Table_clear.2.1 19 = .ok (.iconst 0, 1) := by decide +kernel
theorem d_Table_clear_20 : decode s_Table_clear.2.1 20 = .ok (.putfield 26, 3) := by decide +kernel
theorem d_Table_clear_23 : decode s_Table_clear.2.1 23 = .ok (.aload_n 0, 1) := by decide +kernel
theorem d_Table_clear_24 : decode s_Table_clear.2.1 24 = .ok (.iconst 0, 1) := by decide +kernel
theorem d_Table_clear_25 : decode s_Table_clear.2.1 25 = .ok (.putfield 35, 3) := by decide +kernel
theorem d_Table_clear_28 : decode s_Table_clear.2.1 28 = .ok (.aload_n 0, 1) := by decide +kernel
theorem d_Table_clear_29 : decode s_Table_clear.2.1 29 = .ok (.iconst (-1), 1) := by decide +kernel
theorem d_Table_clear_30 : decode s_Table_clear.2.1 30 = .ok (.putfield 47, 3) := by decide +kernel
theorem d_Table_clear_33 : decode s_Table_clear.2.1 33 = .ok (.aload_n 0, 1) := by decide +kernel
theorem d_Table_clear_34 : decode s_Table_clear.2.1 34 = .ok (.iconst (-1), 1) := by decide +kernel
theorem d_Table_clear_35 : decode s_Table_clear.2.1 35 = .ok (.putfield 50, 3) := by decide +kernel
theorem d_Table_clear_38 : decode s_Table_clear.2.1 38 = .ok (.return_, 1) := by decide +kernel
theorem d_Bytes_get_0 : decode s_Bytes_get.2.1 0 = .ok (.iload_n 1, 1) := by decide +kernel
theorem d_Bytes_get_1 : decode s_Bytes_get.2.1 1 = .ok (.ifCond .lt 20, 3) := by decide +kernel
theorem d_Bytes_get_4 : decode s_Bytes_get.2.1 4 = .ok (.iload_n 1, 1) := by decide +kernel
theorem d_Bytes_get_5 : decode s_Bytes_get.2.1 5 = .ok (.aload_n 0, 1) := by decide +kernel
theorem d_Bytes_get_6 : decode s_Bytes_get.2.1 6 = .ok (.getfield 15, 3) := by decide +kernel
theorem d_Bytes_get_9 : decode s_Bytes_get.2.1 9 = .ok (.if_icmp .ge 12, 3) := by decide +kernel
theorem d_Bytes_get_12 : decode s_Bytes_get.2.1 12 = .ok (.aload_n 0, 1) := by decide +kernel
theorem d_Bytes_get_13 : decode s_Bytes_get.2.1 13 = .ok (.getfield 9, 3) := by decide +kernel
theorem d_Bytes_get_16 : decode s_Bytes_get.2.1 16 = .ok (.iload_n 1, 1) := by decide +kernel
theorem d_Bytes_get_17 : decode s_Bytes_get.2.1 17 = .ok (.iaload, 1) := by decide +kernel
theorem d_Bytes_get_18 : decode s_Bytes_get.2.1 18 = .ok (.goto 4, 3) := by decide +kernel
theorem d_Bytes_get_21 : decode s_Bytes_get.2.1 21 = .ok (.iconst (-1), 1) := by decide +kernel
theorem d_Bytes_get_22 : decode s_Bytes_get.2.1 22 = .ok (.ireturn, 1) := by decide +kernel
theorem d_PA_isBlank_0 : decode s_PA_isBlank.2.1 0 = .ok (.iload_n 0, 1) := by decide +kernel
theorem d_PA_isBlank_1 : decode s_PA_isBlank.2.1 1 = .ok (.bipush 32, 2) := by decide +kernel
theorem d_PA_isBlank_3 : decode s_PA_isBlank.2.1 3 = .ok (.if_icmp .eq 9, 3) := by decide +kernel
theorem d_PA_isBlank_6 : decode s_PA_isBlank.2.1 6 = .ok (.iload_n 0, 1) := by decide +kernel
theorem d_PA_isBlank_7 : decode s_PA_isBlank.2.1 7 = .ok (.bipush 10, 2) := by decide +kernel
theorem d_PA_isBlank_9 : decode s_PA_isBlank.2.1 9 = .ok (.if_icmp .ne 7, 3) := by decide +kernel
theorem d_PA_isBlank_12 : decode s_PA_isBlank.2.1 12 = .ok (.iconst 1, 1) := by decide +kernel
theorem d_PA_isBlank_13 : decode s_PA_isBlank.2.1 13 = .ok (.goto 4, 3) := by decide +kernel
theorem d_PA_isBlank_16 : decode s_PA_isBlank.2.1 16 = .ok (.iconst 0, 1) := by decide +kernel
theorem d_PA_isBlank_17 : decode s_PA_isBlank.2.1 17 = .ok (.ireturn, 1) := by decide +kernel
theorem d_PA_isLetter_0 : decode s_PA_isLetter.2.1 0 = .ok (.iload_n 0, 1) := by decide +kernel
theorem d_PA_isLetter_1 : decode s_PA_isLetter.2.1 1 = .ok (.bipush 97, 2) := by decide +kernel
theorem d_PA_isLetter_3 : decode s_PA_isLetter.2.1 3 = .ok (.if_icmp .lt 13, 3) := by decide +kernel
theorem d_PA_isLetter_6 : decode s_PA_isLetter.2.1 6 = .ok (.iload_n 0, 1) := by decide +kernel
theorem d_PA_isLetter_7 : decode s_PA_isLetter.2.1 7 = .ok (.bipush 122, 2) := by decide +kernel
theorem d_PA_isLetter_9 : decode s_PA_isLetter.2.1 9 = .ok (.if_icmp .gt 7, 3) := by decide +kernel
theorem d_PA_isLetter_12 : decode s_PA_isLetter.2.1 12 = .ok (.iconst 1, 1) := by decide +kernel
theorem d_PA_isLetter_13 : decode s_PA_isLetter.2.1 13 = .ok (.goto 4, 3) := by decide +kernel
theorem d_PA_isLetter_16 : decode s_PA_isLetter.2.1 16 = .ok (.iconst 0, 1) := by decide +kernel
theorem d_PA_isLetter_17 : decode s_PA_isLetter.2.1 17 = .ok (.ireturn, 1) := by decide +kernel
theorem d_Reader_isOwnWord_0 : decode s_Reader_isOwnWord.2.1 0 = .ok (.lconst 0, 1) := by decide +kernel
theorem d_Reader_isOwnWord_1 : decode s_Reader_isOwnWord.2.1 1 = .ok (.lstore_n 2, 1) := by decide +kernel
theorem d_Reader_isOwnWord_2 : decode s_Reader_isOwnWord.2.1 2 = .ok (.iconst 0, 1) := by decide +kernel
theorem d_Reader_isOwnWord_3 : decode s_Reader_isOwnWord.2.1 3 = .ok (.istore 4, 2) := by decide +kernel
theorem d_Reader_isOwnWord_5 : decode s_Reader_isOwnWord.2.1 5 = .ok (.iload 4, 2) := by decide +kernel
theorem d_Reader_isOwnWord_7 : decode s_Reader_isOwnWord.2.1 7 = .ok (.ldc 104, 2) := by decide +kernel
theorem d_Reader_isOwnWord_9 : decode s_Reader_isOwnWord.2.1 9 = .ok (.invokevirtual 106, 3) := by decide +kernel
theorem d_Reader_isOwnWord_12 : decode s_Reader_isOwnWord.2.1 12 = .ok (.if_icmp .ge 51, 3) := by decide +kernel
theorem d_Reader_isOwnWord_15 : decode s_Reader_isOwnWord.2.1 15 = .ok (.ldc 104, 2) := by decide +kernel
theorem d_Reader_isOwnWord_17 : decode s_Reader_isOwnWord.2.1 17 = .ok (.iload 4, 2) := by decide +kernel
theorem d_Reader_isOwnWord_19 : decode s_Reader_isOwnWord.2.1 19 = .ok (.invokevirtual 111, 3) := by decide +kernel
theorem d_Reader_isOwnWord_22 : decode s_Reader_isOwnWord.2.1 22 = .ok (.istore 5, 2) := by decide +kernel
theorem d_Reader_isOwnWord_24 : decode s_Reader_isOwnWord.2.1 24 = .ok (.iload 5, 2) := by decide +kernel
theorem d_Reader_isOwnWord_26 : decode s_Reader_isOwnWord.2.1 26 = .ok (.bipush 32, 2) := by decide +kernel
theorem d_Reader_isOwnWord_28 : decode s_Reader_isOwnWord.2.1 28 = .ok (.if_icmp .eq 19, 3) := by decide +kernel
theorem d_Reader_isOwnWord_31 : decode s_Reader_isOwnWord.2.1 31 = .ok (.lload_n 2, 1) := by decide +kernel
theorem d_Reader_isOwnWord_32 : decode s_Reader_isOwnWord.2.1 32 = .ok (.iconst 5, 1) := by decide +kernel
theorem d_Reader_isOwnWord_33 : decode s_Reader_isOwnWord.2.1 33 = .ok (.lshl, 1) := by decide +kernel
theorem d_Reader_isOwnWord_34 : decode s_Reader_isOwnWord.2.1 34 = .ok (.iload 5, 2) := by decide +kernel
theorem d_Reader_isOwnWord_36 : decode s_Reader_isOwnWord.2.1 36 = .ok (.bipush 97, 2) := by decide +kernel
theorem d_Reader_isOwnWord_38 : decode s_Reader_isOwnWord.2.1 38 = .ok (.isub, 1) := by decide +kernel
theorem d_Reader_isOwnWord_39 : decode s_Reader_isOwnWord.2.1 39 = .ok (.iconst 1, 1) := by decide +kernel
theorem d_Reader_isOwnWord_40 : decode s_Reader_isOwnWord.2.1 40 = .ok (.iadd, 1) := by decide +kernel
theorem d_Reader_isOwnWord_41 : decode s_Reader_isOwnWord.2.1 41 = .ok (.i2l, 1) := by decide +kernel
theorem d_Reader_isOwnWord_42 : decode s_Reader_isOwnWord.2.1 42 = .ok (.lor, 1) := by decide +kernel
theorem d_Reader_isOwnWord_43 : decode s_Reader_isOwnWord.2.1 43 = .ok (.lstore_n 2, 1) := by decide +kernel
theorem d_Reader_isOwnWord_44 : decode s_Reader_isOwnWord.2.1 44 = .ok (.goto 13, 3) := by decide +kernel
theorem d_Reader_isOwnWord_47 : decode s_Reader_isOwnWord.2.1 47 = .ok (.lload_n 2, 1) := by decide +kernel
theorem d_Reader_isOwnWord_48 : decode s_Reader_isOwnWord.2.1 48 = .ok (.lload_n 0, 1) := by decide +kernel
theorem d_Reader_isOwnWord_49 : decode s_Reader_isOwnWord.2.1 49 = .ok (.lcmp, 1) := by decide +kernel
theorem d_Reader_isOwnWord_50 : decode s_Reader_isOwnWord.2.1 50 = .ok (.ifCond .ne 5, 3) := by decide +kernel
theorem d_Reader_isOwnWord_53 : decode s_Reader_isOwnWord.2.1 53 = .ok (.iconst 1, 1) := by decide +kernel
theorem d_Reader_isOwnWord_54 : decode s_Reader_isOwnWord.2.1 54 = .ok (.ireturn, 1) := by decide +kernel
theorem d_Reader_isOwnWord_55 : decode s_Reader_isOwnWord.2.1 55 = .ok (.lconst 0, 1) := by decide +kernel
theorem d_Reader_isOwnWord_56 : decode s_Reader_isOwnWord.2.1 56 = .ok (.lstore_n 2, 1) := by decide +kernel
theorem d_Reader_isOwnWord_57 : decode s_Reader_isOwnWord.2.1 57 = .ok (.iinc 4 1, 3) := by decide +kernel
theorem d_Reader_isOwnWord_60 : decode s_Reader_isOwnWord.2.1 60 = .ok (.goto (-55), 3) := by decide +kernel
theorem d_Reader_isOwnWord_63 : decode s_Reader_isOwnWord.2.1 63 = .ok (.iconst 0, 1) := by decide +kernel
theorem d_Reader_isOwnWord_64 : decode s_Reader_isOwnWord.2.1 64 = .ok (.ireturn, 1) := by decide +kernel
theorem d_Reader_takeWord_0 : decode s_Reader_takeWord.2.1 0 = .ok (.lconst 0, 1) := by decide +kernel
theorem d_Reader_takeWord_1 : decode s_Reader_takeWord.2.1 1 = .ok (.lstore 4, 2) := by decide +kernel
theorem d_Reader_takeWord_3 : decode s_Reader_takeWord.2.1 3 = .ok (.iconst 0, 1) := by decide +kernel
theorem d_Reader_takeWord_4 : decode s_Reader_takeWord.2.1 4 = .ok (.istore 6, 2) := by decide +kernel
theorem d_Reader_takeWord_6 : decode s_Reader_takeWord.2.1 6 = .ok (.iload 6, 2) := by decide +kernel
theorem d_Reader_takeWord_8 : decode s_Reader_takeWord.2.1 8 = .ok (.sipush 1600, 3) := by decide +kernel
theorem d_Reader_takeWord_11 : decode s_Reader_takeWord.2.1 11 = .ok (.if_icmp .ge 56, 3) := by decide +kernel
theorem d_Reader_takeWord_14 : decode s_Reader_takeWord.2.1 14 = .ok (.aload_n 1, 1) := by decide +kernel
theorem d_Reader_takeWord_15 : decode s_Reader_takeWord.2.1 15 = .ok (.iload_n 2, 1) := by decide +kernel
theorem d_Reader_takeWord_16 : decode s_Reader_takeWord.2.1 16 = .ok (.iload 6, 2) := by decide +kernel
theorem d_Reader_takeWord_18 : decode s_Reader_takeWord.2.1 18 = .ok (.iadd, 1) := by decide +kernel
theorem d_Reader_takeWord_19 : decode s_Reader_takeWord.2.1 19 = .ok (.invokevirtual 75, 3) := by decide +kernel
theorem d_Reader_takeWord_22 : decode s_Reader_takeWord.2.1 22 = .ok (.invokestatic 87, 3) := by decide +kernel
theorem d_Reader_takeWord_25 : decode s_Reader_takeWord.2.1 25 = .ok (.ifCond .eq 42, 3) := by decide +kernel
theorem d_Reader_takeWord_28 : decode s_Reader_takeWord.2.1 28 = .ok (.iload 6, 2) := by decide +kernel
theorem d_Reader_takeWord_30 : decode s_Reader_takeWord.2.1 30 = .ok (.bipush 12, 2) := by decide +kernel
theorem d_Reader_takeWord_32 : decode s_Reader_takeWord.2.1 32 = .ok (.if_icmp .ge 25, 3) := by decide +kernel
theorem d_Reader_takeWord_35 : decode s_Reader_takeWord.2.1 35 = .ok (.lload 4, 2) := by decide +kernel
theorem d_Reader_takeWord_37 : decode s_Reader_takeWord.2.1 37 = .ok (.iconst 5, 1) := by decide +kernel
theorem d_Reader_takeWord_38 : decode s_Reader_takeWord.2.1 38 = .ok (.lshl, 1) := by decide +kernel
theorem d_Reader_takeWord_39 : decode s_Reader_takeWord.2.1 39 = .ok (.aload_n 1, 1) := by decide +kernel
theorem d_Reader_takeWord_40 : decode s_Reader_takeWord.2.1 40 = .ok (.iload_n 2, 1) := by decide +kernel
theorem d_Reader_takeWord_41 : decode s_Reader_takeWord.2.1 41 = .ok (.iload 6, 2) := by decide +kernel
theorem d_Reader_takeWord_43 : decode s_Reader_takeWord.2.1 43 = .ok (.iadd, 1) := by decide +kernel
theorem d_Reader_takeWord_44 : decode s_Reader_takeWord.2.1 44 = .ok (.invokevirtual 75, 3) := by decide +kernel
theorem d_Reader_takeWord_47 : decode s_Reader_takeWord.2.1 47 = .ok (.bipush 97, 2) := by decide +kernel
theorem d_Reader_takeWord_49 : decode s_Reader_takeWord.2.1 49 = .ok (.isub, 1) := by decide +kernel
theorem d_Reader_takeWord_50 : decode s_Reader_takeWord.2.1 50 = .ok (.iconst 1, 1) := by decide +kernel
theorem d_Reader_takeWord_51 : decode s_Reader_takeWord.2.1 51 = .ok (.iadd, 1) := by decide +kernel
theorem d_Reader_takeWord_52 : decode s_Reader_takeWord.2.1 52 = .ok (.i2l, 1) := by decide +kernel
theorem d_Reader_takeWord_53 : decode s_Reader_takeWord.2.1 53 = .ok (.lor, 1) := by decide +kernel
theorem d_Reader_takeWord_54 : decode s_Reader_takeWord.2.1 54 = .ok (.goto 5, 3) := by decide +kernel
theorem d_Reader_takeWord_57 : decode s_Reader_takeWord.2.1 57 = .ok (.lload 4, 2) := by decide +kernel
theorem d_Reader_takeWord_59 : decode s_Reader_takeWord.2.1 59 = .ok (.lstore 4, 2) := by decide +kernel
theorem d_Reader_takeWord_61 : decode s_Reader_takeWord.2.1 61 = .ok (.iinc 6 1, 3) := by decide +kernel
theorem d_Reader_takeWord_64 : decode s_Reader_takeWord.2.1 64 = .ok (.goto (-58), 3) := by decide +kernel
theorem d_Reader_takeWord_67 : decode s_Reader_takeWord.2.1 67 = .ok (.aload_n 0, 1) := by decide +kernel
theorem d_Reader_takeWord_68 : decode s_Reader_takeWord.2.1 68 = .ok (.getfield 25, 3) := by decide +kernel
theorem d_Reader_takeWord_71 : decode s_Reader_takeWord.2.1 71 = .ok (.iload_n 3, 1) := by decide +kernel
theorem d_Reader_takeWord_72 : decode s_Reader_takeWord.2.1 72 = .ok (.iload 6, 2) := by decide +kernel
theorem d_Reader_takeWord_74 : decode s_Reader_takeWord.2.1 74 = .ok (.iastore, 1) := by decide +kernel
theorem d_Reader_takeWord_75 : decode s_Reader_takeWord.2.1 75 = .ok (.aload_n 0, 1) := by decide +kernel
theorem d_Reader_takeWord_76 : decode s_Reader_takeWord.2.1 76 = .ok (.getfield 28, 3) := by decide +kernel
theorem d_Reader_takeWord_79 : decode s_Reader_takeWord.2.1 79 = .ok (.iload_n 3, 1) := by decide +kernel
theorem d_Reader_takeWord_80 : decode s_Reader_takeWord.2.1 80 = .ok (.lload 4, 2) := by decide +kernel
theorem d_Reader_takeWord_82 : decode s_Reader_takeWord.2.1 82 = .ok (.lastore, 1) := by decide +kernel
theorem d_Reader_takeWord_83 : decode s_Reader_takeWord.2.1 83 = .ok (.aload_n 0, 1) := by decide +kernel
theorem d_Reader_takeWord_84 : decode s_Reader_takeWord.2.1 84 = .ok (.getfield 18, 3) := by decide +kernel
theorem d_Reader_takeWord_87 : decode s_Reader_takeWord.2.1 87 = .ok (.iload_n 3, 1) := by decide +kernel
theorem d_Reader_takeWord_88 : decode s_Reader_takeWord.2.1 88 = .ok (.lload 4, 2) := by decide +kernel
theorem d_Reader_takeWord_90 : decode s_Reader_takeWord.2.1 90 = .ok (.invokestatic 100, 3) := by decide +kernel
theorem d_Reader_takeWord_93 : decode s_Reader_takeWord.2.1 93 = .ok (.ifCond .eq 7, 3) := by decide +kernel
theorem d_Reader_takeWord_96 : decode s_Reader_takeWord.2.1 96 = .ok (.iconst 2, 1) := by decide +kernel
theorem d_Reader_takeWord_97 : decode s_Reader_takeWord.2.1 97 = .ok (.goto 4, 3) := by decide +kernel
theorem d_Reader_takeWord_100 : decode s_Reader_takeWord.2.1 100 = .ok (.iconst 1, 1) := by decide +kernel
theorem d_Reader_takeWord_101 : decode s_Reader_takeWord.2.1 101 = .ok (.iastore, 1) := by decide +kernel
theorem d_Reader_takeWord_102 : decode s_Reader_takeWord.2.1 102 = .ok (.return_, 1) := by decide +kernel
theorem d_PA_isDigit_0 : decode s_PA_isDigit.2.1 0 = .ok (.iload_n 0, 1) := by decide +kernel
theorem d_PA_isDigit_1 : decode s_PA_isDigit.2.1 1 = .ok (.bipush 48, 2) := by decide +kernel
theorem d_PA_isDigit_3 : decode s_PA_isDigit.2.1 3 = .ok (.if_icmp .lt 13, 3) := by decide +kernel
theorem d_PA_isDigit_6 : decode s_PA_isDigit.2.1 6 = .ok (.iload_n 0, 1) := by decide +kernel
theorem d_PA_isDigit_7 : decode s_PA_isDigit.2.1 7 = .ok (.bipush 57, 2) := by decide +kernel
theorem d_PA_isDigit_9 : decode s_PA_isDigit.2.1 9 = .ok (.if_icmp .gt 7, 3) := by decide +kernel
theorem d_PA_isDigit_12 : decode s_PA_isDigit.2.1 12 = .ok (.iconst 1, 1) := by decide +kernel
theorem d_PA_isDigit_13 : decode s_PA_isDigit.2.1 13 = .ok (.goto 4, 3) := by decide +kernel
theorem d_PA_isDigit_16 : decode s_PA_isDigit.2.1 16 = .ok (.iconst 0, 1) := by decide +kernel
theorem d_PA_isDigit_17 : decode s_PA_isDigit.2.1 17 = .ok (.ireturn, 1) := by decide +kernel
theorem d_Reader_takeNumber_0 : decode s_Reader_takeNumber.2.1 0 = .ok (.iconst 0, 1) := by decide +kernel
theorem d_Reader_takeNumber_1 : decode s_Reader_takeNumber.2.1 1 = .ok (.istore 4, 2) := by decide +kernel
theorem d_Reader_takeNumber_3 : decode s_Reader_takeNumber.2.1 3 = .ok (.iload 4, 2) := by decide +kernel
theorem d_Reader_takeNumber_5 : decode s_Reader_takeNumber.2.1 5 = .ok (.sipush 1600, 3) := by decide +kernel
theorem d_Reader_takeNumber_8 : decode s_Reader_takeNumber.2.1 8 = .ok (.if_icmp .ge 23, 3) := by decide +kernel
theorem d_Reader_takeNumber_11 : decode s_Reader_takeNumber.2.1 11 = .ok (.aload_n 1, 1) := by decide +kernel
theorem d_Reader_takeNumber_12 : decode s_Reader_takeNumber.2.1 12 = .ok (.iload_n 2, 1) := by decide +kernel
theorem d_Reader_takeNumber_13 : decode s_Reader_takeNumber.2.1 13 = .ok (.iload 4, 2) := by decide +kernel
theorem d_Reader_takeNumber_15 : decode s_Reader_takeNumber.2.1 15 = .ok (.iadd, 1) := by decide +kernel
theorem d_Reader_takeNumber_16 : decode s_Reader_takeNumber.2.1 16 = .ok (.invokevirtual 75, 3) := by decide +kernel
theorem d_Reader_takeNumber_19 : decode s_Reader_takeNumber.2.1 19 = .ok (.invokestatic 94, 3) := by decide +kernel
theorem d_Reader_takeNumber_22 : decode s_Reader_takeNumber.2.1 22 = .ok (.ifCond .eq 9, 3) := by decide +kernel
theorem d_Reader_takeNumber_25 : decode s_Reader_takeNumber.2.1 25 = .ok (.iinc 4 1, 3) := by decide +kernel
theorem d_Reader_takeNumber_28 : decode s_Reader_takeNumber.2.1 28 = .ok (.goto (-25), 3) := by decide +kernel
theorem d_Reader_takeNumber_31 : decode s_Reader_takeNumber.2.1 31 = .ok (.aload_n 0, 1) := by decide +kernel
theorem d_Reader_takeNumber_32 : decode s_Reader_takeNumber.2.1 32 = .ok (.getfield 25, 3) := by decide +kernel
theorem d_Reader_takeNumber_35 : decode s_Reader_takeNumber.2.1 35 = .ok (.iload_n 3, 1) := by decide +kernel
theorem d_Reader_takeNumber_36 : decode s_Reader_takeNumber.2.1 36 = .ok (.iload 4, 2) := by decide +kernel
theorem d_Reader_takeNumber_38 : decode s_Reader_takeNumber.2.1 38 = .ok (.iastore, 1) := by decide +kernel
theorem d_Reader_takeNumber_39 : decode s_Reader_takeNumber.2.1 39 = .ok (.aload_n 0, 1) := by decide +kernel
theorem d_Reader_takeNumber_40 : decode s_Reader_takeNumber.2.1 40 = .ok (.getfield 28, 3) := by decide +kernel
theorem d_Reader_takeNumber_43 : decode s_Reader_takeNumber.2.1 43 = .ok (.iload_n 3, 1) := by decide +kernel
theorem d_Reader_takeNumber_44 : decode s_Reader_takeNumber.2.1 44 = .ok (.aload_n 1, 1) := by decide +kernel
theorem d_Reader_takeNumber_45 : decode s_Reader_takeNumber.2.1 45 = .ok (.iload_n 2, 1) := by decide +kernel
theorem d_Reader_takeNumber_46 : decode s_Reader_takeNumber.2.1 46 = .ok (.invokevirtual 75, 3) := by decide +kernel
theorem d_Reader_takeNumber_49 : decode s_Reader_takeNumber.2.1 49 = .ok (.bipush 48, 2) := by decide +kernel
theorem d_Reader_takeNumber_51 : decode s_Reader_takeNumber.2.1 51 = .ok (.isub, 1) := by decide +kernel
theorem d_Reader_takeNumber_52 : decode s_Reader_takeNumber.2.1 52 = .ok (.i2l, 1) := by decide +kernel
theorem d_Reader_takeNumber_53 : decode s_Reader_takeNumber.2.1 53 = .ok (.lastore, 1) := by decide +kernel
theorem d_Reader_takeNumber_54 : decode s_Reader_takeNumber.2.1 54 = .ok (.aload_n 0, 1) := by decide +kernel
theorem d_Reader_takeNumber_55 : decode s_Reader_takeNumber.2.1 55 = .ok (.getfield 18, 3) := by decide +kernel
theorem d_Reader_takeNumber_58 : decode s_Reader_takeNumber.2.1 58 = .ok (.iload_n 3, 1) := by decide +kernel
theorem d_Reader_takeNumber_59 : decode s_Reader_takeNumber.2.1 59 = .ok (.iconst 3, 1) := by decide +kernel
theorem d_Reader_takeNumber_60 : decode s_Reader_takeNumber.2.1 60 = .ok (.iastore, 1) := by decide +kernel
theorem d_Reader_takeNumber_61 : decode s_Reader_takeNumber.2.1 61 = .ok (.return_, 1) := by decide +kernel
theorem d_Reader_take_0 : decode s_Reader_take.2.1 0 = .ok (.aload_n 1, 1) := by decide +kernel
theorem d_Reader_take_1 : decode s_Reader_take.2.1 1 = .ok (.iload_n 2, 1) := by decide +kernel
theorem d_Reader_take_2 : decode s_Reader_take.2.1 2 = .ok (.invokevirtual 75, 3) := by decide +kernel
theorem d_Reader_take_5 : decode s_Reader_take.2.1 5 = .ok (.istore 4, 2) := by decide +kernel
theorem d_Reader_take_7 : decode s_Reader_take.2.1 7 = .ok (.aload_n 0, 1) := by decide +kernel
theorem d_Reader_take_8 : decode s_Reader_take.2.1 8 = .ok (.getfield 22, 3) := by decide +kernel
theorem d_Reader_take_11 : decode s_Reader_take.2.1 11 = .ok (.iload_n 3, 1) := by decide +kernel
theorem d_Reader_take_12 : decode s_Reader_take.2.1 12 = .ok (.iload_n 2, 1) := by decide +kernel
theorem d_Reader_take_13 : decode s_Reader_take.2.1 13 = .ok (.iastore, 1) := by decide +kernel
theorem d_Reader_take_14 : decode s_Reader_take.2.1 14 = .ok (.aload_n 0, 1) := by decide +kernel
theorem d_Reader_take_15 : decode s_Reader_take.2.1 15 = .ok (.getfield 25, 3) := by decide +kernel
theorem d_Reader_take_18 : decode s_Reader_take.2.1 18 = .ok (.iload_n 3, 1) := by decide +kernel
theorem d_Reader_take_19 : decode s_Reader_take.2.1 19 = .ok (.iconst 1, 1) := by decide +kernel
theorem d_Reader_take_20 : decode s_Reader_take.2.1 20 = .ok (.iastore, 1) := by decide +kernel
theorem d_Reader_take_21 : decode s_Reader_take.2.1 21 = .ok (.aload_n 0, 1) := by decide +kernel
theorem d_Reader_take_22 : decode s_Reader_take.2.1 22 = .ok (.getfield 28, 3) := by decide +kernel
theorem d_Reader_take_25 : decode s_Reader_take.2.1 25 = .ok (.iload_n 3, 1) := by decide +kernel
theorem d_Reader_take_26 : decode s_Reader_take.2.1 26 = .ok (.iload 4, 2) := by decide +kernel
theorem d_Reader_take_28 : decode s_Reader_take.2.1 28 = .ok (.i2l, 1) := by decide +kernel
theorem d_Reader_take_29 : decode s_Reader_take.2.1 29 = .ok (.lastore, 1) := by decide +kernel
theorem d_Reader_take_30 : decode s_Reader_take.2.1 30 = .ok (.aload_n 0, 1) := by decide +kernel
theorem d_Reader_take_31 : decode s_Reader_take.2.1 31 = .ok (.getfield 18, 3) := by decide +kernel
theorem d_Reader_take_34 : decode s_Reader_take.2.1 34 = .ok (.iload_n 3, 1) := by decide +kernel
theorem d_Reader_take_35 : decode s_Reader_take.2.1 35 = .ok (.iconst 4, 1) := by decide +kernel
theorem d_Reader_take_36 : decode s_Reader_take.2.1 36 = .ok (.iastore, 1) := by decide +kernel
theorem d_Reader_take_37 : decode s_Reader_take.2.1 37 = .ok (.iload 4, 2) := by decide +kernel
theorem d_Reader_take_39 : decode s_Reader_take.2.1 39 = .ok (.invokestatic 87, 3) := by decide +kernel
theorem d_Reader_take_42 : decode s_Reader_take.2.1 42 = .ok (.ifCond .eq 13, 3) := by decide +kernel
theorem d_Reader_take_45 : decode s_Reader_take.2.1 45 = .ok (.aload_n 0, 1) := by decide +kernel
theorem d_Reader_take_46 : decode s_Reader_take.2.1 46 = .ok (.aload_n 1, 1) := by decide +kernel
theorem d_Reader_take_47 : decode s_Reader_take.2.1 47 = .ok (.iload_n 2, 1) := by decide +kernel
theorem d_Reader_take_48 : decode s_Reader_take.2.1 48 = .ok (.iload_n 3, 1) := by decide +kernel
theorem d_Reader_take_49 : decode s_Reader_take.2.1 49 = .ok (.invokevirtual 90, 3) := by decide +kernel
theorem d_Reader_take_52 : decode s_Reader_take.2.1 52 = .ok (.goto 18, 3) := by decide +kernel
theorem d_Reader_take_55 : decode s_Reader_take.2.1 55 = .ok (.iload 4, 2) := by decide +kernel
theorem d_Reader_take_57 : decode s_Reader_take.2.1 57 = .ok (.invokestatic 94, 3) := by decide +kernel
theorem d_Reader_take_60 : decode s_Reader_take.2.1 60 = .ok (.ifCond .eq 10, 3) := by decide +kernel
theorem d_Reader_take_63 : decode s_Reader_take.2.1 63 = .ok (.aload_n 0, 1) := by decide +kernel
theorem d_Reader_take_64 : decode s_Reader_take.2.1 64 = .ok (.aload_n 1, 1) := by decide +kernel
theorem d_Reader_take_65 : decode s_Reader_take.2.1 65 = .ok (.iload_n 2, 1) := by decide +kernel
theorem d_Reader_take_66 : decode s_Reader_take.2.1 66 = .ok (.iload_n 3, 1) := by decide +kernel
theorem d_Reader_take_67 : decode s_Reader_take.2.1 67 = .ok (.invokevirtual 97, 3) := by decide +kernel
theorem d_Reader_take_70 : decode s_Reader_take.2.1 70 = .ok (.aload_n 0, 1) := by decide +kernel
theorem d_Reader_take_71 : decode s_Reader_take.2.1 71 = .ok (.getfield 18, 3) := by decide +kernel
theorem d_Reader_take_74 : decode s_Reader_take.2.1 74 = .ok (.iload_n 3, 1) := by decide +kernel
theorem d_Reader_take_75 : decode s_Reader_take.2.1 75 = .ok (.iaload, 1) := by decide +kernel
theorem d_Reader_take_76 : decode s_Reader_take.2.1 76 = .ok (.iconst 4, 1) := by decide +kernel
theorem d_Reader_take_77 : decode s_Reader_take.2.1 77 = .ok (.if_icmp .ne 7, 3) := by decide +kernel
theorem d_Reader_take_80 : decode s_Reader_take.2.1 80 = .ok (.iconst 1, 1) := by decide +kernel
theorem d_Reader_take_81 : decode s_Reader_take.2.1 81 = .ok (.goto 4, 3) := by decide +kernel
theorem d_Reader_take_84 : decode s_Reader_take.2.1 84 = .ok (.iconst 0, 1) := by decide +kernel
theorem d_Reader_take_85 : decode s_Reader_take.2.1 85 = .ok (.ireturn, 1) := by decide +kernel
theorem d_Reader_scan_0 : decode s_Reader_scan.2.1 0 = .ok (.iconst 0, 1) := by decide +kernel
theorem d_Reader_scan_1 : decode s_Reader_scan.2.1 1 = .ok (.istore_n 2, 1) := by decide +kernel
theorem d_Reader_scan_2 : decode s_Reader_scan.2.1 2 = .ok (.iconst (-1), 1) := by decide +kernel
theorem d_Reader_scan_3 : decode s_Reader_scan.2.1 3 = .ok (.istore_n 3, 1) := by decide +kernel
theorem d_Reader_scan_4 : decode s_Reader_scan.2.1 4 = .ok (.iconst 0, 1) := by decide +kernel
theorem d_Reader_scan_5 : decode s_Reader_scan.2.1 5 = .ok (.istore 4, 2) := by decide +kernel
theorem d_Reader_scan_7 : decode s_Reader_scan.2.1 7 = .ok (.iconst 0, 1) := by decide +kernel
theorem d_Reader_scan_8 : decode s_Reader_scan.2.1 8 = .ok (.istore 5, 2) := by decide +kernel
theorem d_Reader_scan_10 : decode s_Reader_scan.2.1 10 = .ok (.iload 5, 2) := by decide +kernel
theorem d_Reader_scan_12 : decode s_Reader_scan.2.1 12 = .ok (.sipush 1600, 3) := by decide +kernel
theorem d_Reader_scan_15 : decode s_Reader_scan.2.1 15 = .ok (.if_icmp .ge 94, 3) := by decide +kernel
theorem d_Reader_scan_18 : decode s_Reader_scan.2.1 18 = .ok (.iload 4, 2) := by decide +kernel
theorem d_Reader_scan_20 : decode s_Reader_scan.2.1 20 = .ok (.aload_n 1, 1) := by decide +kernel
theorem d_Reader_scan_21 : decode s_Reader_scan.2.1 21 = .ok (.invokevirtual 70, 3) := by decide +kernel
theorem d_Reader_scan_24 : decode s_Reader_scan.2.1 24 = .ok (.if_icmp .ge 85, 3) := by decide +kernel
theorem d_Reader_scan_27 : decode s_Reader_scan.2.1 27 = .ok (.iconst 1, 1) := by decide +kernel
theorem d_Reader_scan_28 : decode s_Reader_scan.2.1 28 = .ok (.istore 6, 2) := by decide +kernel
theorem d_Reader_scan_30 : decode s_Reader_scan.2.1 30 = .ok (.aload_n 1, 1) := by decide +kernel
theorem d_Reader_scan_31 : decode s_Reader_scan.2.1 31 = .ok (.iload 4, 2) := by decide +kernel
theorem d_Reader_scan_33 : decode s_Reader_scan.2.1 33 = .ok (.invokevirtual 75, 3) := by decide +kernel
theorem d_Reader_scan_36 : decode s_Reader_scan.2.1 36 = .ok (.invokestatic 79, 3) := by decide +kernel
theorem d_Reader_scan_39 : decode s_Reader_scan.2.1 39 = .ok (.ifCond .ne 57, 3) := by decide +kernel
theorem d_Reader_scan_42 : decode s_Reader_scan.2.1 42 = .ok (.aload_n 0, 1) := by decide +kernel
theorem d_Reader_scan_43 : decode s_Reader_scan.2.1 43 = .ok (.aload_n 1, 1) := by decide +kernel
theorem d_Reader_scan_44 : decode s_Reader_scan.2.1 44 = .ok (.iload 4, 2) := by decide +kernel
theorem d_Reader_scan_46 : decode s_Reader_scan.2.1 46 = .ok (.iload_n 2, 1) := by decide +kernel
theorem d_Reader_scan_47 : decode s_Reader_scan.2.1 47 = .ok (.invokevirtual 83, 3) := by decide +kernel
theorem d_Reader_scan_50 : decode s_Reader_scan.2.1 50 = .ok (.istore 7, 2) := by decide +kernel
theorem d_Reader_scan_52 : decode s_Reader_scan.2.1 52 = .ok (.aload_n 0, 1) := by decide +kernel
theorem d_Reader_scan_53 : decode s_Reader_scan.2.1 53 = .ok (.getfield 25, 3) := by decide +kernel
theorem d_Reader_scan_56 : decode s_Reader_scan.2.1 56 = .ok (.iload_n 2, 1) := by decide +kernel
theorem d_Reader_scan_57 : decode s_Reader_scan.2.1 57 = .ok (.iaload, 1) := by decide +kernel
theorem d_Reader_scan_58 : decode s_Reader_scan.2.1 58 = .ok (.istore 6, 2) := by decide +kernel
theorem d_Reader_scan_60 : decode s_Reader_scan.2.1 60 = .ok (.iload 7, 2) := by decide +kernel
theorem d_Reader_scan_62 : decode s_Reader_scan.2.1 62 = .ok (.ifCond .ne 31, 3) := by decide +kernel
theorem d_Reader_scan_65 : decode s_Reader_scan.2.1 65 = .ok (.aload_n 0, 1) := by decide +kernel
theorem d_Reader_scan_66 : decode s_Reader_scan.2.1 66 = .ok (.getfield 18, 3) := by decide +kernel
theorem d_Reader_scan_69 : decode s_Reader_scan.2.1 69 = .ok (.iload_n 2, 1) := by decide +kernel
theorem d_Reader_scan_70 : decode s_Reader_scan.2.1 70 = .ok (.iload_n 3, 1) := by decide +kernel
theorem d_Reader_scan_71 : decode s_Reader_scan.2.1 71 = .ok (.iload 4, 2) := by decide +kernel
theorem d_Reader_scan_73 : decode s_Reader_scan.2.1 73 = .ok (.if_icmp .ne 7, 3) := by decide +kernel
theorem d_Reader_scan_76 : decode s_Reader_scan.2.1 76 = .ok (.iconst 5, 1) := by decide +kernel
theorem d_Reader_scan_77 : decode s_Reader_scan.2.1 77 = .ok (.goto 9, 3) := by decide +kernel
theorem d_Reader_scan_80 : decode s_Reader_scan.2.1 80 = .ok (.aload_n 0, 1) := by decide +kernel
theorem d_Reader_scan_81 : decode s_Reader_scan.2.1 81 = .ok (.getfield 18, 3) := by decide +kernel
theorem d_Reader_scan_84 : decode s_Reader_scan.2.1 84 = .ok (.iload_n 2, 1) := by decide +kernel
theorem d_Reader_scan_85 : decode s_Reader_scan.2.1 85 = .ok (.iaload, 1) := by decide +kernel
theorem d_Reader_scan_86 : decode s_Reader_scan.2.1 86 = .ok (.iastore, 1) := by decide +kernel
theorem d_Reader_scan_87 : decode s_Reader_scan.2.1 87 = .ok (.iload 4, 2) := by decide +kernel
theorem d_Reader_scan_89 : decode s_Reader_scan.2.1 89 = .ok (.iload 6, 2) := by decide +kernel
theorem d_Reader_scan_91 : decode s_Reader_scan.2.1 91 = .ok (.iadd, 1) := by decide +kernel
theorem d_Reader_scan_92 : decode s_Reader_scan.2.1 92 = .ok (.istore_n 3, 1) := by decide +kernel
theorem d_Reader_scan_93 : decode s_Reader_scan.2.1 93 = .ok (.iinc 2 1, 3) := by decide +kernel
theorem d_Reader_scan_96 : decode s_Reader_scan.2.1 96 = .ok (.iload 4, 2) := by decide +kernel
theorem d_Reader_scan_98 : decode s_Reader_scan.2.1 98 = .ok (.iload 6, 2) := by decide +kernel
theorem d_Reader_scan_100 : decode s_Reader_scan.2.1 100 = .ok (.iadd, 1) := by decide +kernel
theorem d_Reader_scan_101 : decode s_Reader_scan.2.1 101 = .ok (.istore 4, 2) := by decide +kernel
theorem d_Reader_scan_103 : decode s_Reader_scan.2.1 103 = .ok (.iinc 5 1, 3) := by decide +kernel
theorem d_Reader_scan_106 : decode s_Reader_scan.2.1 106 = .ok (.goto (-96), 3) := by decide +kernel
theorem d_Reader_scan_109 : decode s_Reader_scan.2.1 109 = .ok (.aload_n 0, 1) := by decide +kernel
theorem d_Reader_scan_110 : decode s_Reader_scan.2.1 110 = .ok (.getfield 18, 3) := by decide +kernel
theorem d_Reader_scan_113 : decode s_Reader_scan.2.1 113 = .ok (.iload_n 2, 1) := by decide +kernel
theorem d_Reader_scan_114 : decode s_Reader_scan.2.1 114 = .ok (.iconst 0, 1) := by decide +kernel
theorem d_Reader_scan_115 : decode s_Reader_scan.2.1 115 = .ok (.iastore, 1) := by decide +kernel
theorem d_Reader_scan_116 : decode s_Reader_scan.2.1 116 = .ok (.aload_n 0, 1) := by decide +kernel
theorem d_Reader_scan_117 : decode s_Reader_scan.2.1 117 = .ok (.getfield 22, 3) := by decide +kernel
theorem d_Reader_scan_120 : decode s_Reader_scan.2.1 120 = .ok (.iload_n 2, 1) := by decide +kernel
theorem d_Reader_scan_121 : decode s_Reader_scan.2.1 121 = .ok (.aload_n 1, 1) := by decide +kernel
theorem d_Reader_scan_122 : decode s_Reader_scan.2.1 122 = .ok (.invokevirtual 70, 3) := by decide +kernel
theorem d_Reader_scan_125 : decode s_Reader_scan.2.1 125 = .ok (.iastore, 1) := by decide +kernel
theorem d_Reader_scan_126 : decode s_Reader_scan.2.1 126 = .ok (.return_, 1) := by decide +kernel
theorem d_Reader_refuse_0 : decode s_Reader_refuse.2.1 0 = .ok (.aload_n 0, 1) := by decide +kernel
theorem d_Reader_refuse_1 : decode s_Reader_refuse.2.1 1 = .ok (.iload_n 1, 1) := by decide +kernel
theorem d_Reader_refuse_2 : decode s_Reader_refuse.2.1 2 = .ok (.putfield 39, 3) := by decide +kernel
theorem d_Reader_refuse_5 : decode s_Reader_refuse.2.1 5 = .ok (.aload_n 0, 1) := by decide +kernel
theorem d_Reader_refuse_6 : decode s_Reader_refuse.2.1 6 = .ok (.iload_n 2, 1) := by decide +kernel
theorem d_Reader_refuse_7 : decode s_Reader_refuse.2.1 7 = .ok (.putfield 42, 3) := by decide +kernel
theorem d_Reader_refuse_10 : decode s_Reader_refuse.2.1 10 = .ok (.iconst 0, 1) := by decide +kernel
theorem d_Reader_refuse_11 : decode s_Reader_refuse.2.1 11 = .ok (.ireturn, 1) := by decide +kernel
theorem d_Reader_isNext_0 : decode s_Reader_isNext.2.1 0 = .ok (.lconst 0, 1) := by decide +kernel
theorem d_Reader_isNext_1 : decode s_Reader_isNext.2.1 1 = .ok (.lstore_n 2, 1) := by decide +kernel
theorem d_Reader_isNext_2 : decode s_Reader_isNext.2.1 2 = .ok (.iconst 0, 1) := by decide +kernel
theorem d_Reader_isNext_3 : decode s_Reader_isNext.2.1 3 = .ok (.istore 4, 2) := by decide +kernel
theorem d_Reader_isNext_5 : decode s_Reader_isNext.2.1 5 = .ok (.iload 4, 2) := by decide +kernel
theorem d_Reader_isNext_7 : decode s_Reader_isNext.2.1 7 = .ok (.aload_n 1, 1) := by decide +kernel
theorem d_Reader_isNext_8 : decode s_Reader_isNext.2.1 8 = .ok (.invokevirtual 106, 3) := by decide +kernel
theorem d_Reader_isNext_11 : decode s_Reader_isNext.2.1 11 = .ok (.if_icmp .ge 26, 3) := by decide +kernel
theorem d_Reader_isNext_14 : decode s_Reader_isNext.2.1 14 = .ok (.lload_n 2, 1) := by decide +kernel
theorem d_Reader_isNext_15 : decode s_Reader_isNext.2.1 15 = .ok (.iconst 5, 1) := by decide +kernel
theorem d_Reader_isNext_16 : decode s_Reader_isNext.2.1 16 = .ok (.lshl, 1) := by decide +kernel
theorem d_Reader_isNext_17 : decode s_Reader_isNext.2.1 17 = .ok (.aload_n 1, 1) := by decide +kernel
theorem d_Reader_isNext_18 : decode s_Reader_isNext.2.1 18 = .ok (.iload 4, 2) := by decide +kernel
theorem d_Reader_isNext_20 : decode s_Reader_isNext.2.1 20 = .ok (.invokevirtual 111, 3) := by decide +kernel
theorem d_Reader_isNext_23 : decode s_Reader_isNext.2.1 23 = .ok (.bipush 97, 2) := by decide +kernel
theorem d_Reader_isNext_25 : decode s_Reader_isNext.2.1 25 = .ok (.isub, 1) := by decide +kernel
theorem d_Reader_isNext_26 : decode s_Reader_isNext.2.1 26 = .ok (.iconst 1, 1) := by decide +kernel
theorem d_Reader_isNext_27 : decode s_Reader_isNext.2.1 27 = .ok (.iadd, 1) := by decide +kernel
theorem d_Reader_isNext_28 : decode s_Reader_isNext.2.1 28 = .ok (.i2l, 1) := by decide +kernel
theorem d_Reader_isNext_29 : decode s_Reader_isNext.2.1 29 = .ok (.lor, 1) := by decide +kernel
theorem d_Reader_isNext_30 : decode s_Reader_isNext.2.1 30 = .ok (.lstore_n 2, 1) := by decide +kernel
theorem d_Reader_isNext_31 : decode s_Reader_isNext.2.1 31 = .ok (.iinc 4 1, 3) := by decide +kernel
theorem d_Reader_isNext_34 : decode s_Reader_isNext.2.1 34 = .ok (.goto (-29), 3) := by decide +kernel
theorem d_Reader_isNext_37 : decode s_Reader_isNext.2.1 37 = .ok (.aload_n 0, 1) := by decide +kernel
theorem d_Reader_isNext_38 : decode s_Reader_isNext.2.1 38 = .ok (.getfield 18, 3) := by decide +kernel
theorem d_Reader_isNext_41 : decode s_Reader_isNext.2.1 41 = .ok (.aload_n 0, 1) := by decide +kernel
theorem d_Reader_isNext_42 : decode s_Reader_isNext.2.1 42 = .ok (.getfield 32, 3) := by decide +kernel
theorem d_Reader_isNext_45 : decode s_Reader_isNext.2.1 45 = .ok (.iaload, 1) := by decide +kernel
theorem d_Reader_isNext_46 : decode s_Reader_isNext.2.1 46 = .ok (.iconst 2, 1) := by decide +kernel
theorem d_Reader_isNext_47 : decode s_Reader_isNext.2.1 47 = .ok (.if_icmp .ne 21, 3) := by decide +kernel
theorem d_Reader_isNext_50 : decode s_Reader_isNext.2.1 50 = .ok (.aload_n 0, 1) := by decide +kernel
theorem d_Reader_isNext_51 : decode s_Reader_isNext.2.1 51 = .ok (.getfield 28, 3) := by decide +kernel
theorem d_Reader_isNext_54 : decode s_Reader_isNext.2.1 54 = .ok (.aload_n 0, 1) := by decide +kernel
theorem d_Reader_isNext_55 : decode s_Reader_isNext.2.1 55 = .ok (.getfield 32, 3) := by decide +kernel
theorem d_Reader_isNext_58 : decode s_Reader_isNext.2.1 58 = .ok (.laload, 1) := by decide +kernel
theorem d_Reader_isNext_59 : decode s_Reader_isNext.2.1 59 = .ok (.lload_n 2, 1) := by decide +kernel
theorem d_Reader_isNext_60 : decode s_Reader_isNext.2.1 60 = .ok (.lcmp, 1) := by decide +kernel
theorem d_Reader_isNext_61 : decode s_Reader_isNext.2.1 61 = .ok (.ifCond .ne 7, 3) := by decide +kernel
theorem d_Reader_isNext_64 : decode s_Reader_isNext.2.1 64 = .ok (.iconst 1, 1) := by decide +kernel
theorem d_Reader_isNext_65 : decode s_Reader_isNext.2.1 65 = .ok (.goto 4, 3) := by decide +kernel
theorem d_Reader_isNext_68 : decode s_Reader_isNext.2.1 68 = .ok (.iconst 0, 1) := by decide +kernel
theorem d_Reader_isNext_69 : decode s_Reader_isNext.2.1 69 = .ok (.ireturn, 1) := by decide +kernel
theorem d_Reader_word_0 : decode s_Reader_word.2.1 0 = .ok (.aload_n 0, 1) := by decide +kernel
theorem d_Reader_word_1 : decode s_Reader_word.2.1 1 = .ok (.aload_n 1, 1) := by decide +kernel
theorem d_Reader_word_2 : decode s_Reader_word.2.1 2 = .ok (.invokevirtual 115, 3) := by decide +kernel
theorem d_Reader_word_5 : decode s_Reader_word.2.1 5 = .ok (.istore_n 2, 1) := by decide +kernel
theorem d_Reader_word_6 : decode s_Reader_word.2.1 6 = .ok (.aload_n 0, 1) := by decide +kernel
theorem d_Reader_word_7 : decode s_Reader_word.2.1 7 = .ok (.dup, 1) := by decide +kernel
theorem d_Reader_word_8 : decode s_Reader_word.2.1 8 = .ok (.getfield 32, 3) := by decide +kernel
theorem d_Reader_word_11 : decode s_Reader_word.2.1 11 = .ok (.iload_n 2, 1) := by decide +kernel
theorem d_Reader_word_12 : decode s_Reader_word.2.1 12 = .ok (.ifCond .eq 7, 3) := by decide +kernel
theorem d_Reader_word_15 : decode s_Reader_word.2.1 15 = .ok (.iconst 1, 1) := by decide +kernel
theorem d_Reader_word_16 : decode s_Reader_word.2.1 16 = .ok (.goto 4, 3) := by decide +kernel
theorem d_Reader_word_19 : decode s_Reader_word.2.1 19 = .ok (.iconst 0, 1) := by decide +kernel
theorem d_Reader_word_20 : decode s_Reader_word.2.1 20 = .ok (.iadd, 1) := by decide +kernel
theorem d_Reader_word_21 : decode s_Reader_word.2.1 21 = .ok (.putfield 32, 3) := by decide +kernel
theorem d_Reader_word_24 : decode s_Reader_word.2.1 24 = .ok (.iload_n 2, 1) := by decide +kernel
theorem d_Reader_word_25 : decode s_Reader_word.2.1 25 = .ok (.ireturn, 1) := by decide +kernel
theorem d_Reader_unexpected_0 : decode s_Reader_unexpected.2.1 0 = .ok (.aload_n 0, 1) := by decide +kernel
theorem d_Reader_unexpected_1 : decode s_Reader_unexpected.2.1 1 = .ok (.iconst 1, 1) := by decide +kernel
theorem d_Reader_unexpected_2 : decode s_Reader_unexpected.2.1 2 = .ok (.putfield 39, 3) := by decide +kernel
theorem d_Reader_unexpected_5 : decode s_Reader_unexpected.2.1 5 = .ok (.aload_n 0, 1) := by decide +kernel
theorem d_Reader_unexpected_6 : decode s_Reader_unexpected.2.1 6 = .ok (.aload_n 0, 1) := by decide +kernel
theorem d_Reader_unexpected_7 : decode s_Reader_unexpected.2.1 7 = .ok (.getfield 22, 3) := by decide +kernel
theorem d_Reader_unexpected_10 : decode s_Reader_unexpected.2.1 10 = .ok (.aload_n 0, 1) := by decide +kernel
theorem d_Reader_unexpected_11 : decode s_Reader_unexpected.2.1 11 = .ok (.getfield 32, 3) := by decide +kernel
theorem d_Reader_unexpected_14 : decode s_Reader_unexpected.2.1 14 = .ok (.iaload, 1) := by decide +kernel
theorem d_Reader_unexpected_15 : decode s_Reader_unexpected.2.1 15 = .ok (.putfield 42, 3) := by decide +kernel
theorem d_Reader_unexpected_18 : decode s_Reader_unexpected.2.1 18 = .ok (.iconst 0, 1) := by decide +kernel
theorem d_Reader_unexpected_19 : decode s_Reader_unexpected.2.1 19 = .ok (.ireturn, 1) := by decide +kernel
theorem d_Reader_ask_0 : decode s_Reader_ask.2.1 0 = .ok (.aload_n 0, 1) := by decide +kernel
theorem d_Reader_ask_1 : decode s_Reader_ask.2.1 1 = .ok (.aload_n 1, 1) := by decide +kernel
theorem d_Reader_ask_2 : decode s_Reader_ask.2.1 2 = .ok (.invokevirtual 119, 3) := by decide +kernel
theorem d_Reader_ask_5 : decode s_Reader_ask.2.1 5 = .ok (.ifCond .ne 10, 3) := by decide +kernel
theorem d_Reader_ask_8 : decode s_Reader_ask.2.1 8 = .ok (.aload_n 0, 1) := by decide +kernel
theorem d_Reader_ask_9 : decode s_Reader_ask.2.1 9 = .ok (.invokevirtual 67, 3) := by decide +kernel
theorem d_Reader_ask_12 : decode s_Reader_ask.2.1 12 = .ok (.ifCond .eq 7, 3) := by decide +kernel
theorem d_Reader_ask_15 : decode s_Reader_ask.2.1 15 = .ok (.iconst 1, 1) := by decide +kernel
theorem d_Reader_ask_16 : decode s_Reader_ask.2.1 16 = .ok (.goto 4, 3) := by decide +kernel
theorem d_Reader_ask_19 : decode s_Reader_ask.2.1 19 = .ok (.iconst 0, 1) := by decide +kernel
theorem d_Reader_ask_20 : decode s_Reader_ask.2.1 20 = .ok (.ireturn, 1) := by decide +kernel
theorem d_Reader_number_0 : decode s_Reader_number.2.1 0 = .ok (.aload_n 0, 1) := by decide +kernel
theorem d_Reader_number_1 : decode s_Reader_number.2.1 1 = .ok (.getfield 18, 3) := by decide +kernel
theorem d_Reader_number_4 : decode s_Reader_number.2.1 4 = .ok (.aload_n 0, 1) := by decide +kernel
theorem d_Reader_number_5 : decode s_Reader_number.2.1 5 = .ok (.getfield 32, 3) := by decide +kernel
theorem d_Reader_number_8 : decode s_Reader_number.2.1 8 = .ok (.iaload, 1) := by decide +kernel
theorem d_Reader_number_9 : decode s_Reader_number.2.1 9 = .ok (.iconst 3, 1) := by decide +kernel
theorem d_Reader_number_10 : decode s_Reader_number.2.1 10 = .ok (.if_icmp .eq 8, 3) := by decide +kernel
theorem d_Reader_number_13 : decode s_Reader_number.2.1 13 = .ok (.aload_n 0, 1) := by decide +kernel
theorem d_Reader_number_14 : decode s_Reader_number.2.1 14 = .ok (.invokevirtual 67, 3) := by decide +kernel
theorem d_Reader_number_17 : decode s_Reader_number.2.1 17 = .ok (.ireturn, 1) := by decide +kernel
theorem d_Reader_number_18 : decode s_Reader_number.2.1 18 = .ok (.aload_n 0, 1) := by decide +kernel
theorem d_Reader_number_19 : decode s_Reader_number.2.1 19 = .ok (.getfield 25, 3) := by decide +kernel
theorem d_Reader_number_22 : decode s_Reader_number.2.1 22 = .ok (.aload_n 0, 1) := by decide +kernel
theorem d_Reader_number_23 : decode s_Reader_number.2.1 23 = .ok (.getfield 32, 3) := by decide +kernel
theorem d_Reader_number_26 : decode s_Reader_number.2.1 26 = .ok (.iaload, 1) := by decide +kernel
theorem d_Reader_number_27 : decode s_Reader_number.2.1 27 = .ok (.iconst 1, 1) := by decide +kernel
theorem d_Reader_number_28 : decode s_Reader_number.2.1 28 = .ok (.if_icmp .le 20, 3) := by decide +kernel
theorem d_Reader_number_31 : decode s_Reader_number.2.1 31 = .ok (.aload_n 0, 1) := by decide +kernel
theorem d_Reader_number_32 : decode s_Reader_number.2.1 32 = .ok (.iconst 1, 1) := by decide +kernel
theorem d_Reader_number_33 : decode s_Reader_number.2.1 33 = .ok (.aload_n 0, 1) := by decide +kernel
theorem d_Reader_number_34 : decode s_Reader_number.2.1 34 = .ok (.getfield 22, 3) := by decide +kernel
theorem d_Reader_number_37 : decode s_Reader_number.2.1 37 = .ok (.aload_n 0, 1) := by decide +kernel
theorem d_Reader_number_38 : decode s_Reader_number.2.1 38 = .ok (.getfield 32, 3) := by decide +kernel
theorem d_Reader_number_41 : decode s_Reader_number.2.1 41 = .ok (.iaload, 1) := by decide +kernel
theorem d_Reader_number_42 : decode s_Reader_number.2.1 42 = .ok (.iconst 1, 1) := by decide +kernel
theorem d_Reader_number_43 : decode s_Reader_number.2.1 43 = .ok (.iadd, 1) := by decide +kernel
theorem d_Reader_number_44 : decode s_Reader_number.2.1 44 = .ok (.invokevirtual 52, 3) := by decide +kernel
theorem d_Reader_number_47 : decode s_Reader_number.2.1 47 = .ok (.ireturn, 1) := by decide +kernel
theorem d_Reader_number_48 : decode s_Reader_number.2.1 48 = .ok (.aload_n 0, 1) := by decide +kernel
theorem d_Reader_number_49 : decode s_Reader_number.2.1 49 = .ok (.aload_n 0, 1) := by decide +kernel
theorem d_Reader_number_50 : decode s_Reader_number.2.1 50 = .ok (.getfield 28, 3) := by decide +kernel
theorem d_Reader_number_53 : decode s_Reader_number.2.1 53 = .ok (.aload_n 0, 1) := by decide +kernel
theorem d_Reader_number_54 : decode s_Reader_number.2.1 54 = .ok (.getfield 32, 3) := by decide +kernel
theorem d_Reader_number_57 : decode s_Reader_number.2.1 57 = .ok (.laload, 1) := by decide +kernel
theorem d_Reader_number_58 : decode s_Reader_number.2.1 58 = .ok (.l2i, 1) := by decide +kernel
theorem d_Reader_number_59 : decode s_Reader_number.2.1 59 = .ok (.putfield 36, 3) := by decide +kernel
theorem d_Reader_number_62 : decode s_Reader_number.2.1 62 = .ok (.aload_n 0, 1) := by decide +kernel
theorem d_Reader_number_63 : decode s_Reader_number.2.1 63 = .ok (.getfield 36, 3) := by decide +kernel
theorem d_Reader_number_66 : decode s_Reader_number.2.1 66 = .ok (.iload_n 1, 1) := by decide +kernel
theorem d_Reader_number_67 : decode s_Reader_number.2.1 67 = .ok (.if_icmp .lt 11, 3) := by decide +kernel
theorem d_Reader_number_70 : decode s_Reader_number.2.1 70 = .ok (.aload_n 0, 1) := by decide +kernel
theorem d_Reader_number_71 : decode s_Reader_number.2.1 71 = .ok (.getfield 36, 3) := by decide +kernel
theorem d_Reader_number_74 : decode s_Reader_number.2.1 74 = .ok (.iload_n 2, 1) := by decide +kernel
theorem d_Reader_number_75 : decode s_Reader_number.2.1 75 = .ok (.if_icmp .le 18, 3) := by decide +kernel
theorem d_Reader_number_78 : decode s_Reader_number.2.1 78 = .ok (.aload_n 0, 1) := by decide +kernel
theorem d_Reader_number_79 : decode s_Reader_number.2.1 79 = .ok (.iconst 2, 1) := by decide +kernel
theorem d_Reader_number_80 : decode s_Reader_number.2.1 80 = .ok (.aload_n 0, 1) := by decide +kernel
theorem d_Reader_number_81 : decode s_Reader_number.2.1 81 = .ok (.getfield 22, 3) := by decide +kernel
theorem d_Reader_number_84 : decode s_Reader_number.2.1 84 = .ok (.aload_n 0, 1) := by decide +kernel
theorem d_Reader_number_85 : decode s_Reader_number.2.1 85 = .ok (.getfield 32, 3) := by decide +kernel
theorem d_Reader_number_88 : decode s_Reader_number.2.1 88 = .ok (.iaload, 1) := by decide +kernel
theorem d_Reader_number_89 : decode s_Reader_number.2.1 89 = .ok (.invokevirtual 52, 3) := by decide +kernel
theorem d_Reader_number_92 : decode s_Reader_number.2.1 92 = .ok (.ireturn, 1) := by decide +kernel
theorem d_Reader_number_93 : decode s_Reader_number.2.1 93 = .ok (.aload_n 0, 1) := by decide +kernel
theorem d_Reader_number_94 : decode s_Reader_number.2.1 94 = .ok (.dup, 1) := by decide +kernel
theorem d_Reader_number_95 : decode s_Reader_number.2.1 95 = .ok (.getfield 32, 3) := by decide +kernel
theorem d_Reader_number_98 : decode s_Reader_number.2.1 98 = .ok (.iconst 1, 1) := by decide +kernel
theorem d_Reader_number_99 : decode s_Reader_number.2.1 99 = .ok (.iadd, 1) := by decide +kernel
theorem d_Reader_number_100 : decode s_Reader_number.2.1 100 = .ok (.putfield 32, 3) := by decide +kernel
theorem d_Reader_number_103 : decode s_Reader_number.2.1 103 = .ok (.iconst 1, 1) := by decide +kernel
theorem d_Reader_number_104 : decode s_Reader_number.2.1 104 = .ok (.ireturn, 1) := by decide +kernel
theorem d_Reader_name_0 : decode s_Reader_name.2.1 0 = .ok (.aload_n 0, 1) := by decide +kernel
theorem d_Reader_name_1 : decode s_Reader_name.2.1 1 = .ok (.getfield 18, 3) := by decide +kernel
theorem d_Reader_name_4 : decode s_Reader_name.2.1 4 = .ok (.aload_n 0, 1) := by decide +kernel
theorem d_Reader_name_5 : decode s_Reader_name.2.1 5 = .ok (.getfield 32, 3) := by decide +kernel
theorem d_Reader_name_8 : decode s_Reader_name.2.1 8 = .ok (.iaload, 1) := by decide +kernel
theorem d_Reader_name_9 : decode s_Reader_name.2.1 9 = .ok (.iconst 1, 1) := by decide +kernel
theorem d_Reader_name_10 : decode s_Reader_name.2.1 10 = .ok (.if_icmp .eq 8, 3) := by decide +kernel
theorem d_Reader_name_13 : decode s_Reader_name.2.1 13 = .ok (.aload_n 0, 1) := by decide +kernel
theorem d_Reader_name_14 : decode s_Reader_name.2.1 14 = .ok (.invokevirtual 67, 3) := by decide +kernel
theorem d_Reader_name_17 : decode s_Reader_name.2.1 17 = .ok (.ireturn, 1) := by decide +kernel
theorem d_Reader_name_18 : decode s_Reader_name.2.1 18 = .ok (.aload_n 0, 1) := by decide +kernel
theorem d_Reader_name_19 : decode s_Reader_name.2.1 19 = .ok (.getfield 25, 3) := by decide +kernel
theorem d_Reader_name_22 : decode s_Reader_name.2.1 22 = .ok (.aload_n 0, 1) := by decide +kernel
theorem d_Reader_name_23 : decode s_Reader_name.2.1 23 = .ok (.getfield 32, 3) := by decide +kernel
theorem d_Reader_name_26 : decode s_Reader_name.2.1 26 = .ok (.iaload, 1) := by decide +kernel
theorem d_Reader_name_27 : decode s_Reader_name.2.1 27 = .ok (.bipush 6, 2) := by decide +kernel
theorem d_Reader_name_29 : decode s_Reader_name.2.1 29 = .ok (.if_icmp .le 21, 3) := by decide +kernel
theorem d_Reader_name_32 : decode s_Reader_name.2.1 32 = .ok (.aload_n 0, 1) := by decide +kernel
theorem d_Reader_name_33 : decode s_Reader_name.2.1 33 = .ok (.iconst 1, 1) := by decide +kernel
theorem d_Reader_name_34 : decode s_Reader_name.2.1 34 = .ok (.aload_n 0, 1) := by decide +kernel
theorem d_Reader_name_35 : decode s_Reader_name.2.1 35 = .ok (.getfield 22, 3) := by decide +kernel
theorem d_Reader_name_38 : decode s_Reader_name.2.1 38 = .ok (.aload_n 0, 1) := by decide +kernel
theorem d_Reader_name_39 : decode s_Reader_name.2.1 39 = .ok (.getfield 32, 3) := by decide +kernel
theorem d_Reader_name_42 : decode s_Reader_name.2.1 42 = .ok (.iaload, 1) := by decide +kernel
theorem d_Reader_name_43 : decode s_Reader_name.2.1 43 = .ok (.bipush 6, 2) := by decide +kernel
theorem d_Reader_name_45 : decode s_Reader_name.2.1 45 = .ok (.iadd, 1) := by decide +kernel
theorem d_Reader_name_46 : decode s_Reader_name.2.1 46 = .ok (.invokevirtual 52, 3) := by decide +kernel
theorem d_Reader_name_49 : decode s_Reader_name.2.1 49 = .ok (.ireturn, 1) := by decide +kernel
theorem d_Reader_name_50 : decode s_Reader_name.2.1 50 = .ok (.aload_n 0, 1) := by decide +kernel
theorem d_Reader_name_51 : decode s_Reader_name.2.1 51 = .ok (.aload_n 0, 1) := by decide +kernel
theorem d_Reader_name_52 : decode s_Reader_name.2.1 52 = .ok (.getfield 28, 3) := by decide +kernel
theorem d_Reader_name_55 : decode s_Reader_name.2.1 55 = .ok (.aload_n 0, 1) := by decide +kernel
theorem d_Reader_name_56 : decode s_Reader_name.2.1 56 = .ok (.getfield 32, 3) := by decide +kernel
theorem d_Reader_name_59 : decode s_Reader_name.2.1 59 = .ok (.laload, 1) := by decide +kernel
theorem d_Reader_name_60 : decode s_Reader_name.2.1 60 = .ok (.iconst 5, 1) := by decide +kernel
theorem d_Reader_name_61 : decode s_Reader_name.2.1 61 = .ok (.bipush 6, 2) := by decide +kernel
theorem d_Reader_name_63 : decode s_Reader_name.2.1 63 = .ok (.aload_n 0, 1) := by decide +kernel
theorem d_Reader_name_64 : decode s_Reader_name.2.1 64 = .ok (.getfield 25, 3) := by decide +kernel
theorem d_Reader_name_67 : decode s_Reader_name.2.1 67 = .ok (.aload_n 0, 1) := by decide +kernel
theorem d_Reader_name_68 : decode s_Reader_name.2.1 68 = .ok (.getfield 32, 3) := by decide +kernel
theorem d_Reader_name_71 : decode s_Reader_name.2.1 71 = .ok (.iaload, 1) := by decide +kernel
theorem d_Reader_name_72 : decode s_Reader_name.2.1 72 = .ok (.isub, 1) := by decide +kernel
theorem d_Reader_name_73 : decode s_Reader_name.2.1 73 = .ok (.imul, 1) := by decide +kernel
theorem d_Reader_name_74 : decode s_Reader_name.2.1 74 = .ok (.lshl, 1) := by decide +kernel
theorem d_Reader_name_75 : decode s_Reader_name.2.1 75 = .ok (.l2i, 1) := by decide +kernel
theorem d_Reader_name_76 : decode s_Reader_name.2.1 76 = .ok (.putfield 36, 3) := by decide +kernel
theorem d_Reader_name_79 : decode s_Reader_name.2.1 79 = .ok (.iconst 1, 1) := by decide +kernel
theorem d_Reader_name_80 : decode s_Reader_name.2.1 80 = .ok (.ireturn, 1) := by decide +kernel
theorem d_Table_find_0 : decode s_Table_find.2.1 0 = .ok (.iconst 0, 1) := by decide +kernel
theorem d_Table_find_1 : decode s_Table_find.2.1 1 = .ok (.istore_n 3, 1) := by decide +kernel
theorem d_Table_find_2 : decode s_Table_find.2.1 2 = .ok (.iload_n 3, 1) := by decide +kernel
theorem d_Table_find_3 : decode s_Table_find.2.1 3 = .ok (.aload_n 0, 1) := by decide +kernel
theorem d_Table_find_4 : decode s_Table_find.2.1 4 = .ok (.getfield 15, 3) := by decide +kernel
theorem d_Table_find_7 : decode s_Table_find.2.1 7 = .ok (.iload_n 1, 1) := by decide +kernel
theorem d_Table_find_8 : decode s_Table_find.2.1 8 = .ok (.iaload, 1) := by decide +kernel
theorem d_Table_find_9 : decode s_Table_find.2.1 9 = .ok (.if_icmp .ge 26, 3) := by decide +kernel
theorem d_Table_find_12 : decode s_Table_find.2.1 12 = .ok (.aload_n 0, 1) := by decide +kernel
theorem d_Table_find_13 : decode s_Table_find.2.1 13 = .ok (.getfield 19, 3) := by decide +kernel
theorem d_Table_find_16 : decode s_Table_find.2.1 16 = .ok (.iload_n 1, 1) := by decide +kernel
theorem d_Table_find_17 : decode s_Table_find.2.1 17 = .ok (.bipush 6, 2) := by decide +kernel
theorem d_Table_find_19 : decode s_Table_find.2.1 19 = .ok (.imul, 1) := by decide +kernel
theorem d_Table_find_20 : decode s_Table_find.2.1 20 = .ok (.iload_n 3, 1) := by decide +kernel
theorem d_Table_find_21 : decode s_Table_find.2.1 21 = .ok (.iadd, 1) := by decide +kernel
theorem d_Table_find_22 : decode s_Table_find.2.1 22 = .ok (.iaload, 1) := by decide +kernel
theorem d_Table_find_23 : decode s_Table_find.2.1 23 = .ok (.iload_n 2, 1) := by decide +kernel
theorem d_Table_find_24 : decode s_Table_find.2.1 24 = .ok (.if_icmp .ne 5, 3) := by decide +kernel
theorem d_Table_find_27 : decode s_Table_find.2.1 27 = .ok (.iload_n 3, 1) := by decide +kernel
theorem d_Table_find_28 : decode s_Table_find.2.1 28 = .ok (.ireturn, 1) := by decide +kernel
theorem d_Table_find_29 : decode s_Table_find.2.1 29 = .ok (.iinc 3 1, 3) := by decide +kernel
theorem d_Table_find_32 : decode s_Table_find.2.1 32 = .ok (.goto (-30), 3) := by decide +kernel
theorem d_Table_find_35 : decode s_Table_find.2.1 35 = .ok (.iconst (-1), 1) := by decide +kernel
theorem d_Table_find_36 : decode s_Table_find.2.1 36 = .ok (.ireturn, 1) := by decide +kernel
theorem d_Table_isTaken_0 : decode s_Table_isTaken.2.1 0 = .ok (.iconst 0, 1) := by decide +kernel
theorem d_Table_isTaken_1 : decode s_Table_isTaken.2.1 1 = .ok (.istore_n 2, 1) := by decide +kernel
theorem d_Table_isTaken_2 : decode s_Table_isTaken.2.1 2 = .ok (.iload_n 2, 1) := by decide +kernel
theorem d_Table_isTaken_3 : decode s_Table_isTaken.2.1 3 = .ok (.iconst 3, 1) := by decide +kernel
theorem d_Table_isTaken_4 : decode s_Table_isTaken.2.1 4 = .ok (.if_icmp .ge 21, 3) := by decide +kernel
theorem d_Table_isTaken_7 : decode s_Table_isTaken.2.1 7 = .ok (.aload_n 0, 1) := by decide +kernel
theorem d_Table_isTaken_8 : decode s_Table_isTaken.2.1 8 = .ok (.iload_n 2, 1) := by decide +kernel
theorem d_Table_isTaken_9 : decode s_Table_isTaken.2.1 9 = .ok (.iload_n 1, 1) := by decide +kernel
theorem d_Table_isTaken_10 : decode s_Table_isTaken.2.1 10 = .ok (.invokevirtual 60, 3) := by decide +kernel
theorem d_Table_isTaken_13 : decode s_Table_isTaken.2.1 13 = .ok (.iconst (-1), 1) := by decide +kernel
theorem d_Table_isTaken_14 : decode s_Table_isTaken.2.1 14 = .ok (.if_icmp .eq 5, 3) := by decide +kernel
theorem d_Table_isTaken_17 : decode s_Table_isTaken.2.1 17 = .ok (.iconst 1, 1) := by decide +kernel
theorem d_Table_isTaken_18 : decode s_Table_isTaken.2.1 18 = .ok (.ireturn, 1) := by decide +kernel
theorem d_Table_isTaken_19 : decode s_Table_isTaken.2.1 19 = .ok (.iinc 2 1, 3) := by decide +kernel
theorem d_Table_isTaken_22 : decode s_Table_isTaken.2.1 22 = .ok (.goto (-20), 3) := by decide +kernel
theorem d_Table_isTaken_25 : decode s_Table_isTaken.2.1 25 = .ok (.iconst 0, 1) := by decide +kernel
theorem d_Table_isTaken_26 : decode s_Table_isTaken.2.1 26 = .ok (.ireturn, 1) := by decide +kernel
theorem d_Table_give_0 : decode s_Table_give.2.1 0 = .ok (.aload_n 0, 1) := by decide +kernel
theorem d_Table_give_1 : decode s_Table_give.2.1 1 = .ok (.getfield 15, 3) := by decide +kernel
theorem d_Table_give_4 : decode s_Table_give.2.1 4 = .ok (.iload_n 1, 1) := by decide +kernel
theorem d_Table_give_5 : decode s_Table_give.2.1 5 = .ok (.iaload, 1) := by decide +kernel
theorem d_Table_give_6 : decode s_Table_give.2.1 6 = .ok (.bipush 6, 2) := by decide +kernel
theorem d_Table_give_8 : decode s_Table_give.2.1 8 = .ok (.if_icmp .ge 30, 3) := by decide +kernel
theorem d_Table_give_11 : decode s_Table_give.2.1 11 = .ok (.aload_n 0, 1) := by decide +kernel
theorem d_Table_give_12 : decode s_Table_give.2.1 12 = .ok (.getfield 19, 3) := by decide +kernel
theorem d_Table_give_15 : decode s_Table_give.2.1 15 = .ok (.iload_n 1, 1) := by decide +kernel
theorem d_Table_give_16 : decode s_Table_give.2.1 16 = .ok (.bipush 6, 2) := by decide +kernel
theorem d_Table_give_18 : decode s_Table_give.2.1 18 = .ok (.imul, 1) := by decide +kernel
theorem d_Table_give_19 : decode s_Table_give.2.1 19 = .ok (.aload_n 0, 1) := by decide +kernel
theorem d_Table_give_20 : decode s_Table_give.2.1 20 = .ok (.getfield 15, 3) := by decide +kernel
theorem d_Table_give_23 : decode s_Table_give.2.1 23 = .ok (.iload_n 1, 1) := by decide +kernel
theorem d_Table_give_24 : decode s_Table_give.2.1 24 = .ok (.iaload, 1) := by decide +kernel
theorem d_Table_give_25 : decode s_Table_give.2.1 25 = .ok (.iadd, 1) := by decide +kernel
theorem d_Table_give_26 : decode s_Table_give.2.1 26 = .ok (.iload_n 2, 1) := by decide +kernel
theorem d_Table_give_27 : decode s_Table_give.2.1 27 = .ok (.iastore, 1) := by decide +kernel
theorem d_Table_give_28 : decode s_Table_give.2.1 28 = .ok (.aload_n 0, 1) := by decide +kernel
theorem d_Table_give_29 : decode s_Table_give.2.1 29 = .ok (.getfield 15, 3) := by decide +kernel
theorem d_Table_give_32 : decode s_Table_give.2.1 32 = .ok (.iload_n 1, 1) := by decide +kernel
theorem d_Table_give_33 : decode s_Table_give.2.1 33 = .ok (.dup2, 1) := by decide +kernel
theorem d_Table_give_34 : decode s_Table_give.2.1 34 = .ok (.iaload, 1) := by decide +kernel
theorem d_Table_give_35 : decode s_Table_give.2.1 35 = .ok (.iconst 1, 1) := by decide +kernel
theorem d_Table_give_36 : decode s_Table_give.2.1 36 = .ok (.iadd, 1) := by decide +kernel
theorem d_Table_give_37 : decode s_Table_give.2.1 37 = .ok (.iastore, 1) := by decide +kernel
theorem d_Table_give_38 : decode s_Table_give.2.1 38 = .ok (.return_, 1) := by decide +kernel
theorem d_Reader_given_0 : decode s_Reader_given.2.1 0 = .ok (.aload_n 0, 1) := by decide +kernel
theorem d_Reader_given_1 : decode s_Reader_given.2.1 1 = .ok (.invokevirtual 122, 3) := by decide +kernel
theorem d_Reader_given_4 : decode s_Reader_given.2.1 4 = .ok (.ifCond .ne 5, 3) := by decide +kernel
theorem d_Reader_given_7 : decode s_Reader_given.2.1 7 = .ok (.iconst 0, 1) := by decide +kernel
theorem d_Reader_given_8 : decode s_Reader_given.2.1 8 = .ok (.ireturn, 1) := by decide +kernel
theorem d_Reader_given_9 : decode s_Reader_given.2.1 9 = .ok (.aload_n 0, 1) := by decide +kernel
theorem d_Reader_given_10 : decode s_Reader_given.2.1 10 = .ok (.getfield 12, 3) := by decide +kernel
theorem d_Reader_given_13 : decode s_Reader_given.2.1 13 = .ok (.aload_n 0, 1) := by decide +kernel
theorem d_Reader_given_14 : decode s_Reader_given.2.1 14 = .ok (.getfield 36, 3) := by decide +kernel
theorem d_Reader_given_17 : decode s_Reader_given.2.1 17 = .ok (.invokevirtual 129, 3) := by decide +kernel
theorem d_Reader_given_20 : decode s_Reader_given.2.1 20 = .ok (.ifCond .eq 18, 3) := by decide +kernel
theorem d_Reader_given_23 : decode s_Reader_given.2.1 23 = .ok (.aload_n 0, 1) := by decide +kernel
theorem d_Reader_given_24 : decode s_Reader_given.2.1 24 = .ok (.iconst 3, 1) := by decide +kernel
theorem d_Reader_given_25 : decode s_Reader_given.2.1 25 = .ok (.aload_n 0, 1) := by decide +kernel
theorem d_Reader_given_26 : decode s_Reader_given.2.1 26 = .ok (.getfield 22, 3) := by decide +kernel
theorem d_Reader_given_29 : decode s_Reader_given.2.1 29 = .ok (.aload_n 0, 1) := by decide +kernel
theorem d_Reader_given_30 : decode s_Reader_given.2.1 30 = .ok (.getfield 32, 3) := by decide +kernel
theorem d_Reader_given_33 : decode s_Reader_given.2.1 33 = .ok (.iaload, 1) := by decide +kernel
theorem d_Reader_given_34 : decode s_Reader_given.2.1 34 = .ok (.invokevirtual 52, 3) := by decide +kernel
theorem d_Reader_given_37 : decode s_Reader_given.2.1 37 = .ok (.ireturn, 1) := by decide +kernel
theorem d_Reader_given_38 : decode s_Reader_given.2.1 38 = .ok (.aload_n 0, 1) := by decide +kernel
theorem d_Reader_given_39 : decode s_Reader_given.2.1 39 = .ok (.getfield 12, 3) := by decide +kernel
theorem d_Reader_given_42 : decode s_Reader_given.2.1 42 = .ok (.iload_n 1, 1) := by decide +kernel
theorem d_Reader_given_43 : decode s_Reader_given.2.1 43 = .ok (.aload_n 0, 1) := by decide +kernel
theorem d_Reader_given_44 : decode s_Reader_given.2.1 44 = .ok (.getfield 36, 3) := by decide +kernel
theorem d_Reader_given_47 : decode s_Reader_given.2.1 47 = .ok (.invokevirtual 132, 3) := by decide +kernel
theorem d_Reader_given_50 : decode s_Reader_given.2.1 50 = .ok (.aload_n 0, 1) := by decide +kernel
theorem d_Reader_given_51 : decode s_Reader_given.2.1 51 = .ok (.dup, 1) := by decide +kernel
theorem d_Reader_given_52 : decode s_Reader_given.2.1 52 = .ok (.getfield 32, 3) := by decide +kernel
theorem d_Reader_given_55 : decode s_Reader_given.2.1 55 = .ok (.iconst 1, 1) := by decide +kernel
theorem d_Reader_given_56 : decode s_Reader_given.2.1 56 = .ok (.iadd, 1) := by decide +kernel
theorem d_Reader_given_57 : decode s_Reader_given.2.1 57 = .ok (.putfield 32, 3) := by decide +kernel
theorem d_Reader_given_60 : decode s_Reader_given.2.1 60 = .ok (.iconst 1, 1) := by decide +kernel
theorem d_Reader_given_61 : decode s_Reader_given.2.1 61 = .ok (.ireturn, 1) := by decide +kernel
theorem d_Reader_oneTooMany_0 : decode s_Reader_oneTooMany.2.1 0 = .ok (.aload_n 0, 1) := by decide +kernel
theorem d_Reader_oneTooMany_1 : decode s_Reader_oneTooMany.2.1 1 = .ok (.getfield 18, 3) := by decide +kernel
theorem d_Reader_oneTooMany_4 : decode s_Reader_oneTooMany.2.1 4 = .ok (.aload_n 0, 1) := by decide +kernel
theorem d_Reader_oneTooMany_5 : decode s_Reader_oneTooMany.2.1 5 = .ok (.getfield 32, 3) := by decide +kernel
theorem d_Reader_oneTooMany_8 : decode s_Reader_oneTooMany.2.1 8 = .ok (.iaload, 1) := by decide +kernel
theorem d_Reader_oneTooMany_9 : decode s_Reader_oneTooMany.2.1 9 = .ok (.ifCond .ne 10, 3) := by decide +kernel
theorem d_Reader_oneTooMany_12 : decode s_Reader_oneTooMany.2.1 12 = .ok (.aload_n 0, 1) := by decide +kernel
theorem d_Reader_oneTooMany_13 : decode s_Reader_oneTooMany.2.1 13 = .ok (.invokevirtual 67, 3) := by decide +kernel
theorem d_Reader_oneTooMany_16 : decode s_Reader_oneTooMany.2.1 16 = .ok (.goto 17, 3) := by decide +kernel
theorem d_Reader_oneTooMany_19 : decode s_Reader_oneTooMany.2.1 19 = .ok (.aload_n 0, 1) := by decide +kernel
theorem d_Reader_oneTooMany_20 : decode s_Reader_oneTooMany.2.1 20 = .ok (.iconst 5, 1) := by decide +kernel
theorem d_Reader_oneTooMany_21 : decode s_Reader_oneTooMany.2.1 21 = .ok (.aload_n 0, 1) := by decide +kernel
theorem d_Reader_oneTooMany_22 : decode s_Reader_oneTooMany.2.1 22 = .ok (.getfield 22, 3) := by decide +kernel
theorem d_Reader_oneTooMany_25 : decode s_Reader_oneTooMany.2.1 25 = .ok (.aload_n 0, 1) := by decide +kernel
theorem d_Reader_oneTooMany_26 : decode s_Reader_oneTooMany.2.1 26 = .ok (.getfield 32, 3) := by decide +kernel
theorem d_Reader_oneTooMany_29 : decode s_Reader_oneTooMany.2.1 29 = .ok (.iaload, 1) := by decide +kernel
theorem d_Reader_oneTooMany_30 : decode s_Reader_oneTooMany.2.1 30 = .ok (.invokevirtual 52, 3) := by decide +kernel
theorem d_Reader_oneTooMany_33 : decode s_Reader_oneTooMany.2.1 33 = .ok (.ireturn, 1) := by decide +kernel
theorem d_Reader_names_0 : decode s_Reader_names.2.1 0 = .ok (.iconst 0, 1) := by decide +kernel
theorem d_Reader_names_1 : decode s_Reader_names.2.1 1 = .ok (.istore_n 2, 1) := by decide +kernel
theorem d_Reader_names_2 : decode s_Reader_names.2.1 2 = .ok (.iload_n 2, 1) := by decide +kernel
theorem d_Reader_names_3 : decode s_Reader_names.2.1 3 = .ok (.bipush 6, 2) := by decide +kernel
theorem d_Reader_names_5 : decode s_Reader_names.2.1 5 = .ok (.if_icmp .ge 60, 3) := by decide +kernel
theorem d_Reader_names_8 : decode s_Reader_names.2.1 8 = .ok (.aload_n 0, 1) := by decide +kernel
theorem d_Reader_names_9 : decode s_Reader_names.2.1 9 = .ok (.iload_n 1, 1) := by decide +kernel
theorem d_Reader_names_10 : decode s_Reader_names.2.1 10 = .ok (.invokevirtual 139, 3) := by decide +kernel
theorem d_Reader_names_13 : decode s_Reader_names.2.1 13 = .ok (.ifCond .ne 5, 3) := by decide +kernel
theorem d_Reader_names_16 : decode s_Reader_names.2.1 16 = .ok (.iconst 0, 1) := by decide +kernel
theorem d_Reader_names_17 : decode s_Reader_names.2.1 17 = .ok (.ireturn, 1) := by decide +kernel
theorem d_Reader_names_18 : decode s_Reader_names.2.1 18 = .ok (.aload_n 0, 1) := by decide +kernel
theorem d_Reader_names_19 : decode s_Reader_names.2.1 19 = .ok (.getfield 18, 3) := by decide +kernel
theorem d_Reader_names_22 : decode s_Reader_names.2.1 22 = .ok (.aload_n 0, 1) := by decide +kernel
theorem d_Reader_names_23 : decode s_Reader_names.2.1 23 = .ok (.getfield 32, 3) := by decide +kernel
theorem d_Reader_names_26 : decode s_Reader_names.2.1 26 = .ok (.iaload, 1) := by decide +kernel
theorem d_Reader_names_27 : decode s_Reader_names.2.1 27 = .ok (.iconst 4, 1) := by decide +kernel
theorem d_Reader_names_28 : decode s_Reader_names.2.1 28 = .ok (.if_icmp .ne 19, 3) := by decide +kernel
theorem d_Reader_names_31 : decode s_Reader_names.2.1 31 = .ok (.aload_n 0, 1) := by decide +kernel
theorem d_Reader_names_32 : decode s_Reader_names.2.1 32 = .ok (.getfield 28, 3) := by decide +kernel
theorem d_Reader_names_35 : decode s_Reader_names.2.1 35 = .ok (.aload_n 0, 1) := by decide +kernel
theorem d_Reader_names_36 : decode s_Reader_names.2.1 36 = .ok (.getfield 32, 3) := by decide +kernel
theorem d_Reader_names_39 : decode s_Reader_names.2.1 39 = .ok (.laload, 1) := by decide +kernel
theorem d_Reader_names_40 : decode s_Reader_names.2.1 40 = .ok (.ldc2_w 142, 3) := by decide +kernel
theorem d_Reader_names_43 : decode s_Reader_names.2.1 43 = .ok (.lcmp, 1) := by decide +kernel
theorem d_Reader_names_44 : decode s_Reader_names.2.1 44 = .ok (.ifCond .eq 5, 3) := by decide +kernel
theorem d_Reader_names_47 : decode s_Reader_names.2.1 47 = .ok (.iconst 1, 1) := by decide +kernel
theorem d_Reader_names_48 : decode s_Reader_names.2.1 48 = .ok (.ireturn, 1) := by decide +kernel
theorem d_Reader_names_49 : decode s_Reader_names.2.1 49 = .ok (.aload_n 0, 1) := by decide +kernel
theorem d_Reader_names_50 : decode s_Reader_names.2.1 50 = .ok (.dup, 1) := by decide +kernel
theorem d_Reader_names_51 : decode s_Reader_names.2.1 51 = .ok (.getfield 32, 3) := by decide +kernel
theorem d_Reader_names_54 : decode s_Reader_names.2.1 54 = .ok (.iconst 1, 1) := by decide +kernel
theorem d_Reader_names_55 : decode s_Reader_names.2.1 55 = .ok (.iadd, 1) := by decide +kernel
theorem d_Reader_names_56 : decode s_Reader_names.2.1 56 = .ok (.putfield 32, 3) := by decide +kernel
theorem d_Reader_names_59 : decode s_Reader_names.2.1 59 = .ok (.iinc 2 1, 3) := by decide +kernel
theorem d_Reader_names_62 : decode s_Reader_names.2.1 62 = .ok (.goto (-60), 3) := by decide +kernel
theorem d_Reader_names_65 : decode s_Reader_names.2.1 65 = .ok (.aload_n 0, 1) := by decide +kernel
theorem d_Reader_names_66 : decode s_Reader_names.2.1 66 = .ok (.invokevirtual 144, 3) := by decide +kernel
theorem d_Reader_names_69 : decode s_Reader_names.2.1 69 = .ok (.ireturn, 1) := by decide +kernel
theorem d_Reader_opening_0 : decode s_Reader_opening.2.1 0 = .ok (.aload_n 0, 1) := by decide +kernel
theorem d_Reader_opening_1 : decode s_Reader_opening.2.1 1 = .ok (.ldc 147, 2) := by decide +kernel
theorem d_Reader_opening_3 : decode s_Reader_opening.2.1 3 = .ok (.invokevirtual 149, 3) := by decide +kernel
theorem d_Reader_opening_6 : decode s_Reader_opening.2.1 6 = .ok (.ifCond .eq 12, 3) := by decide +kernel
theorem d_Reader_opening_9 : decode s_Reader_opening.2.1 9 = .ok (.aload_n 0, 1) := by decide +kernel
theorem d_Reader_opening_10 : decode s_Reader_opening.2.1 10 = .ok (.iconst 2, 1) := by decide +kernel
theorem d_Reader_opening_11 : decode s_Reader_opening.2.1 11 = .ok (.iconst 4, 1) := by decide +kernel
theorem d_Reader_opening_12 : decode s_Reader_opening.2.1 12 = .ok (.invokevirtual 152, 3) := by decide +kernel
theorem d_Reader_opening_15 : decode s_Reader_opening.2.1 15 = .ok (.ifCond .ne 5, 3) := by decide +kernel
theorem d_Reader_opening_18 : decode s_Reader_opening.2.1 18 = .ok (.iconst 0, 1) := by decide +kernel
theorem d_Reader_opening_19 : decode s_Reader_opening.2.1 19 = .ok (.ireturn, 1) := by decide +kernel
theorem d_Reader_opening_20 : decode s_Reader_opening.2.1 20 = .ok (.aload_n 0, 1) := by decide +kernel
theorem d_Reader_opening_21 : decode s_Reader_opening.2.1 21 = .ok (.getfield 12, 3) := by decide +kernel
theorem d_Reader_opening_24 : decode s_Reader_opening.2.1 24 = .ok (.aload_n 0, 1) := by decide +kernel
theorem d_Reader_opening_25 : decode s_Reader_opening.2.1 25 = .ok (.getfield 36, 3) := by decide +kernel
theorem d_Reader_opening_28 : decode s_Reader_opening.2.1 28 = .ok (.putfield 155, 3) := by decide +kernel
theorem d_Reader_opening_31 : decode s_Reader_opening.2.1 31 = .ok (.aload_n 0, 1) := by decide +kernel
theorem d_Reader_opening_32 : decode s_Reader_opening.2.1 32 = .ok (.ldc 157, 2) := by decide +kernel
theorem d_Reader_opening_34 : decode s_Reader_opening.2.1 34 = .ok (.invokevirtual 149, 3) := by decide +kernel
theorem d_Reader_opening_37 : decode s_Reader_opening.2.1 37 = .ok (.ifCond .eq 15, 3) := by decide +kernel
theorem d_Reader_opening_40 : decode s_Reader_opening.2.1 40 = .ok (.aload_n 0, 1) := by decide +kernel
theorem d_Reader_opening_41 : decode s_Reader_opening.2.1 41 = .ok (.iconst 0, 1) := by decide +kernel
theorem d_Reader_opening_42 : decode s_Reader_opening.2.1 42 = .ok (.invokevirtual 159, 3) := by decide +kernel
theorem d_Reader_opening_45 : decode s_Reader_opening.2.1 45 = .ok (.ifCond .eq 7, 3) := by decide +kernel
theorem d_Reader_opening_48 : decode s_Reader_opening.2.1 48 = .ok (.iconst 1, 1) := by decide +kernel
theorem d_Reader_opening_49 : decode s_Reader_opening.2.1 49 = .ok (.goto 4, 3) := by decide +kernel
theorem d_Reader_opening_52 : decode s_Reader_opening.2.1 52 = .ok (.iconst 0, 1) := by decide +kernel
theorem d_Reader_opening_53 : decode s_Reader_opening.2.1 53 = .ok (.ireturn, 1) := by decide +kernel
theorem d_Reader_isFree_0 : decode s_Reader_isFree.2.1 0 = .ok (.iload_n 1, 1) := by decide +kernel
theorem d_Reader_isFree_1 : decode s_Reader_isFree.2.1 1 = .ok (.ifCond .ne 12, 3) := by decide +kernel
theorem d_Reader_isFree_4 : decode s_Reader_isFree.2.1 4 = .ok (.aload_n 0, 1) := by decide +kernel
theorem d_Reader_isFree_5 : decode s_Reader_isFree.2.1 5 = .ok (.iconst 5, 1) := by decide +kernel
theorem d_Reader_isFree_6 : decode s_Reader_isFree.2.1 6 = .ok (.iload_n 2, 1) := by decide +kernel
theorem d_Reader_isFree_7 : decode s_Reader_isFree.2.1 7 = .ok (.invokevirtual 52, 3) := by decide +kernel
theorem d_Reader_isFree_10 : decode s_Reader_isFree.2.1 10 = .ok (.ifCond .eq 7, 3) := by decide +kernel
theorem d_Reader_isFree_13 : decode s_Reader_isFree.2.1 13 = .ok (.iconst 1, 1) := by decide +kernel
theorem d_Reader_isFree_14 : decode s_Reader_isFree.2.1 14 = .ok (.goto 4, 3) := by decide +kernel
theorem d_Reader_isFree_17 : decode s_Reader_isFree.2.1 17 = .ok (.iconst 0, 1) := by decide +kernel
theorem d_Reader_isFree_18 : decode s_Reader_isFree.2.1 18 = .ok (.ireturn, 1) := by decide +kernel
theorem d_Table_openNever_0 : decode s_Table_openNever.2.1 0 = .ok (.aload_n 0, 1) := by decide +kernel
theorem d_Table_openNever_1 : decode s_Table_openNever.2.1 1 = .ok (.getfield 35, 3) := by decide +kernel
theorem d_Table_openNever_4 : decode s_Table_openNever.2.1 4 = .ok (.iconst 4, 1) := by decide +kernel
theorem d_Table_openNever_5 : decode s_Table_openNever.2.1 5 = .ok (.if_icmp .ge 23, 3) := by decide +kernel
theorem d_Table_openNever_8 : decode s_Table_openNever.2.1 8 = .ok (.aload_n 0, 1) := by decide +kernel
theorem d_Table_openNever_9 : decode s_Table_openNever.2.1 9 = .ok (.getfield 38, 3) := by decide +kernel
theorem d_Table_openNever_12 : decode s_Table_openNever.2.1 12 = .ok (.aload_n 0, 1) := by decide +kernel
theorem d_Table_openNever_13 : decode s_Table_openNever.2.1 13 = .ok (.getfield 35, 3) := by decide +kernel
theorem d_Table_openNever_16 : decode s_Table_openNever.2.1 16 = .ok (.iconst 0, 1) := by decide +kernel
theorem d_Table_openNever_17 : decode s_Table_openNever.2.1 17 = .ok (.iastore, 1) := by decide +kernel
theorem d_Table_openNever_18 : decode s_Table_openNever.2.1 18 = .ok (.aload_n 0, 1) := by decide +kernel
theorem d_Table_openNever_19 : decode s_Table_openNever.2.1 19 = .ok (.dup, 1) := by decide +kernel
theorem d_Table_openNever_20 : decode s_Table_openNever.2.1 20 = .ok (.getfield 35, 3) := by decide +kernel
theorem d_Table_openNever_23 : decode s_Table_openNever.2.1 23 = .ok (.iconst 1, 1) := by decide +kernel
theorem d_Table_openNever_24 : decode s_Table_openNever.2.1 24 = .ok (.iadd, 1) := by decide +kernel
theorem d_Table_openNever_25 : decode s_Table_openNever.2.1 25 = .ok (.putfield 35, 3) := by decide +kernel
theorem d_Table_openNever_28 : decode s_Table_openNever.2.1 28 = .ok (.return_, 1) := by decide +kernel
theorem d_Reader_known_0 : decode s_Reader_known.2.1 0 = .ok (.aload_n 0, 1) := by decide +kernel
theorem d_Reader_known_1 : decode s_Reader_known.2.1 1 = .ok (.invokevirtual 122, 3) := by decide +kernel
theorem d_Reader_known_4 : decode s_Reader_known.2.1 4 = .ok (.ifCond .ne 5, 3) := by decide +kernel
theorem d_Reader_known_7 : decode s_Reader_known.2.1 7 = .ok (.iconst 0, 1) := by decide +kernel
theorem d_Reader_known_8 : decode s_Reader_known.2.1 8 = .ok (.ireturn, 1) := by decide +kernel
theorem d_Reader_known_9 : decode s_Reader_known.2.1 9 = .ok (.aload_n 0, 1) := by decide +kernel
theorem d_Reader_known_10 : decode s_Reader_known.2.1 10 = .ok (.aload_n 0, 1) := by decide +kernel
theorem d_Reader_known_11 : decode s_Reader_known.2.1 11 = .ok (.getfield 12, 3) := by decide +kernel
theorem d_Reader_known_14 : decode s_Reader_known.2.1 14 = .ok (.iload_n 1, 1) := by decide +kernel
theorem d_Reader_known_15 : decode s_Reader_known.2.1 15 = .ok (.aload_n 0, 1) := by decide +kernel
theorem d_Reader_known_16 : decode s_Reader_known.2.1 16 = .ok (.getfield 36, 3) := by decide +kernel
theorem d_Reader_known_19 : decode s_Reader_known.2.1 19 = .ok (.invokevirtual 125, 3) := by decide +kernel
theorem d_Reader_known_22 : decode s_Reader_known.2.1 22 = .ok (.putfield 36, 3) := by decide +kernel
theorem d_Reader_known_25 : decode s_Reader_known.2.1 25 = .ok (.aload_n 0, 1) := by decide +kernel
theorem d_Reader_known_26 : decode s_Reader_known.2.1 26 = .ok (.getfield 36, 3) := by decide +kernel
theorem d_Reader_known_29 : decode s_Reader_known.2.1 29 = .ok (.iconst (-1), 1) := by decide +kernel
theorem d_Reader_known_30 : decode s_Reader_known.2.1 30 = .ok (.if_icmp .ne 18, 3) := by decide +kernel
theorem d_Reader_known_33 : decode s_Reader_known.2.1 33 = .ok (.aload_n 0, 1) := by decide +kernel
theorem d_Reader_known_34 : decode s_Reader_known.2.1 34 = .ok (.iconst 3, 1) := by decide +kernel
theorem d_Reader_known_35 : decode s_Reader_known.2.1 35 = .ok (.aload_n 0, 1) := by decide +kernel
theorem d_Reader_known_36 : decode s_Reader_known.2.1 36 = .ok (.getfield 22, 3) := by decide +kernel
theorem d_Reader_known_39 : decode s_Reader_known.2.1 39 = .ok (.aload_n 0, 1) := by decide +kernel
theorem d_Reader_known_40 : decode s_Reader_known.2.1 40 = .ok (.getfield 32, 3) := by decide +kernel
theorem d_Reader_known_43 : decode s_Reader_known.2.1 43 = .ok (.iaload, 1) := by decide +kernel
theorem d_Reader_known_44 : decode s_Reader_known.2.1 44 = .ok (.invokevirtual 52, 3) := by decide +kernel
theorem d_Reader_known_47 : decode s_Reader_known.2.1 47 = .ok (.ireturn, 1) := by decide +kernel
theorem d_Reader_known_48 : decode s_Reader_known.2.1 48 = .ok (.aload_n 0, 1) := by decide +kernel
theorem d_Reader_known_49 : decode s_Reader_known.2.1 49 = .ok (.dup, 1) := by decide +kernel
theorem d_Reader_known_50 : decode s_Reader_known.2.1 50 = .ok (.getfield 32, 3) := by decide +kernel
theorem d_Reader_known_53 : decode s_Reader_known.2.1 53 = .ok (.iconst 1, 1) := by decide +kernel
theorem d_Reader_known_54 : decode s_Reader_known.2.1 54 = .ok (.iadd, 1) := by decide +kernel
theorem d_Reader_known_55 : decode s_Reader_known.2.1 55 = .ok (.putfield 32, 3) := by decide +kernel
theorem d_Reader_known_58 : decode s_Reader_known.2.1 58 = .ok (.iconst 1, 1) := by decide +kernel
theorem d_Reader_known_59 : decode s_Reader_known.2.1 59 = .ok (.ireturn, 1) := by decide +kernel
theorem d_Table_addCount_0 : decode s_Table_addCount.2.1 0 = .ok (.aload_n 0, 1) := by decide +kernel
theorem d_Table_addCount_1 : decode s_Table_addCount.2.1 1 = .ok (.getfield 35, 3) := by decide +kernel
theorem d_Table_addCount_4 : decode s_Table_addCount.2.1 4 = .ok (.iconst 1, 1) := by decide +kernel
theorem d_Table_addCount_5 : decode s_Table_addCount.2.1 5 = .ok (.isub, 1) := by decide +kernel
theorem d_Table_addCount_6 : decode s_Table_addCount.2.1 6 = .ok (.istore_n 3, 1) := by decide +kernel
theorem d_Table_addCount_7 : decode s_Table_addCount.2.1 7 = .ok (.iload_n 3, 1) := by decide +kernel
theorem d_Table_addCount_8 : decode s_Table_addCount.2.1 8 = .ok (.ifCond .lt 51, 3) := by decide +kernel
theorem d_Table_addCount_11 : decode s_Table_addCount.2.1 11 = .ok (.aload_n 0, 1) := by decide +kernel
theorem d_Table_addCount_12 : decode s_Table_addCount.2.1 12 = .ok (.getfield 38, 3) := by decide +kernel
theorem d_Table_addCount_15 : decode s_Table_addCount.2.1 15 = .ok (.iload_n 3, 1) := by decide +kernel
theorem d_Table_addCount_16 : decode s_Table_addCount.2.1 16 = .ok (.iaload, 1) := by decide +kernel
theorem d_Table_addCount_17 : decode s_Table_addCount.2.1 17 = .ok (.iconst 3, 1) := by decide +kernel
theorem d_Table_addCount_18 : decode s_Table_addCount.2.1 18 = .ok (.if_icmp .ge 41, 3) := by decide +kernel
theorem d_Table_addCount_21 : decode s_Table_addCount.2.1 21 = .ok (.iload_n 3, 1) := by decide +kernel
theorem d_Table_addCount_22 : decode s_Table_addCount.2.1 22 = .ok (.iconst 3, 1) := by decide +kernel
theorem d_Table_addCount_23 : decode s_Table_addCount.2.1 23 = .ok (.imul, 1) := by decide +kernel
theorem d_Table_addCount_24 : decode s_Table_addCount.2.1 24 = .ok (.aload_n 0, 1) := by decide +kernel
theorem d_Table_addCount_25 : decode s_Table_addCount.2.1 25 = .ok (.getfield 38, 3) := by decide +kernel
theorem d_Table_addCount_28 : decode s_Table_addCount.2.1 28 = .ok (.iload_n 3, 1) := by decide +kernel
theorem d_Table_addCount_29 : decode s_Table_addCount.2.1 29 = .ok (.iaload, 1) := by decide +kernel
theorem d_Table_addCount_30 : decode s_Table_addCount.2.1 30 = .ok (.iadd, 1) := by decide +kernel
theorem d_Table_addCount_31 : decode s_Table_addCount.2.1 31 = .ok (.istore 4, 2) := by decide +kernel
theorem d_Table_addCount_33 : decode s_Table_addCount.2.1 33 = .ok (.aload_n 0, 1) := by decide +kernel
theorem d_Table_addCount_34 : decode s_Table_addCount.2.1 34 = .ok (.getfield 41, 3) := by decide +kernel
theorem d_Table_addCount_37 : decode s_Table_addCount.2.1 37 = .ok (.iload 4, 2) := by decide +kernel
theorem d_Table_addCount_39 : decode s_Table_addCount.2.1 39 = .ok (.iload_n 1, 1) := by decide +kernel
theorem d_Table_addCount_40 : decode s_Table_addCount.2.1 40 = .ok (.iastore, 1) := by decide +kernel
theorem d_Table_addCount_41 : decode s_Table_addCount.2.1 41 = .ok (.aload_n 0, 1) := by decide +kernel
theorem d_Table_addCount_42 : decode s_Table_addCount.2.1 42 = .ok (.getfield 44, 3) := by decide +kernel
theorem d_Table_addCount_45 : decode s_Table_addCount.2.1 45 = .ok (.iload 4, 2) := by decide +kernel
theorem d_Table_addCount_47 : decode s_Table_addCount.2.1 47 = .ok (.iload_n 2, 1) := by decide +kernel
theorem d_Table_addCount_48 : decode s_Table_addCount.2.1 48 = .ok (.iastore, 1) := by decide +kernel
theorem d_Table_addCount_49 : decode s_Table_addCount.2.1 49 = .ok (.aload_n 0, 1) := by decide +kernel
theorem d_Table_addCount_50 : decode s_Table_addCount.2.1 50 = .ok (.getfield 38, 3) := by decide +kernel
theorem d_Table_addCount_53 : decode s_Table_addCount.2.1 53 = .ok (.iload_n 3, 1) := by decide +kernel
theorem d_Table_addCount_54 : decode s_Table_addCount.2.1 54 = .ok (.dup2, 1) := by decide +kernel
theorem d_Table_addCount_55 : decode s_Table_addCount.2.1 55 = .ok (.iaload, 1) := by decide +kernel
theorem d_Table_addCount_56 : decode s_Table_addCount.2.1 56 = .ok (.iconst 1, 1) := by decide +kernel
theorem d_Table_addCount_57 : decode s_Table_addCount.2.1 57 = .ok (.iadd, 1) := by decide +kernel
theorem d_Table_addCount_58 : decode s_Table_addCount.2.1 58 = .ok (.iastore, 1) := by decide +kernel
theorem d_Table_addCount_59 : decode s_Table_addCount.2.1 59 = .ok (.return_, 1) := by decide +kernel
theorem d_Reader_never_0 : decode s_Reader_never.2.1 0 = .ok (.aload_n 0, 1) := by decide +kernel
theorem d_Reader_never_1 : decode s_Reader_never.2.1 1 = .ok (.getfield 12, 3) := by decide +kernel
theorem d_Reader_never_4 : decode s_Reader_never.2.1 4 = .ok (.invokevirtual 213, 3) := by decide +kernel
theorem d_Reader_never_7 : decode s_Reader_never.2.1 7 = .ok (.iconst 0, 1) := by decide +kernel
theorem d_Reader_never_8 : decode s_Reader_never.2.1 8 = .ok (.istore_n 1, 1) := by decide +kernel
theorem d_Reader_never_9 : decode s_Reader_never.2.1 9 = .ok (.iload_n 1, 1) := by decide +kernel
theorem d_Reader_never_10 : decode s_Reader_never.2.1 10 = .ok (.iconst 3, 1) := by decide +kernel
theorem d_Reader_never_11 : decode s_Reader_never.2.1 11 = .ok (.if_icmp .ge 58, 3) := by decide +kernel
theorem d_Reader_never_14 : decode s_Reader_never.2.1 14 = .ok (.aload_n 0, 1) := by decide +kernel
theorem d_Reader_never_15 : decode s_Reader_never.2.1 15 = .ok (.iconst 1, 1) := by decide +kernel
theorem d_Reader_never_16 : decode s_Reader_never.2.1 16 = .ok (.iconst 4, 1) := by decide +kernel
theorem d_Reader_never_17 : decode s_Reader_never.2.1 17 = .ok (.invokevirtual 152, 3) := by decide +kernel
theorem d_Reader_never_20 : decode s_Reader_never.2.1 20 = .ok (.ifCond .ne 5, 3) := by decide +kernel
theorem d_Reader_never_23 : decode s_Reader_never.2.1 23 = .ok (.iconst 0, 1) := by decide +kernel
theorem d_Reader_never_24 : decode s_Reader_never.2.1 24 = .ok (.ireturn, 1) := by decide +kernel
theorem d_Reader_never_25 : decode s_Reader_never.2.1 25 = .ok (.aload_n 0, 1) := by decide +kernel
theorem d_Reader_never_26 : decode s_Reader_never.2.1 26 = .ok (.getfield 36, 3) := by decide +kernel
theorem d_Reader_never_29 : decode s_Reader_never.2.1 29 = .ok (.istore_n 2, 1) := by decide +kernel
theorem d_Reader_never_30 : decode s_Reader_never.2.1 30 = .ok (.aload_n 0, 1) := by decide +kernel
theorem d_Reader_never_31 : decode s_Reader_never.2.1 31 = .ok (.iconst 0, 1) := by decide +kernel
theorem d_Reader_never_32 : decode s_Reader_never.2.1 32 = .ok (.invokevirtual 136, 3) := by decide +kernel
theorem d_Reader_never_35 : decode s_Reader_never.2.1 35 = .ok (.ifCond .ne 5, 3) := by decide +kernel
theorem d_Reader_never_38 : decode s_Reader_never.2.1 38 = .ok (.iconst 0, 1) := by decide +kernel
theorem d_Reader_never_39 : decode s_Reader_never.2.1 39 = .ok (.ireturn, 1) := by decide +kernel
theorem d_Reader_never_40 : decode s_Reader_never.2.1 40 = .ok (.aload_n 0, 1) := by decide +kernel
theorem d_Reader_never_41 : decode s_Reader_never.2.1 41 = .ok (.getfield 12, 3) := by decide +kernel
theorem d_Reader_never_44 : decode s_Reader_never.2.1 44 = .ok (.iload_n 2, 1) := by decide +kernel
theorem d_Reader_never_45 : decode s_Reader_never.2.1 45 = .ok (.aload_n 0, 1) := by decide +kernel
theorem d_Reader_never_46 : decode s_Reader_never.2.1 46 = .ok (.getfield 36, 3) := by decide +kernel
theorem d_Reader_never_49 : decode s_Reader_never.2.1 49 = .ok (.invokevirtual 216, 3) := by decide +kernel
theorem d_Reader_never_52 : decode s_Reader_never.2.1 52 = .ok (.aload_n 0, 1) := by decide +kernel
theorem d_Reader_never_53 : decode s_Reader_never.2.1 53 = .ok (.ldc 219, 2) := by decide +kernel
theorem d_Reader_never_55 : decode s_Reader_never.2.1 55 = .ok (.invokevirtual 119, 3) := by decide +kernel
theorem d_Reader_never_58 : decode s_Reader_never.2.1 58 = .ok (.ifCond .ne 5, 3) := by decide +kernel
theorem d_Reader_never_61 : decode s_Reader_never.2.1 61 = .ok (.iconst 1, 1) := by decide +kernel
theorem d_Reader_never_62 : decode s_Reader_never.2.1 62 = .ok (.ireturn, 1) := by decide +kernel
theorem d_Reader_never_63 : decode s_Reader_never.2.1 63 = .ok (.iinc 1 1, 3) := by decide +kernel
theorem d_Reader_never_66 : decode s_Reader_never.2.1 66 = .ok (.goto (-57), 3) := by decide +kernel
theorem d_Reader_never_69 : decode s_Reader_never.2.1 69 = .ok (.aload_n 0, 1) := by decide +kernel
theorem d_Reader_never_70 : decode s_Reader_never.2.1 70 = .ok (.invokevirtual 144, 3) := by decide +kernel
theorem d_Reader_never_73 : decode s_Reader_never.2.1 73 = .ok (.ireturn, 1) := by decide +kernel
theorem d_Reader_wants_0 : decode s_Reader_wants.2.1 0 = .ok (.aload_n 0, 1) := by decide +kernel
theorem d_Reader_wants_1 : decode s_Reader_wants.2.1 1 = .ok (.iconst 0, 1) := by decide +kernel
theorem d_Reader_wants_2 : decode s_Reader_wants.2.1 2 = .ok (.invokevirtual 136, 3) := by decide +kernel
theorem d_Reader_wants_5 : decode s_Reader_wants.2.1 5 = .ok (.ifCond .ne 5, 3) := by decide +kernel
theorem d_Reader_wants_8 : decode s_Reader_wants.2.1 8 = .ok (.iconst 0, 1) := by decide +kernel
theorem d_Reader_wants_9 : decode s_Reader_wants.2.1 9 = .ok (.ireturn, 1) := by decide +kernel
theorem d_Reader_wants_10 : decode s_Reader_wants.2.1 10 = .ok (.aload_n 0, 1) := by decide +kernel
theorem d_Reader_wants_11 : decode s_Reader_wants.2.1 11 = .ok (.getfield 12, 3) := by decide +kernel
theorem d_Reader_wants_14 : decode s_Reader_wants.2.1 14 = .ok (.aload_n 0, 1) := by decide +kernel
theorem d_Reader_wants_15 : decode s_Reader_wants.2.1 15 = .ok (.getfield 36, 3) := by decide +kernel
theorem d_Reader_wants_18 : decode s_Reader_wants.2.1 18 = .ok (.putfield 191, 3) := by decide +kernel
theorem d_Reader_wants_21 : decode s_Reader_wants.2.1 21 = .ok (.aload_n 0, 1) := by decide +kernel
theorem d_Reader_wants_22 : decode s_Reader_wants.2.1 22 = .ok (.iconst 0, 1) := by decide +kernel
theorem d_Reader_wants_23 : decode s_Reader_wants.2.1 23 = .ok (.invokevirtual 136, 3) := by decide +kernel
theorem d_Reader_wants_26 : decode s_Reader_wants.2.1 26 = .ok (.ifCond .ne 5, 3) := by decide +kernel
theorem d_Reader_wants_29 : decode s_Reader_wants.2.1 29 = .ok (.iconst 0, 1) := by decide +kernel
theorem d_Reader_wants_30 : decode s_Reader_wants.2.1 30 = .ok (.ireturn, 1) := by decide +kernel
theorem d_Reader_wants_31 : decode s_Reader_wants.2.1 31 = .ok (.aload_n 0, 1) := by decide +kernel
theorem d_Reader_wants_32 : decode s_Reader_wants.2.1 32 = .ok (.getfield 12, 3) := by decide +kernel
theorem d_Reader_wants_35 : decode s_Reader_wants.2.1 35 = .ok (.aload_n 0, 1) := by decide +kernel
theorem d_Reader_wants_36 : decode s_Reader_wants.2.1 36 = .ok (.getfield 36, 3) := by decide +kernel
theorem d_Reader_wants_39 : decode s_Reader_wants.2.1 39 = .ok (.putfield 221, 3) := by decide +kernel
theorem d_Reader_wants_42 : decode s_Reader_wants.2.1 42 = .ok (.iconst 1, 1) := by decide +kernel
theorem d_Reader_wants_43 : decode s_Reader_wants.2.1 43 = .ok (.ireturn, 1) := by decide +kernel
theorem d_Math_min_0 : decode s_Math_min.2.1 0 = .ok (.iload_n 0, 1) := by decide +kernel
theorem d_Math_min_1 : decode s_Math_min.2.1 1 = .ok (.iload_n 1, 1) := by decide +kernel
theorem d_Math_min_2 : decode s_Math_min.2.1 2 = .ok (.if_icmp .gt 7, 3) := by decide +kernel
theorem d_Math_min_5 : decode s_Math_min.2.1 5 = .ok (.iload_n 0, 1) := by decide +kernel
theorem d_Math_min_6 : decode s_Math_min.2.1 6 = .ok (.goto 4, 3) := by decide +kernel
theorem d_Math_min_9 : decode s_Math_min.2.1 9 = .ok (.iload_n 1, 1) := by decide +kernel
theorem d_Math_min_10 : decode s_Math_min.2.1 10 = .ok (.ireturn, 1) := by decide +kernel
theorem d_Row_clear_0 : decode s_Row_clear.2.1 0 = .ok (.aload_n 0, 1) := by decide +kernel
theorem d_Row_clear_1 : decode s_Row_clear.2.1 1 = .ok (.iload_n 1, 1) := by decide +kernel
theorem d_Row_clear_2 : decode s_Row_clear.2.1 2 = .ok (.putfield 9, 3) := by decide +kernel
theorem d_Row_clear_5 : decode s_Row_clear.2.1 5 = .ok (.aload_n 0, 1) := by decide +kernel
theorem d_Row_clear_6 : decode s_Row_clear.2.1 6 = .ok (.iconst (-1), 1) := by decide +kernel
theorem d_Row_clear_7 : decode s_Row_clear.2.1 7 = .ok (.putfield 15, 3) := by decide +kernel
theorem d_Row_clear_10 : decode s_Row_clear.2.1 10 = .ok (.aload_n 0, 1) := by decide +kernel
theorem d_Row_clear_11 : decode s_Row_clear.2.1 11 = .ok (.iconst (-1), 1) := by decide +kernel
theorem d_Row_clear_12 : decode s_Row_clear.2.1 12 = .ok (.putfield 19, 3) := by decide +kernel
theorem d_Row_clear_15 : decode s_Row_clear.2.1 15 = .ok (.aload_n 0, 1) := by decide +kernel
theorem d_Row_clear_16 : decode s_Row_clear.2.1 16 = .ok (.iconst (-1), 1) := by decide +kernel
theorem d_Row_clear_17 : decode s_Row_clear.2.1 17 = .ok (.putfield 22, 3) := by decide +kernel
theorem d_Row_clear_20 : decode s_Row_clear.2.1 20 = .ok (.aload_n 0, 1) := by decide +kernel
theorem d_Row_clear_21 : decode s_Row_clear.2.1 21 = .ok (.iconst (-1), 1) := by decide +kernel
theorem d_Row_clear_22 : decode s_Row_clear.2.1 22 = .ok (.putfield 25, 3) := by decide +kernel
theorem d_Row_clear_25 : decode s_Row_clear.2.1 25 = .ok (.aload_n 0, 1) := by decide +kernel
theorem d_Row_clear_26 : decode s_Row_clear.2.1 26 = .ok (.iconst (-1), 1) := by decide +kernel
theorem d_Row_clear_27 : decode s_Row_clear.2.1 27 = .ok (.putfield 28, 3) := by decide +kernel
theorem d_Row_clear_30 : decode s_Row_clear.2.1 30 = .ok (.aload_n 0, 1) := by decide +kernel
theorem d_Row_clear_31 : decode s_Row_clear.2.1 31 = .ok (.iconst (-1), 1) := by decide +kernel
theorem d_Row_clear_32 : decode s_Row_clear.2.1 32 = .ok (.putfield 31, 3) := by decide +kernel
theorem d_Row_clear_35 : decode s_Row_clear.2.1 35 = .ok (.aload_n 0, 1) := by decide +kernel
theorem d_Row_clear_36 : decode s_Row_clear.2.1 36 = .ok (.iconst 0, 1) := by decide +kernel
theorem d_Row_clear_37 : decode s_Row_clear.2.1 37 = .ok (.putfield 34, 3) := by decide +kernel
theorem d_Row_clear_40 : decode s_Row_clear.2.1 40 = .ok (.return_, 1) := by decide +kernel
theorem d_Table_newRow_0 : decode s_Table_newRow.2.1 0 = .ok (.aload_n 0, 1) := by decide +kernel
theorem d_Table_newRow_1 : decode s_Table_newRow.2.1 1 = .ok (.getfield 26, 3) := by decide +kernel
theorem d_Table_newRow_4 : decode s_Table_newRow.2.1 4 = .ok (.bipush 15, 2) := by decide +kernel
theorem d_Table_newRow_6 : decode s_Table_newRow.2.1 6 = .ok (.invokestatic 64, 3) := by decide +kernel
theorem d_Table_newRow_9 : decode s_Table_newRow.2.1 9 = .ok (.istore_n 2, 1) := by decide +kernel
theorem d_Table_newRow_10 : decode s_Table_newRow.2.1 10 = .ok (.aload_n 0, 1) := by decide +kernel
theorem d_Table_newRow_11 : decode s_Table_newRow.2.1 11 = .ok (.getfield 31, 3) := by decide +kernel
theorem d_Table_newRow_14 : decode s_Table_newRow.2.1 14 = .ok (.iload_n 2, 1) := by decide +kernel
theorem d_Table_newRow_15 : decode s_Table_newRow.2.1 15 = .ok (.aaload, 1) := by decide +kernel
theorem d_Table_newRow_16 : decode s_Table_newRow.2.1 16 = .ok (.iload_n 1, 1) := by decide +kernel
theorem d_Table_newRow_17 : decode s_Table_newRow.2.1 17 = .ok (.invokevirtual 69, 3) := by decide +kernel
theorem d_Table_newRow_20 : decode s_Table_newRow.2.1 20 = .ok (.aload_n 0, 1) := by decide +kernel
theorem d_Table_newRow_21 : decode s_Table_newRow.2.1 21 = .ok (.iload_n 2, 1) := by decide +kernel
theorem d_Table_newRow_22 : decode s_Table_newRow.2.1 22 = .ok (.iconst 1, 1) := by decide +kernel
theorem d_Table_newRow_23 : decode s_Table_newRow.2.1 23 = .ok (.iadd, 1) := by decide +kernel
theorem d_Table_newRow_24 : decode s_Table_newRow.2.1 24 = .ok (.putfield 26, 3) := by decide +kernel
theorem d_Table_newRow_27 : decode s_Table_newRow.2.1 27 = .ok (.aload_n 0, 1) := by decide +kernel
theorem d_Table_newRow_28 : decode s_Table_newRow.2.1 28 = .ok (.getfield 31, 3) := by decide +kernel
theorem d_Table_newRow_31 : decode s_Table_newRow.2.1 31 = .ok (.iload_n 2, 1) := by decide +kernel
theorem d_Table_newRow_32 : decode s_Table_newRow.2.1 32 = .ok (.aaload, 1) := by decide +kernel
theorem d_Table_newRow_33 : decode s_Table_newRow.2.1 33 = .ok (.areturn, 1) := by decide +kernel
theorem d_Reader_maybe_0 : decode s_Reader_maybe.2.1 0 = .ok (.aload_n 0, 1) := by decide +kernel
theorem d_Reader_maybe_1 : decode s_Reader_maybe.2.1 1 = .ok (.iconst (-1), 1) := by decide +kernel
theorem d_Reader_maybe_2 : decode s_Reader_maybe.2.1 2 = .ok (.putfield 36, 3) := by decide +kernel
theorem d_Reader_maybe_5 : decode s_Reader_maybe.2.1 5 = .ok (.aload_n 0, 1) := by decide +kernel
theorem d_Reader_maybe_6 : decode s_Reader_maybe.2.1 6 = .ok (.aload_n 1, 1) := by decide +kernel
theorem d_Reader_maybe_7 : decode s_Reader_maybe.2.1 7 = .ok (.invokevirtual 119, 3) := by decide +kernel
theorem d_Reader_maybe_10 : decode s_Reader_maybe.2.1 10 = .ok (.ifCond .eq 11, 3) := by decide +kernel
theorem d_Reader_maybe_13 : decode s_Reader_maybe.2.1 13 = .ok (.aload_n 0, 1) := by decide +kernel
theorem d_Reader_maybe_14 : decode s_Reader_maybe.2.1 14 = .ok (.iload_n 2, 1) := by decide +kernel
theorem d_Reader_maybe_15 : decode s_Reader_maybe.2.1 15 = .ok (.invokevirtual 136, 3) := by decide +kernel
theorem d_Reader_maybe_18 : decode s_Reader_maybe.2.1 18 = .ok (.ifCond .eq 7, 3) := by decide +kernel
theorem d_Reader_maybe_21 : decode s_Reader_maybe.2.1 21 = .ok (.iconst 1, 1) := by decide +kernel
theorem d_Reader_maybe_22 : decode s_Reader_maybe.2.1 22 = .ok (.goto 4, 3) := by decide +kernel
theorem d_Reader_maybe_25 : decode s_Reader_maybe.2.1 25 = .ok (.iconst 0, 1) := by decide +kernel
theorem d_Reader_maybe_26 : decode s_Reader_maybe.2.1 26 = .ok (.ireturn, 1) := by decide +kernel
theorem d_Reader_agentRow_0 : decode s_Reader_agentRow.2.1 0 = .ok (.aload_n 0, 1) := by decide +kernel
theorem d_Reader_agentRow_1 : decode s_Reader_agentRow.2.1 1 = .ok (.iconst 0, 1) := by decide +kernel
theorem d_Reader_agentRow_2 : decode s_Reader_agentRow.2.1 2 = .ok (.invokevirtual 136, 3) := by decide +kernel
theorem d_Reader_agentRow_5 : decode s_Reader_agentRow.2.1 5 = .ok (.ifCond .ne 5, 3) := by decide +kernel
theorem d_Reader_agentRow_8 : decode s_Reader_agentRow.2.1 8 = .ok (.iconst 0, 1) := by decide +kernel
theorem d_Reader_agentRow_9 : decode s_Reader_agentRow.2.1 9 = .ok (.ireturn, 1) := by decide +kernel
theorem d_Reader_agentRow_10 : decode s_Reader_agentRow.2.1 10 = .ok (.aload_n 1, 1) := by decide +kernel
theorem d_Reader_agentRow_11 : decode s_Reader_agentRow.2.1 11 = .ok (.aload_n 0, 1) := by decide +kernel
theorem d_Reader_agentRow_12 : decode s_Reader_agentRow.2.1 12 = .ok (.getfield 36, 3) := by decide +kernel
theorem d_Reader_agentRow_15 : decode s_Reader_agentRow.2.1 15 = .ok (.putfield 224, 3) := by decide +kernel
theorem d_Reader_agentRow_18 : decode s_Reader_agentRow.2.1 18 = .ok (.aload_n 0, 1) := by decide +kernel
theorem d_Reader_agentRow_19 : decode s_Reader_agentRow.2.1 19 = .ok (.ldc 229, 2) := by decide +kernel
theorem d_Reader_agentRow_21 : decode s_Reader_agentRow.2.1 21 = .ok (.iconst 2, 1) := by decide +kernel
theorem d_Reader_agentRow_22 : decode s_Reader_agentRow.2.1 22 = .ok (.invokevirtual 231, 3) := by decide +kernel
theorem d_Reader_agentRow_25 : decode s_Reader_agentRow.2.1 25 = .ok (.ifCond .ne 5, 3) := by decide +kernel
theorem d_Reader_agentRow_28 : decode s_Reader_agentRow.2.1 28 = .ok (.iconst 0, 1) := by decide +kernel
theorem d_Reader_agentRow_29 : decode s_Reader_agentRow.2.1 29 = .ok (.ireturn, 1) := by decide +kernel
theorem d_Reader_agentRow_30 : decode s_Reader_agentRow.2.1 30 = .ok (.aload_n 1, 1) := by decide +kernel
theorem d_Reader_agentRow_31 : decode s_Reader_agentRow.2.1 31 = .ok (.aload_n 0, 1) := by decide +kernel
theorem d_Reader_agentRow_32 : decode s_Reader_agentRow.2.1 32 = .ok (.getfield 36, 3) := by decide +kernel
theorem d_Reader_agentRow_35 : decode s_Reader_agentRow.2.1 35 = .ok (.putfield 235, 3) := by decide +kernel
theorem d_Reader_agentRow_38 : decode s_Reader_agentRow.2.1 38 = .ok (.aload_n 0, 1) := by decide +kernel
theorem d_Reader_agentRow_39 : decode s_Reader_agentRow.2.1 39 = .ok (.ldc 237, 2) := by decide +kernel
theorem d_Reader_agentRow_41 : decode s_Reader_agentRow.2.1 41 = .ok (.invokevirtual 149, 3) := by decide +kernel
theorem d_Reader_agentRow_44 : decode s_Reader_agentRow.2.1 44 = .ok (.ifCond .eq 11, 3) := by decide +kernel
theorem d_Reader_agentRow_47 : decode s_Reader_agentRow.2.1 47 = .ok (.aload_n 0, 1) := by decide +kernel
theorem d_Reader_agentRow_48 : decode s_Reader_agentRow.2.1 48 = .ok (.iconst 0, 1) := by decide +kernel
theorem d_Reader_agentRow_49 : decode s_Reader_agentRow.2.1 49 = .ok (.invokevirtual 136, 3) := by decide +kernel
theorem d_Reader_agentRow_52 : decode s_Reader_agentRow.2.1 52 = .ok (.ifCond .ne 5, 3) := by decide +kernel
theorem d_Reader_agentRow_55 : decode s_Reader_agentRow.2.1 55 = .ok (.iconst 0, 1) := by decide +kernel
theorem d_Reader_agentRow_56 : decode s_Reader_agentRow.2.1 56 = .ok (.ireturn, 1) := by decide +kernel
theorem d_Reader_agentRow_57 : decode s_Reader_agentRow.2.1 57 = .ok (.aload_n 1, 1) := by decide +kernel
theorem d_Reader_agentRow_58 : decode s_Reader_agentRow.2.1 58 = .ok (.aload_n 0, 1) := by decide +kernel
theorem d_Reader_agentRow_59 : decode s_Reader_agentRow.2.1 59 = .ok (.getfield 36, 3) := by decide +kernel
theorem d_Reader_agentRow_62 : decode s_Reader_agentRow.2.1 62 = .ok (.putfield 239, 3) := by decide +kernel
theorem d_Reader_agentRow_65 : decode s_Reader_agentRow.2.1 65 = .ok (.aload_n 0, 1) := by decide +kernel
theorem d_Reader_agentRow_66 : decode s_Reader_agentRow.2.1 66 = .ok (.ldc 241, 2) := by decide +kernel
theorem d_Reader_agentRow_68 : decode s_Reader_agentRow.2.1 68 = .ok (.iconst 2, 1) := by decide +kernel
theorem d_Reader_agentRow_69 : decode s_Reader_agentRow.2.1 69 = .ok (.invokevirtual 231, 3) := by decide +kernel
theorem d_Reader_agentRow_72 : decode s_Reader_agentRow.2.1 72 = .ok (.ifCond .ne 5, 3) := by decide +kernel
theorem d_Reader_agentRow_75 : decode s_Reader_agentRow.2.1 75 = .ok (.iconst 0, 1) := by decide +kernel
theorem d_Reader_agentRow_76 : decode s_Reader_agentRow.2.1 76 = .ok (.ireturn, 1) := by decide +kernel
theorem d_Reader_agentRow_77 : decode s_Reader_agentRow.2.1 77 = .ok (.aload_n 1, 1) := by decide +kernel
theorem d_Reader_agentRow_78 : decode s_Reader_agentRow.2.1 78 = .ok (.aload_n 0, 1) := by decide +kernel
theorem d_Reader_agentRow_79 : decode s_Reader_agentRow.2.1 79 = .ok (.getfield 36, 3) := by decide +kernel
theorem d_Reader_agentRow_82 : decode s_Reader_agentRow.2.1 82 = .ok (.putfield 243, 3) := by decide +kernel
theorem d_Reader_agentRow_85 : decode s_Reader_agentRow.2.1 85 = .ok (.iconst 1, 1) := by decide +kernel
theorem d_Reader_agentRow_86 : decode s_Reader_agentRow.2.1 86 = .ok (.ireturn, 1) := by decide +kernel
theorem d_Reader_homeRow_0 : decode s_Reader_homeRow.2.1 0 = .ok (.aload_n 0, 1) := by decide +kernel
theorem d_Reader_homeRow_1 : decode s_Reader_homeRow.2.1 1 = .ok (.iconst 1, 1) := by decide +kernel
theorem d_Reader_homeRow_2 : decode s_Reader_homeRow.2.1 2 = .ok (.invokevirtual 136, 3) := by decide +kernel
theorem d_Reader_homeRow_5 : decode s_Reader_homeRow.2.1 5 = .ok (.ifCond .ne 5, 3) := by decide +kernel
theorem d_Reader_homeRow_8 : decode s_Reader_homeRow.2.1 8 = .ok (.iconst 0, 1) := by decide +kernel
theorem d_Reader_homeRow_9 : decode s_Reader_homeRow.2.1 9 = .ok (.ireturn, 1) := by decide +kernel
theorem d_Reader_homeRow_10 : decode s_Reader_homeRow.2.1 10 = .ok (.aload_n 1, 1) := by decide +kernel
theorem d_Reader_homeRow_11 : decode s_Reader_homeRow.2.1 11 = .ok (.aload_n 0, 1) := by decide +kernel
theorem d_Reader_homeRow_12 : decode s_Reader_homeRow.2.1 12 = .ok (.getfield 36, 3) := by decide +kernel
theorem d_Reader_homeRow_15 : decode s_Reader_homeRow.2.1 15 = .ok (.putfield 224, 3) := by decide +kernel
theorem d_Reader_homeRow_18 : decode s_Reader_homeRow.2.1 18 = .ok (.aload_n 0, 1) := by decide +kernel
theorem d_Reader_homeRow_19 : decode s_Reader_homeRow.2.1 19 = .ok (.ldc 229, 2) := by decide +kernel
theorem d_Reader_homeRow_21 : decode s_Reader_homeRow.2.1 21 = .ok (.invokevirtual 149, 3) := by decide +kernel
theorem d_Reader_homeRow_24 : decode s_Reader_homeRow.2.1 24 = .ok (.ifCond .eq 11, 3) := by decide +kernel
theorem d_Reader_homeRow_27 : decode s_Reader_homeRow.2.1 27 = .ok (.aload_n 0, 1) := by decide +kernel
theorem d_Reader_homeRow_28 : decode s_Reader_homeRow.2.1 28 = .ok (.iconst 2, 1) := by decide +kernel
theorem d_Reader_homeRow_29 : decode s_Reader_homeRow.2.1 29 = .ok (.invokevirtual 136, 3) := by decide +kernel
theorem d_Reader_homeRow_32 : decode s_Reader_homeRow.2.1 32 = .ok (.ifCond .ne 5, 3) := by decide +kernel
theorem d_Reader_homeRow_35 : decode s_Reader_homeRow.2.1 35 = .ok (.iconst 0, 1) := by decide +kernel
theorem d_Reader_homeRow_36 : decode s_Reader_homeRow.2.1 36 = .ok (.ireturn, 1) := by decide +kernel
theorem d_Reader_homeRow_37 : decode s_Reader_homeRow.2.1 37 = .ok (.aload_n 1, 1) := by decide +kernel
theorem d_Reader_homeRow_38 : decode s_Reader_homeRow.2.1 38 = .ok (.aload_n 0, 1) := by decide +kernel
theorem d_Reader_homeRow_39 : decode s_Reader_homeRow.2.1 39 = .ok (.getfield 36, 3) := by decide +kernel
theorem d_Reader_homeRow_42 : decode s_Reader_homeRow.2.1 42 = .ok (.putfield 235, 3) := by decide +kernel
theorem d_Reader_homeRow_45 : decode s_Reader_homeRow.2.1 45 = .ok (.aload_n 0, 1) := by decide +kernel
theorem d_Reader_homeRow_46 : decode s_Reader_homeRow.2.1 46 = .ok (.ldc 237, 2) := by decide +kernel
theorem d_Reader_homeRow_48 : decode s_Reader_homeRow.2.1 48 = .ok (.invokevirtual 149, 3) := by decide +kernel
theorem d_Reader_homeRow_51 : decode s_Reader_homeRow.2.1 51 = .ok (.ifCond .eq 11, 3) := by decide +kernel
theorem d_Reader_homeRow_54 : decode s_Reader_homeRow.2.1 54 = .ok (.aload_n 0, 1) := by decide +kernel
theorem d_Reader_homeRow_55 : decode s_Reader_homeRow.2.1 55 = .ok (.iconst 1, 1) := by decide +kernel
theorem d_Reader_homeRow_56 : decode s_Reader_homeRow.2.1 56 = .ok (.invokevirtual 136, 3) := by decide +kernel
theorem d_Reader_homeRow_59 : decode s_Reader_homeRow.2.1 59 = .ok (.ifCond .ne 5, 3) := by decide +kernel
theorem d_Reader_homeRow_62 : decode s_Reader_homeRow.2.1 62 = .ok (.iconst 0, 1) := by decide +kernel
theorem d_Reader_homeRow_63 : decode s_Reader_homeRow.2.1 63 = .ok (.ireturn, 1) := by decide +kernel
theorem d_Reader_homeRow_64 : decode s_Reader_homeRow.2.1 64 = .ok (.aload_n 1, 1) := by decide +kernel
theorem d_Reader_homeRow_65 : decode s_Reader_homeRow.2.1 65 = .ok (.aload_n 0, 1) := by decide +kernel
theorem d_Reader_homeRow_66 : decode s_Reader_homeRow.2.1 66 = .ok (.getfield 36, 3) := by decide +kernel
theorem d_Reader_homeRow_69 : decode s_Reader_homeRow.2.1 69 = .ok (.putfield 239, 3) := by decide +kernel
theorem d_Reader_homeRow_72 : decode s_Reader_homeRow.2.1 72 = .ok (.aload_n 0, 1) := by decide +kernel
theorem d_Reader_homeRow_73 : decode s_Reader_homeRow.2.1 73 = .ok (.ldc 246, 2) := by decide +kernel
theorem d_Reader_homeRow_75 : decode s_Reader_homeRow.2.1 75 = .ok (.iconst 2, 1) := by decide +kernel
theorem d_Reader_homeRow_76 : decode s_Reader_homeRow.2.1 76 = .ok (.invokevirtual 231, 3) := by decide +kernel
theorem d_Reader_homeRow_79 : decode s_Reader_homeRow.2.1 79 = .ok (.ifCond .ne 5, 3) := by decide +kernel
theorem d_Reader_homeRow_82 : decode s_Reader_homeRow.2.1 82 = .ok (.iconst 0, 1) := by decide +kernel
theorem d_Reader_homeRow_83 : decode s_Reader_homeRow.2.1 83 = .ok (.ireturn, 1) := by decide +kernel
theorem d_Reader_homeRow_84 : decode s_Reader_homeRow.2.1 84 = .ok (.aload_n 1, 1) := by decide +kernel
theorem d_Reader_homeRow_85 : decode s_Reader_homeRow.2.1 85 = .ok (.aload_n 0, 1) := by decide +kernel
theorem d_Reader_homeRow_86 : decode s_Reader_homeRow.2.1 86 = .ok (.getfield 36, 3) := by decide +kernel
theorem d_Reader_homeRow_89 : decode s_Reader_homeRow.2.1 89 = .ok (.putfield 243, 3) := by decide +kernel
theorem d_Reader_homeRow_92 : decode s_Reader_homeRow.2.1 92 = .ok (.aload_n 0, 1) := by decide +kernel
theorem d_Reader_homeRow_93 : decode s_Reader_homeRow.2.1 93 = .ok (.ldc 248, 2) := by decide +kernel
theorem d_Reader_homeRow_95 : decode s_Reader_homeRow.2.1 95 = .ok (.iconst 2, 1) := by decide +kernel
theorem d_Reader_homeRow_96 : decode s_Reader_homeRow.2.1 96 = .ok (.invokevirtual 231, 3) := by decide +kernel
theorem d_Reader_homeRow_99 : decode s_Reader_homeRow.2.1 99 = .ok (.ifCond .ne 5, 3) := by decide +kernel
theorem d_Reader_homeRow_102 : decode s_Reader_homeRow.2.1 102 = .ok (.iconst 0, 1) := by decide +kernel
theorem d_Reader_homeRow_103 : decode s_Reader_homeRow.2.1 103 = .ok (.ireturn, 1) := by decide +kernel
theorem d_Reader_homeRow_104 : decode s_Reader_homeRow.2.1 104 = .ok (.aload_n 1, 1) := by decide +kernel
theorem d_Reader_homeRow_105 : decode s_Reader_homeRow.2.1 105 = .ok (.aload_n 0, 1) := by decide +kernel
theorem d_Reader_homeRow_106 : decode s_Reader_homeRow.2.1 106 = .ok (.getfield 36, 3) := by decide +kernel
theorem d_Reader_homeRow_109 : decode s_Reader_homeRow.2.1 109 = .ok (.putfield 250, 3) := by decide +kernel
theorem d_Reader_homeRow_112 : decode s_Reader_homeRow.2.1 112 = .ok (.aload_n 1, 1) := by decide +kernel
theorem d_Reader_homeRow_113 : decode s_Reader_homeRow.2.1 113 = .ok (.aload_n 0, 1) := by decide +kernel
theorem d_Reader_homeRow_114 : decode s_Reader_homeRow.2.1 114 = .ok (.ldc 253, 2) := by decide +kernel
theorem d_Reader_homeRow_116 : decode s_Reader_homeRow.2.1 116 = .ok (.invokevirtual 115, 3) := by decide +kernel
theorem d_Reader_homeRow_119 : decode s_Reader_homeRow.2.1 119 = .ok (.putfield 255, 3) := by decide +kernel
theorem d_Reader_homeRow_122 : decode s_Reader_homeRow.2.1 122 = .ok (.aload_n 0, 1) := by decide +kernel
theorem d_Reader_homeRow_123 : decode s_Reader_homeRow.2.1 123 = .ok (.aload_n 1, 1) := by decide +kernel
theorem d_Reader_homeRow_124 : decode s_Reader_homeRow.2.1 124 = .ok (.getfield 255, 3) := by decide +kernel
theorem d_Reader_homeRow_127 : decode s_Reader_homeRow.2.1 127 = .ok (.ifCond .eq 8, 3) := by decide +kernel
theorem d_Reader_homeRow_130 : decode s_Reader_homeRow.2.1 130 = .ok (.ldc 253, 2) := by decide +kernel
theorem d_Reader_homeRow_132 : decode s_Reader_homeRow.2.1 132 = .ok (.goto 6, 3) := by decide +kernel
theorem d_Reader_homeRow_135 : decode s_Reader_homeRow.2.1 135 = .ok (.ldc_w 257, 3) := by decide +kernel
theorem d_Reader_homeRow_138 : decode s_Reader_homeRow.2.1 138 = .ok (.iconst 0, 1) := by decide +kernel
theorem d_Reader_homeRow_139 : decode s_Reader_homeRow.2.1 139 = .ok (.invokevirtual 231, 3) := by decide +kernel
theorem d_Reader_homeRow_142 : decode s_Reader_homeRow.2.1 142 = .ok (.ifCond .ne 5, 3) := by decide +kernel
theorem d_Reader_homeRow_145 : decode s_Reader_homeRow.2.1 145 = .ok (.iconst 0, 1) := by decide +kernel
theorem d_Reader_homeRow_146 : decode s_Reader_homeRow.2.1 146 = .ok (.ireturn, 1) := by decide +kernel
theorem d_Reader_homeRow_147 : decode s_Reader_homeRow.2.1 147 = .ok (.aload_n 1, 1) := by decide +kernel
theorem d_Reader_homeRow_148 : decode s_Reader_homeRow.2.1 148 = .ok (.aload_n 0, 1) := by decide +kernel
theorem d_Reader_homeRow_149 : decode s_Reader_homeRow.2.1 149 = .ok (.getfield 36, 3) := by decide +kernel
theorem d_Reader_homeRow_152 : decode s_Reader_homeRow.2.1 152 = .ok (.putfield 259, 3) := by decide +kernel
theorem d_Reader_homeRow_155 : decode s_Reader_homeRow.2.1 155 = .ok (.iconst 1, 1) := by decide +kernel
theorem d_Reader_homeRow_156 : decode s_Reader_homeRow.2.1 156 = .ok (.ireturn, 1) := by decide +kernel
theorem d_Reader_statement_0 : decode s_Reader_statement.2.1 0 = .ok (.aload_n 0, 1) := by decide +kernel
theorem d_Reader_statement_1 : decode s_Reader_statement.2.1 1 = .ok (.getfield 22, 3) := by decide +kernel
theorem d_Reader_statement_4 : decode s_Reader_statement.2.1 4 = .ok (.aload_n 0, 1) := by decide +kernel
theorem d_Reader_statement_5 : decode s_Reader_statement.2.1 5 = .ok (.getfield 32, 3) := by decide +kernel
theorem d_Reader_statement_8 : decode s_Reader_statement.2.1 8 = .ok (.iaload, 1) := by decide +kernel
theorem d_Reader_statement_9 : decode s_Reader_statement.2.1 9 = .ok (.istore_n 1, 1) := by decide +kernel
theorem d_Reader_statement_10 : decode s_Reader_statement.2.1 10 = .ok (.aload_n 0, 1) := by decide +kernel
theorem d_Reader_statement_11 : decode s_Reader_statement.2.1 11 = .ok (.ldc 162, 2) := by decide +kernel
theorem d_Reader_statement_13 : decode s_Reader_statement.2.1 13 = .ok (.invokevirtual 119, 3) := by decide +kernel
theorem d_Reader_statement_16 : decode s_Reader_statement.2.1 16 = .ok (.ifCond .eq 42, 3) := by decide +kernel
theorem d_Reader_statement_19 : decode s_Reader_statement.2.1 19 = .ok (.aload_n 0, 1) := by decide +kernel
theorem d_Reader_statement_20 : decode s_Reader_statement.2.1 20 = .ok (.aload_n 0, 1) := by decide +kernel
theorem d_Reader_statement_21 : decode s_Reader_statement.2.1 21 = .ok (.getfield 12, 3) := by decide +kernel
theorem d_Reader_statement_24 : decode s_Reader_statement.2.1 24 = .ok (.getfield 164, 3) := by decide +kernel
theorem d_Reader_statement_27 : decode s_Reader_statement.2.1 27 = .ok (.iconst 1, 1) := by decide +kernel
theorem d_Reader_statement_28 : decode s_Reader_statement.2.1 28 = .ok (.iaload, 1) := by decide +kernel
theorem d_Reader_statement_29 : decode s_Reader_statement.2.1 29 = .ok (.ifCond .ne 7, 3) := by decide +kernel
theorem d_Reader_statement_32 : decode s_Reader_statement.2.1 32 = .ok (.iconst 1, 1) := by decide +kernel
theorem d_Reader_statement_33 : decode s_Reader_statement.2.1 33 = .ok (.goto 4, 3) := by decide +kernel
theorem d_Reader_statement_36 : decode s_Reader_statement.2.1 36 = .ok (.iconst 0, 1) := by decide +kernel
theorem d_Reader_statement_37 : decode s_Reader_statement.2.1 37 = .ok (.iload_n 1, 1) := by decide +kernel
theorem d_Reader_statement_38 : decode s_Reader_statement.2.1 38 = .ok (.invokevirtual 167, 3) := by decide +kernel
theorem d_Reader_statement_41 : decode s_Reader_statement.2.1 41 = .ok (.ifCond .eq 15, 3) := by decide +kernel
theorem d_Reader_statement_44 : decode s_Reader_statement.2.1 44 = .ok (.aload_n 0, 1) := by decide +kernel
theorem d_Reader_statement_45 : decode s_Reader_statement.2.1 45 = .ok (.iconst 1, 1) := by decide +kernel
theorem d_Reader_statement_46 : decode s_Reader_statement.2.1 46 = .ok (.invokevirtual 159, 3) := by decide +kernel
theorem d_Reader_statement_49 : decode s_Reader_statement.2.1 49 = .ok (.ifCond .eq 7, 3) := by decide +kernel
theorem d_Reader_statement_52 : decode s_Reader_statement.2.1 52 = .ok (.iconst 1, 1) := by decide +kernel
theorem d_Reader_statement_53 : decode s_Reader_statement.2.1 53 = .ok (.goto 4, 3) := by decide +kernel
theorem d_Reader_statement_56 : decode s_Reader_statement.2.1 56 = .ok (.iconst 0, 1) := by decide +kernel
theorem d_Reader_statement_57 : decode s_Reader_statement.2.1 57 = .ok (.ireturn, 1) := by decide +kernel
theorem d_Reader_statement_58 : decode s_Reader_statement.2.1 58 = .ok (.aload_n 0, 1) := by decide +kernel
theorem d_Reader_statement_59 : decode s_Reader_statement.2.1 59 = .ok (.ldc 171, 2) := by decide +kernel
theorem d_Reader_statement_61 : decode s_Reader_statement.2.1 61 = .ok (.invokevirtual 119, 3) := by decide +kernel
theorem d_Reader_statement_64 : decode s_Reader_statement.2.1 64 = .ok (.ifCond .eq 42, 3) := by decide +kernel
theorem d_Reader_statement_67 : decode s_Reader_statement.2.1 67 = .ok (.aload_n 0, 1) := by decide +kernel
theorem d_Reader_statement_68 : decode s_Reader_statement.2.1 68 = .ok (.aload_n 0, 1) := by decide +kernel
theorem d_Reader_statement_69 : decode s_Reader_statement.2.1 69 = .ok (.getfield 12, 3) := by decide +kernel
theorem d_Reader_statement_72 : decode s_Reader_statement.2.1 72 = .ok (.getfield 164, 3) := by decide +kernel
theorem d_Reader_statement_75 : decode s_Reader_statement.2.1 75 = .ok (.iconst 2, 1) := by decide +kernel
theorem d_Reader_statement_76 : decode s_Reader_statement.2.1 76 = .ok (.iaload, 1) := by decide +kernel
theorem d_Reader_statement_77 : decode s_Reader_statement.2.1 77 = .ok (.ifCond .ne 7, 3) := by decide +kernel
theorem d_Reader_statement_80 : decode s_Reader_statement.2.1 80 = .ok (.iconst 1, 1) := by decide +kernel
theorem d_Reader_statement_81 : decode s_Reader_statement.2.1 81 = .ok (.goto 4, 3) := by decide +kernel
theorem d_Reader_statement_84 : decode s_Reader_statement.2.1 84 = .ok (.iconst 0, 1) := by decide +kernel
theorem d_Reader_statement_85 : decode s_Reader_statement.2.1 85 = .ok (.iload_n 1, 1) := by decide +kernel
theorem d_Reader_statement_86 : decode s_Reader_statement.2.1 86 = .ok (.invokevirtual 167, 3) := by decide +kernel
theorem d_Reader_statement_89 : decode s_Reader_statement.2.1 89 = .ok (.ifCond .eq 15, 3) := by decide +kernel
theorem d_Reader_statement_92 : decode s_Reader_statement.2.1 92 = .ok (.aload_n 0, 1) := by decide +kernel
theorem d_Reader_statement_93 : decode s_Reader_statement.2.1 93 = .ok (.iconst 2, 1) := by decide +kernel
theorem d_Reader_statement_94 : decode s_Reader_statement.2.1 94 = .ok (.invokevirtual 159, 3) := by decide +kernel
theorem d_Reader_statement_97 : decode s_Reader_statement.2.1 97 = .ok (.ifCond .eq 7, 3) := by decide +kernel
theorem d_Reader_statement_100 : decode s_Reader_statement.2.1 100 = .ok (.iconst 1, 1) := by decide +kernel
theorem d_Reader_statement_101 : decode s_Reader_statement.2.1 101 = .ok (.goto 4, 3) := by decide +kernel
theorem d_Reader_statement_104 : decode s_Reader_statement.2.1 104 = .ok (.iconst 0, 1) := by decide +kernel
theorem d_Reader_statement_105 : decode s_Reader_statement.2.1 105 = .ok (.ireturn, 1) := by decide +kernel
theorem d_Reader_statement_106 : decode s_Reader_statement.2.1 106 = .ok (.aload_n 0, 1) := by decide +kernel
theorem d_Reader_statement_107 : decode s_Reader_statement.2.1 107 = .ok (.ldc 173, 2) := by decide +kernel
theorem d_Reader_statement_109 : decode s_Reader_statement.2.1 109 = .ok (.invokevirtual 119, 3) := by decide +kernel
theorem d_Reader_statement_112 : decode s_Reader_statement.2.1 112 = .ok (.ifCond .eq 40, 3) := by decide +kernel
theorem d_Reader_statement_115 : decode s_Reader_statement.2.1 115 = .ok (.aload_n 0, 1) := by decide +kernel
theorem d_Reader_statement_116 : decode s_Reader_statement.2.1 116 = .ok (.getfield 12, 3) := by decide +kernel
theorem d_Reader_statement_119 : decode s_Reader_statement.2.1 119 = .ok (.aload_n 0, 1) := by decide +kernel
theorem d_Reader_statement_120 : decode s_Reader_statement.2.1 120 = .ok (.ldc 175, 2) := by decide +kernel
theorem d_Reader_statement_122 : decode s_Reader_statement.2.1 122 = .ok (.invokevirtual 115, 3) := by decide +kernel
theorem d_Reader_statement_125 : decode s_Reader_statement.2.1 125 = .ok (.putfield 177, 3) := by decide +kernel
theorem d_Reader_statement_128 : decode s_Reader_statement.2.1 128 = .ok (.aload_n 0, 1) := by decide +kernel
theorem d_Reader_statement_129 : decode s_Reader_statement.2.1 129 = .ok (.ldc 175, 2) := by decide +kernel
theorem d_Reader_statement_131 : decode s_Reader_statement.2.1 131 = .ok (.invokevirtual 119, 3) := by decide +kernel
theorem d_Reader_statement_134 : decode s_Reader_statement.2.1 134 = .ok (.ifCond .ne 12, 3) := by decide +kernel
theorem d_Reader_statement_137 : decode s_Reader_statement.2.1 137 = .ok (.aload_n 0, 1) := by decide +kernel
theorem d_Reader_statement_138 : decode s_Reader_statement.2.1 138 = .ok (.ldc 180, 2) := by decide +kernel
theorem d_Reader_statement_140 : decode s_Reader_statement.2.1 140 = .ok (.invokevirtual 149, 3) := by decide +kernel
theorem d_Reader_statement_143 : decode s_Reader_statement.2.1 143 = .ok (.ifCond .eq 7, 3) := by decide +kernel
theorem d_Reader_statement_146 : decode s_Reader_statement.2.1 146 = .ok (.iconst 1, 1) := by decide +kernel
theorem d_Reader_statement_147 : decode s_Reader_statement.2.1 147 = .ok (.goto 4, 3) := by decide +kernel
theorem d_Reader_statement_150 : decode s_Reader_statement.2.1 150 = .ok (.iconst 0, 1) := by decide +kernel
theorem d_Reader_statement_151 : decode s_Reader_statement.2.1 151 = .ok (.ireturn, 1) := by decide +kernel
theorem d_Reader_statement_152 : decode s_Reader_statement.2.1 152 = .ok (.aload_n 0, 1) := by decide +kernel
theorem d_Reader_statement_153 : decode s_Reader_statement.2.1 153 = .ok (.ldc 182, 2) := by decide +kernel
theorem d_Reader_statement_155 : decode s_Reader_statement.2.1 155 = .ok (.invokevirtual 119, 3) := by decide +kernel
theorem d_Reader_statement_158 : decode s_Reader_statement.2.1 158 = .ok (.ifCond .eq 40, 3) := by decide +kernel
theorem d_Reader_statement_161 : decode s_Reader_statement.2.1 161 = .ok (.aload_n 0, 1) := by decide +kernel
theorem d_Reader_statement_162 : decode s_Reader_statement.2.1 162 = .ok (.aload_n 0, 1) := by decide +kernel
theorem d_Reader_statement_163 : decode s_Reader_statement.2.1 163 = .ok (.getfield 12, 3) := by decide +kernel
theorem d_Reader_statement_166 : decode s_Reader_statement.2.1 166 = .ok (.getfield 184, 3) := by decide +kernel
theorem d_Reader_statement_169 : decode s_Reader_statement.2.1 169 = .ok (.iconst 4, 1) := by decide +kernel
theorem d_Reader_statement_170 : decode s_Reader_statement.2.1 170 = .ok (.if_icmp .ge 7, 3) := by decide +kernel
theorem d_Reader_statement_173 : decode s_Reader_statement.2.1 173 = .ok (.iconst 1, 1) := by decide +kernel
theorem d_Reader_statement_174 : decode s_Reader_statement.2.1 174 = .ok (.goto 4, 3) := by decide +kernel
theorem d_Reader_statement_177 : decode s_Reader_statement.2.1 177 = .ok (.iconst 0, 1) := by decide +kernel
theorem d_Reader_statement_178 : decode s_Reader_statement.2.1 178 = .ok (.iload_n 1, 1) := by decide +kernel
theorem d_Reader_statement_179 : decode s_Reader_statement.2.1 179 = .ok (.invokevirtual 167, 3) := by decide +kernel
theorem d_Reader_statement_182 : decode s_Reader_statement.2.1 182 = .ok (.ifCond .eq 14, 3) := by decide +kernel
theorem d_Reader_statement_185 : decode s_Reader_statement.2.1 185 = .ok (.aload_n 0, 1) := by decide +kernel
theorem d_Reader_statement_186 : decode s_Reader_statement.2.1 186 = .ok (.invokevirtual 187, 3) := by decide +kernel
theorem d_Reader_statement_189 : decode s_Reader_statement.2.1 189 = .ok (.ifCond .eq 7, 3) := by decide +kernel
theorem d_Reader_statement_192 : decode s_Reader_statement.2.1 192 = .ok (.iconst 1, 1) := by decide +kernel
theorem d_Reader_statement_193 : decode s_Reader_statement.2.1 193 = .ok (.goto 4, 3) := by decide +kernel
theorem d_Reader_statement_196 : decode s_Reader_statement.2.1 196 = .ok (.iconst 0, 1) := by decide +kernel
theorem d_Reader_statement_197 : decode s_Reader_statement.2.1 197 = .ok (.ireturn, 1) := by decide +kernel
theorem d_Reader_statement_198 : decode s_Reader_statement.2.1 198 = .ok (.aload_n 0, 1) := by decide +kernel
theorem d_Reader_statement_199 : decode s_Reader_statement.2.1 199 = .ok (.ldc 189, 2) := by decide +kernel
theorem d_Reader_statement_201 : decode s_Reader_statement.2.1 201 = .ok (.invokevirtual 119, 3) := by decide +kernel
theorem d_Reader_statement_204 : decode s_Reader_statement.2.1 204 = .ok (.ifCond .eq 40, 3) := by decide +kernel
theorem d_Reader_statement_207 : decode s_Reader_statement.2.1 207 = .ok (.aload_n 0, 1) := by decide +kernel
theorem d_Reader_statement_208 : decode s_Reader_statement.2.1 208 = .ok (.aload_n 0, 1) := by decide +kernel
theorem d_Reader_statement_209 : decode s_Reader_statement.2.1 209 = .ok (.getfield 12, 3) := by decide +kernel
theorem d_Reader_statement_212 : decode s_Reader_statement.2.1 212 = .ok (.getfield 191, 3) := by decide +kernel
theorem d_Reader_statement_215 : decode s_Reader_statement.2.1 215 = .ok (.iconst (-1), 1) := by decide +kernel
theorem d_Reader_statement_216 : decode s_Reader_statement.2.1 216 = .ok (.if_icmp .ne 7, 3) := by decide +kernel
theorem d_Reader_statement_219 : decode s_Reader_statement.2.1 219 = .ok (.iconst 1, 1) := by decide +kernel
theorem d_Reader_statement_220 : decode s_Reader_statement.2.1 220 = .ok (.goto 4, 3) := by decide +kernel
theorem d_Reader_statement_223 : decode s_Reader_statement.2.1 223 = .ok (.iconst 0, 1) := by decide +kernel
theorem d_Reader_statement_224 : decode s_Reader_statement.2.1 224 = .ok (.iload_n 1, 1) := by decide +kernel
theorem d_Reader_statement_225 : decode s_Reader_statement.2.1 225 = .ok (.invokevirtual 167, 3) := by decide +kernel
theorem d_Reader_statement_228 : decode s_Reader_statement.2.1 228 = .ok (.ifCond .eq 14, 3) := by decide +kernel
theorem d_Reader_statement_231 : decode s_Reader_statement.2.1 231 = .ok (.aload_n 0, 1) := by decide +kernel
theorem d_Reader_statement_232 : decode s_Reader_statement.2.1 232 = .ok (.invokevirtual 194, 3) := by decide +kernel
theorem d_Reader_statement_235 : decode s_Reader_statement.2.1 235 = .ok (.ifCond .eq 7, 3) := by decide +kernel
theorem d_Reader_statement_238 : decode s_Reader_statement.2.1 238 = .ok (.iconst 1, 1) := by decide +kernel
theorem d_Reader_statement_239 : decode s_Reader_statement.2.1 239 = .ok (.goto 4, 3) := by decide +kernel
theorem d_Reader_statement_242 : decode s_Reader_statement.2.1 242 = .ok (.iconst 0, 1) := by decide +kernel
theorem d_Reader_statement_243 : decode s_Reader_statement.2.1 243 = .ok (.ireturn, 1) := by decide +kernel
theorem d_Reader_statement_244 : decode s_Reader_statement.2.1 244 = .ok (.aload_n 0, 1) := by decide +kernel
theorem d_Reader_statement_245 : decode s_Reader_statement.2.1 245 = .ok (.ldc 196, 2) := by decide +kernel
theorem d_Reader_statement_247 : decode s_Reader_statement.2.1 247 = .ok (.invokevirtual 119, 3) := by decide +kernel
theorem d_Reader_statement_250 : decode s_Reader_statement.2.1 250 = .ok (.ifCond .eq 49, 3) := by decide +kernel
theorem d_Reader_statement_253 : decode s_Reader_statement.2.1 253 = .ok (.aload_n 0, 1) := by decide +kernel
theorem d_Reader_statement_254 : decode s_Reader_statement.2.1 254 = .ok (.aload_n 0, 1) := by decide +kernel
theorem d_Reader_statement_255 : decode s_Reader_statement.2.1 255 = .ok (.getfield 12, 3) := by decide +kernel
theorem d_Reader_statement_258 : decode s_Reader_statement.2.1 258 = .ok (.getfield 198, 3) := by decide +kernel
theorem d_Reader_statement_261 : decode s_Reader_statement.2.1 261 = .ok (.bipush 16, 2) := by decide +kernel
theorem d_Reader_statement_263 : decode s_Reader_statement.2.1 263 = .ok (.if_icmp .ge 7, 3) := by decide +kernel
theorem d_Reader_statement_266 : decode s_Reader_statement.2.1 266 = .ok (.iconst 1, 1) := by decide +kernel
theorem d_Reader_statement_267 : decode s_Reader_statement.2.1 267 = .ok (.goto 4, 3) := by decide +kernel
theorem d_Reader_statement_270 : decode s_Reader_statement.2.1 270 = .ok (.iconst 0, 1) := by decide +kernel
theorem d_Reader_statement_271 : decode s_Reader_statement.2.1 271 = .ok (.iload_n 1, 1) := by decide +kernel
theorem d_Reader_statement_272 : decode s_Reader_statement.2.1 272 = .ok (.invokevirtual 167, 3) := by decide +kernel
theorem d_Reader_statement_275 : decode s_Reader_statement.2.1 275 = .ok (.ifCond .eq 22, 3) := by decide +kernel
theorem d_Reader_statement_278 : decode s_Reader_statement.2.1 278 = .ok (.aload_n 0, 1) := by decide +kernel
theorem d_Reader_statement_279 : decode s_Reader_statement.2.1 279 = .ok (.aload_n 0, 1) := by decide +kernel
theorem d_Reader_statement_280 : decode s_Reader_statement.2.1 280 = .ok (.getfield 12, 3) := by decide +kernel
theorem d_Reader_statement_283 : decode s_Reader_statement.2.1 283 = .ok (.iconst 0, 1) := by decide +kernel
theorem d_Reader_statement_284 : decode s_Reader_statement.2.1 284 = .ok (.invokevirtual 201, 3) := by decide +kernel
theorem d_Reader_statement_287 : decode s_Reader_statement.2.1 287 = .ok (.invokevirtual 205, 3) := by decide +kernel
theorem d_Reader_statement_290 : decode s_Reader_statement.2.1 290 = .ok (.ifCond .eq 7, 3) := by decide +kernel
theorem d_Reader_statement_293 : decode s_Reader_statement.2.1 293 = .ok (.iconst 1, 1) := by decide +kernel
theorem d_Reader_statement_294 : decode s_Reader_statement.2.1 294 = .ok (.goto 4, 3) := by decide +kernel
theorem d_Reader_statement_297 : decode s_Reader_statement.2.1 297 = .ok (.iconst 0, 1) := by decide +kernel
theorem d_Reader_statement_298 : decode s_Reader_statement.2.1 298 = .ok (.ireturn, 1) := by decide +kernel
theorem d_Reader_statement_299 : decode s_Reader_statement.2.1 299 = .ok (.aload_n 0, 1) := by decide +kernel
theorem d_Reader_statement_300 : decode s_Reader_statement.2.1 300 = .ok (.ldc 209, 2) := by decide +kernel
theorem d_Reader_statement_302 : decode s_Reader_statement.2.1 302 = .ok (.invokevirtual 119, 3) := by decide +kernel
theorem d_Reader_statement_305 : decode s_Reader_statement.2.1 305 = .ok (.ifCond .eq 49, 3) := by decide +kernel
theorem d_Reader_statement_308 : decode s_Reader_statement.2.1 308 = .ok (.aload_n 0, 1) := by decide +kernel
theorem d_Reader_statement_309 : decode s_Reader_statement.2.1 309 = .ok (.aload_n 0, 1) := by decide +kernel
theorem d_Reader_statement_310 : decode s_Reader_statement.2.1 310 = .ok (.getfield 12, 3) := by decide +kernel
theorem d_Reader_statement_313 : decode s_Reader_statement.2.1 313 = .ok (.getfield 198, 3) := by decide +kernel
theorem d_Reader_statement_316 : decode s_Reader_statement.2.1 316 = .ok (.bipush 16, 2) := by decide +kernel
theorem d_Reader_statement_318 : decode s_Reader_statement.2.1 318 = .ok (.if_icmp .ge 7, 3) := by decide +kernel
theorem d_Reader_statement_321 : decode s_Reader_statement.2.1 321 = .ok (.iconst 1, 1) := by decide +kernel
theorem d_Reader_statement_322 : decode s_Reader_statement.2.1 322 = .ok (.goto 4, 3) := by decide +kernel
theorem d_Reader_statement_325 : decode s_Reader_statement.2.1 325 = .ok (.iconst 0, 1) := by decide +kernel
theorem d_Reader_statement_326 : decode s_Reader_statement.2.1 326 = .ok (.iload_n 1, 1) := by decide +kernel
theorem d_Reader_statement_327 : decode s_Reader_statement.2.1 327 = .ok (.invokevirtual 167, 3) := by decide +kernel
theorem d_Reader_statement_330 : decode s_Reader_statement.2.1 330 = .ok (.ifCond .eq 22, 3) := by decide +kernel
theorem d_Reader_statement_333 : decode s_Reader_statement.2.1 333 = .ok (.aload_n 0, 1) := by decide +kernel
theorem d_Reader_statement_334 : decode s_Reader_statement.2.1 334 = .ok (.aload_n 0, 1) := by decide +kernel
theorem d_Reader_statement_335 : decode s_Reader_statement.2.1 335 = .ok (.getfield 12, 3) := by decide +kernel
theorem d_Reader_statement_338 : decode s_Reader_statement.2.1 338 = .ok (.iconst 1, 1) := by decide +kernel
theorem d_Reader_statement_339 : decode s_Reader_statement.2.1 339 = .ok (.invokevirtual 201, 3) := by decide +kernel
theorem d_Reader_statement_342 : decode s_Reader_statement.2.1 342 = .ok (.invokevirtual 210, 3) := by decide +kernel
theorem d_Reader_statement_345 : decode s_Reader_statement.2.1 345 = .ok (.ifCond .eq 7, 3) := by decide +kernel
theorem d_Reader_statement_348 : decode s_Reader_statement.2.1 348 = .ok (.iconst 1, 1) := by decide +kernel
theorem d_Reader_statement_349 : decode s_Reader_statement.2.1 349 = .ok (.goto 4, 3) := by decide +kernel
theorem d_Reader_statement_352 : decode s_Reader_statement.2.1 352 = .ok (.iconst 0, 1) := by decide +kernel
theorem d_Reader_statement_353 : decode s_Reader_statement.2.1 353 = .ok (.ireturn, 1) := by decide +kernel
theorem d_Reader_statement_354 : decode s_Reader_statement.2.1 354 = .ok (.aload_n 0, 1) := by decide +kernel
theorem d_Reader_statement_355 : decode s_Reader_statement.2.1 355 = .ok (.invokevirtual 67, 3) := by decide +kernel
theorem d_Reader_statement_358 : decode s_Reader_statement.2.1 358 = .ok (.ireturn, 1) := by decide +kernel
theorem d_Reader_sign_0 : decode s_Reader_sign.2.1 0 = .ok (.aload_n 0, 1) := by decide +kernel
theorem d_Reader_sign_1 : decode s_Reader_sign.2.1 1 = .ok (.getfield 18, 3) := by decide +kernel
theorem d_Reader_sign_4 : decode s_Reader_sign.2.1 4 = .ok (.aload_n 0, 1) := by decide +kernel
theorem d_Reader_sign_5 : decode s_Reader_sign.2.1 5 = .ok (.getfield 32, 3) := by decide +kernel
theorem d_Reader_sign_8 : decode s_Reader_sign.2.1 8 = .ok (.iaload, 1) := by decide +kernel
theorem d_Reader_sign_9 : decode s_Reader_sign.2.1 9 = .ok (.iconst 4, 1) := by decide +kernel
theorem d_Reader_sign_10 : decode s_Reader_sign.2.1 10 = .ok (.if_icmp .ne 18, 3) := by decide +kernel
theorem d_Reader_sign_13 : decode s_Reader_sign.2.1 13 = .ok (.aload_n 0, 1) := by decide +kernel
theorem d_Reader_sign_14 : decode s_Reader_sign.2.1 14 = .ok (.getfield 28, 3) := by decide +kernel
theorem d_Reader_sign_17 : decode s_Reader_sign.2.1 17 = .ok (.aload_n 0, 1) := by decide +kernel
theorem d_Reader_sign_18 : decode s_Reader_sign.2.1 18 = .ok (.getfield 32, 3) := by decide +kernel
theorem d_Reader_sign_21 : decode s_Reader_sign.2.1 21 = .ok (.laload, 1) := by decide +kernel
theorem d_Reader_sign_22 : decode s_Reader_sign.2.1 22 = .ok (.iload_n 1, 1) := by decide +kernel
theorem d_Reader_sign_23 : decode s_Reader_sign.2.1 23 = .ok (.i2l, 1) := by decide +kernel
theorem d_Reader_sign_24 : decode s_Reader_sign.2.1 24 = .ok (.lcmp, 1) := by decide +kernel
theorem d_Reader_sign_25 : decode s_Reader_sign.2.1 25 = .ok (.ifCond .eq 8, 3) := by decide +kernel
theorem d_Reader_sign_28 : decode s_Reader_sign.2.1 28 = .ok (.aload_n 0, 1) := by decide +kernel
theorem d_Reader_sign_29 : decode s_Reader_sign.2.1 29 = .ok (.invokevirtual 67, 3) := by decide +kernel
theorem d_Reader_sign_32 : decode s_Reader_sign.2.1 32 = .ok (.ireturn, 1) := by decide +kernel
theorem d_Reader_sign_33 : decode s_Reader_sign.2.1 33 = .ok (.aload_n 0, 1) := by decide +kernel
theorem d_Reader_sign_34 : decode s_Reader_sign.2.1 34 = .ok (.dup, 1) := by decide +kernel
theorem d_Reader_sign_35 : decode s_Reader_sign.2.1 35 = .ok (.getfield 32, 3) := by decide +kernel
theorem d_Reader_sign_38 : decode s_Reader_sign.2.1 38 = .ok (.iconst 1, 1) := by decide +kernel
theorem d_Reader_sign_39 : decode s_Reader_sign.2.1 39 = .ok (.iadd, 1) := by decide +kernel
theorem d_Reader_sign_40 : decode s_Reader_sign.2.1 40 = .ok (.putfield 32, 3) := by decide +kernel
theorem d_Reader_sign_43 : decode s_Reader_sign.2.1 43 = .ok (.iconst 1, 1) := by decide +kernel
theorem d_Reader_sign_44 : decode s_Reader_sign.2.1 44 = .ok (.ireturn, 1) := by decide +kernel
theorem d_Reader_read_0 : decode s_Reader_read.2.1 0 = .ok (.aload_n 0, 1) := by decide +kernel
theorem d_Reader_read_1 : decode s_Reader_read.2.1 1 = .ok (.getfield 12, 3) := by decide +kernel
theorem d_Reader_read_4 : decode s_Reader_read.2.1 4 = .ok (.invokevirtual 45, 3) := by decide +kernel
theorem d_Reader_read_7 : decode s_Reader_read.2.1 7 = .ok (.aload_n 0, 1) := by decide +kernel
theorem d_Reader_read_8 : decode s_Reader_read.2.1 8 = .ok (.iconst 0, 1) := by decide +kernel
theorem d_Reader_read_9 : decode s_Reader_read.2.1 9 = .ok (.putfield 39, 3) := by decide +kernel
theorem d_Reader_read_12 : decode s_Reader_read.2.1 12 = .ok (.aload_n 0, 1) := by decide +kernel
theorem d_Reader_read_13 : decode s_Reader_read.2.1 13 = .ok (.iconst (-1), 1) := by decide +kernel
theorem d_Reader_read_14 : decode s_Reader_read.2.1 14 = .ok (.putfield 42, 3) := by decide +kernel
theorem d_Reader_read_17 : decode s_Reader_read.2.1 17 = .ok (.aload_n 0, 1) := by decide +kernel
theorem d_Reader_read_18 : decode s_Reader_read.2.1 18 = .ok (.iconst 0, 1) := by decide +kernel
theorem d_Reader_read_19 : decode s_Reader_read.2.1 19 = .ok (.putfield 32, 3) := by decide +kernel
theorem d_Reader_read_22 : decode s_Reader_read.2.1 22 = .ok (.aload_n 0, 1) := by decide +kernel
theorem d_Reader_read_23 : decode s_Reader_read.2.1 23 = .ok (.aload_n 1, 1) := by decide +kernel
theorem d_Reader_read_24 : decode s_Reader_read.2.1 24 = .ok (.invokevirtual 48, 3) := by decide +kernel
theorem d_Reader_read_27 : decode s_Reader_read.2.1 27 = .ok (.iconst 0, 1) := by decide +kernel
theorem d_Reader_read_28 : decode s_Reader_read.2.1 28 = .ok (.istore_n 2, 1) := by decide +kernel
theorem d_Reader_read_29 : decode s_Reader_read.2.1 29 = .ok (.iconst 0, 1) := by decide +kernel
theorem d_Reader_read_30 : decode s_Reader_read.2.1 30 = .ok (.istore_n 3, 1) := by decide +kernel
theorem d_Reader_read_31 : decode s_Reader_read.2.1 31 = .ok (.iload_n 3, 1) := by decide +kernel
theorem d_Reader_read_32 : decode s_Reader_read.2.1 32 = .ok (.bipush 60, 2) := by decide +kernel
theorem d_Reader_read_34 : decode s_Reader_read.2.1 34 = .ok (.if_icmp .gt 79, 3) := by decide +kernel
theorem d_Reader_read_37 : decode s_Reader_read.2.1 37 = .ok (.aload_n 0, 1) := by decide +kernel
theorem d_Reader_read_38 : decode s_Reader_read.2.1 38 = .ok (.getfield 18, 3) := by decide +kernel
theorem d_Reader_read_41 : decode s_Reader_read.2.1 41 = .ok (.aload_n 0, 1) := by decide +kernel
theorem d_Reader_read_42 : decode s_Reader_read.2.1 42 = .ok (.getfield 32, 3) := by decide +kernel
theorem d_Reader_read_45 : decode s_Reader_read.2.1 45 = .ok (.iaload, 1) := by decide +kernel
theorem d_Reader_read_46 : decode s_Reader_read.2.1 46 = .ok (.ifCond .eq 67, 3) := by decide +kernel
theorem d_Reader_read_49 : decode s_Reader_read.2.1 49 = .ok (.iload_n 3, 1) := by decide +kernel
theorem d_Reader_read_50 : decode s_Reader_read.2.1 50 = .ok (.bipush 60, 2) := by decide +kernel
theorem d_Reader_read_52 : decode s_Reader_read.2.1 52 = .ok (.if_icmp .ne 20, 3) := by decide +kernel
theorem d_Reader_read_55 : decode s_Reader_read.2.1 55 = .ok (.aload_n 0, 1) := by decide +kernel
theorem d_Reader_read_56 : decode s_Reader_read.2.1 56 = .ok (.iconst 5, 1) := by decide +kernel
theorem d_Reader_read_57 : decode s_Reader_read.2.1 57 = .ok (.aload_n 0, 1) := by decide +kernel
theorem d_Reader_read_58 : decode s_Reader_read.2.1 58 = .ok (.getfield 22, 3) := by decide +kernel
theorem d_Reader_read_61 : decode s_Reader_read.2.1 61 = .ok (.aload_n 0, 1) := by decide +kernel
theorem d_Reader_read_62 : decode s_Reader_read.2.1 62 = .ok (.getfield 32, 3) := by decide +kernel
theorem d_Reader_read_65 : decode s_Reader_read.2.1 65 = .ok (.iaload, 1) := by decide +kernel
theorem d_Reader_read_66 : decode s_Reader_read.2.1 66 = .ok (.invokevirtual 52, 3) := by decide +kernel
theorem d_Reader_read_69 : decode s_Reader_read.2.1 69 = .ok (.pop, 1) := by decide +kernel
theorem d_Reader_read_70 : decode s_Reader_read.2.1 70 = .ok (.iconst (-1), 1) := by decide +kernel
theorem d_Reader_read_71 : decode s_Reader_read.2.1 71 = .ok (.ireturn, 1) := by decide +kernel
theorem d_Reader_read_72 : decode s_Reader_read.2.1 72 = .ok (.iload_n 3, 1) := by decide +kernel
theorem d_Reader_read_73 : decode s_Reader_read.2.1 73 = .ok (.ifCond .ne 13, 3) := by decide +kernel
theorem d_Reader_read_76 : decode s_Reader_read.2.1 76 = .ok (.aload_n 0, 1) := by decide +kernel
theorem d_Reader_read_77 : decode s_Reader_read.2.1 77 = .ok (.invokevirtual 56, 3) := by decide +kernel
theorem d_Reader_read_80 : decode s_Reader_read.2.1 80 = .ok (.ifCond .eq 22, 3) := by decide +kernel
theorem d_Reader_read_83 : decode s_Reader_read.2.1 83 = .ok (.goto 10, 3) := by decide +kernel
theorem d_Reader_read_86 : decode s_Reader_read.2.1 86 = .ok (.aload_n 0, 1) := by decide +kernel
theorem d_Reader_read_87 : decode s_Reader_read.2.1 87 = .ok (.invokevirtual 60, 3) := by decide +kernel
theorem d_Reader_read_90 : decode s_Reader_read.2.1 90 = .ok (.ifCond .eq 12, 3) := by decide +kernel
theorem d_Reader_read_93 : decode s_Reader_read.2.1 93 = .ok (.aload_n 0, 1) := by decide +kernel
theorem d_Reader_read_94 : decode s_Reader_read.2.1 94 = .ok (.bipush 59, 2) := by decide +kernel
theorem d_Reader_read_96 : decode s_Reader_read.2.1 96 = .ok (.invokevirtual 63, 3) := by decide +kernel
theorem d_Reader_read_99 : decode s_Reader_read.2.1 99 = .ok (.ifCond .ne 5, 3) := by decide +kernel
theorem d_Reader_read_102 : decode s_Reader_read.2.1 102 = .ok (.iconst (-1), 1) := by decide +kernel
theorem d_Reader_read_103 : decode s_Reader_read.2.1 103 = .ok (.ireturn, 1) := by decide +kernel
theorem d_Reader_read_104 : decode s_Reader_read.2.1 104 = .ok (.iinc 2 1, 3) := by decide +kernel
theorem d_Reader_read_107 : decode s_Reader_read.2.1 107 = .ok (.iinc 3 1, 3) := by decide +kernel
theorem d_Reader_read_110 : decode s_Reader_read.2.1 110 = .ok (.goto (-79), 3) := by decide +kernel
theorem d_Reader_read_113 : decode s_Reader_read.2.1 113 = .ok (.iload_n 2, 1) := by decide +kernel
theorem d_Reader_read_114 : decode s_Reader_read.2.1 114 = .ok (.ifCond .ne 10, 3) := by decide +kernel
theorem d_Reader_read_117 : decode s_Reader_read.2.1 117 = .ok (.aload_n 0, 1) := by decide +kernel
theorem d_Reader_read_118 : decode s_Reader_read.2.1 118 = .ok (.invokevirtual 67, 3) := by decide +kernel
theorem d_Reader_read_121 : decode s_Reader_read.2.1 121 = .ok (.pop, 1) := by decide +kernel
theorem d_Reader_read_122 : decode s_Reader_read.2.1 122 = .ok (.iconst (-1), 1) := by decide +kernel
theorem d_Reader_read_123 : decode s_Reader_read.2.1 123 = .ok (.ireturn, 1) := by decide +kernel
theorem d_Reader_read_124 : decode s_Reader_read.2.1 124 = .ok (.iload_n 2, 1) := by decide +kernel
theorem d_Reader_read_125 : decode s_Reader_read.2.1 125 = .ok (.ireturn, 1) := by decide +kernel
theorem d_Index_clear_0 : decode s_Index_clear.2.1 0 = .ok (.aload_n 0, 1) := by decide +kernel
theorem d_Index_clear_1 : decode s_Index_clear.2.1 1 = .ok (.getfield 15, 3) := by decide +kernel
theorem d_Index_clear_4 : decode s_Index_clear.2.1 4 = .ok (.iconst (-1), 1) := by decide +kernel
theorem d_Index_clear_5 : decode s_Index_clear.2.1 5 = .ok (.invokestatic 19, 3) := by decide +kernel
theorem d_Index_clear_8 : decode s_Index_clear.2.1 8 = .ok (.return_, 1) := by decide +kernel
theorem d_PA_codeOf_0 : decode s_PA_codeOf.2.1 0 = .ok (.iload_n 0, 1) := by decide +kernel
theorem d_PA_codeOf_1 : decode s_PA_codeOf.2.1 1 = .ok (.bipush 7, 2) := by decide +kernel
theorem d_PA_codeOf_3 : decode s_PA_codeOf.2.1 3 = .ok (.imul, 1) := by decide +kernel
theorem d_PA_codeOf_4 : decode s_PA_codeOf.2.1 4 = .ok (.iload_n 1, 1) := by decide +kernel
theorem d_PA_codeOf_5 : decode s_PA_codeOf.2.1 5 = .ok (.iadd, 1) := by decide +kernel
theorem d_PA_codeOf_6 : decode s_PA_codeOf.2.1 6 = .ok (.iconst 1, 1) := by decide +kernel
theorem d_PA_codeOf_7 : decode s_PA_codeOf.2.1 7 = .ok (.iadd, 1) := by decide +kernel
theorem d_PA_codeOf_8 : decode s_PA_codeOf.2.1 8 = .ok (.bipush 7, 2) := by decide +kernel
theorem d_PA_codeOf_10 : decode s_PA_codeOf.2.1 10 = .ok (.imul, 1) := by decide +kernel
theorem d_PA_codeOf_11 : decode s_PA_codeOf.2.1 11 = .ok (.iload_n 2, 1) := by decide +kernel
theorem d_PA_codeOf_12 : decode s_PA_codeOf.2.1 12 = .ok (.iadd, 1) := by decide +kernel
theorem d_PA_codeOf_13 : decode s_PA_codeOf.2.1 13 = .ok (.iconst 1, 1) := by decide +kernel
theorem d_PA_codeOf_14 : decode s_PA_codeOf.2.1 14 = .ok (.iadd, 1) := by decide +kernel
theorem d_PA_codeOf_15 : decode s_PA_codeOf.2.1 15 = .ok (.bipush 7, 2) := by decide +kernel
theorem d_PA_codeOf_17 : decode s_PA_codeOf.2.1 17 = .ok (.imul, 1) := by decide +kernel
theorem d_PA_codeOf_18 : decode s_PA_codeOf.2.1 18 = .ok (.iload_n 3, 1) := by decide +kernel
theorem d_PA_codeOf_19 : decode s_PA_codeOf.2.1 19 = .ok (.iadd, 1) := by decide +kernel
theorem d_PA_codeOf_20 : decode s_PA_codeOf.2.1 20 = .ok (.iconst 1, 1) := by decide +kernel
theorem d_PA_codeOf_21 : decode s_PA_codeOf.2.1 21 = .ok (.iadd, 1) := by decide +kernel
theorem d_PA_codeOf_22 : decode s_PA_codeOf.2.1 22 = .ok (.ireturn, 1) := by decide +kernel
theorem d_World_begin_0 : decode s_World_begin.2.1 0 = .ok (.aload_n 0, 1) := by decide +kernel
theorem d_World_begin_1 : decode s_World_begin.2.1 1 = .ok (.aload_n 1, 1) := by decide +kernel
theorem d_World_begin_2 : decode s_World_begin.2.1 2 = .ok (.getfield 28, 3) := by decide +kernel
theorem d_World_begin_5 : decode s_World_begin.2.1 5 = .ok (.iconst 1, 1) := by decide +kernel
theorem d_World_begin_6 : decode s_World_begin.2.1 6 = .ok (.iaload, 1) := by decide +kernel
theorem d_World_begin_7 : decode s_World_begin.2.1 7 = .ok (.ifCond .le 7, 3) := by decide +kernel
theorem d_World_begin_10 : decode s_World_begin.2.1 10 = .ok (.iconst 0, 1) := by decide +kernel
theorem d_World_begin_11 : decode s_World_begin.2.1 11 = .ok (.goto 4, 3) := by decide +kernel
theorem d_World_begin_14 : decode s_World_begin.2.1 14 = .ok (.iconst (-1), 1) := by decide +kernel
theorem d_World_begin_15 : decode s_World_begin.2.1 15 = .ok (.putfield 9, 3) := by decide +kernel
theorem d_World_begin_18 : decode s_World_begin.2.1 18 = .ok (.aload_n 0, 1) := by decide +kernel
theorem d_World_begin_19 : decode s_World_begin.2.1 19 = .ok (.aload_n 1, 1) := by decide +kernel
theorem d_World_begin_20 : decode s_World_begin.2.1 20 = .ok (.getfield 33, 3) := by decide +kernel
theorem d_World_begin_23 : decode s_World_begin.2.1 23 = .ok (.putfield 15, 3) := by decide +kernel
theorem d_World_begin_26 : decode s_World_begin.2.1 26 = .ok (.aload_n 0, 1) := by decide +kernel
theorem d_World_begin_27 : decode s_World_begin.2.1 27 = .ok (.getfield 18, 3) := by decide +kernel
theorem d_World_begin_30 : decode s_World_begin.2.1 30 = .ok (.iconst 0, 1) := by decide +kernel
theorem d_World_begin_31 : decode s_World_begin.2.1 31 = .ok (.iconst (-1), 1) := by decide +kernel
theorem d_World_begin_32 : decode s_World_begin.2.1 32 = .ok (.iconst (-1), 1) := by decide +kernel
theorem d_World_begin_33 : decode s_World_begin.2.1 33 = .ok (.iconst (-1), 1) := by decide +kernel
theorem d_World_begin_34 : decode s_World_begin.2.1 34 = .ok (.invokestatic 34, 3) := by decide +kernel
theorem d_World_begin_37 : decode s_World_begin.2.1 37 = .ok (.invokestatic 38, 3) := by decide +kernel
theorem d_World_begin_40 : decode s_World_begin.2.1 40 = .ok (.return_, 1) := by decide +kernel
theorem d_World_keyOf_0 : decode s_World_keyOf.2.1 0 = .ok (.aload_n 0, 1) := by decide +kernel
theorem d_World_keyOf_1 : decode s_World_keyOf.2.1 1 = .ok (.getfield 9, 3) := by decide +kernel
theorem d_World_keyOf_4 : decode s_World_keyOf.2.1 4 = .ok (.iconst 1, 1) := by decide +kernel
theorem d_World_keyOf_5 : decode s_World_keyOf.2.1 5 = .ok (.iadd, 1) := by decide +kernel
theorem d_World_keyOf_6 : decode s_World_keyOf.2.1 6 = .ok (.i2l, 1) := by decide +kernel
theorem d_World_keyOf_7 : decode s_World_keyOf.2.1 7 = .ok (.lstore_n 2, 1) := by decide +kernel
theorem d_World_keyOf_8 : decode s_World_keyOf.2.1 8 = .ok (.iconst 0, 1) := by decide +kernel
theorem d_World_keyOf_9 : decode s_World_keyOf.2.1 9 = .ok (.istore 4, 2) := by decide +kernel
theorem d_World_keyOf_11 : decode s_World_keyOf.2.1 11 = .ok (.iload 4, 2) := by decide +kernel
theorem d_World_keyOf_13 : decode s_World_keyOf.2.1 13 = .ok (.aload_n 0, 1) := by decide +kernel
theorem d_World_keyOf_14 : decode s_World_keyOf.2.1 14 = .ok (.getfield 15, 3) := by decide +kernel
theorem d_World_keyOf_17 : decode s_World_keyOf.2.1 17 = .ok (.if_icmp .ge 21, 3) := by decide +kernel
theorem d_World_keyOf_20 : decode s_World_keyOf.2.1 20 = .ok (.lload_n 2, 1) := by decide +kernel
theorem d_World_keyOf_21 : decode s_World_keyOf.2.1 21 = .ok (.ldc2_w 50, 3) := by decide +kernel
theorem d_World_keyOf_24 : decode s_World_keyOf.2.1 24 = .ok (.lmul, 1) := by decide +kernel
theorem d_World_keyOf_25 : decode s_World_keyOf.2.1 25 = .ok (.aload_n 1, 1) := by decide +kernel
theorem d_World_keyOf_26 : decode s_World_keyOf.2.1 26 = .ok (.iload 4, 2) := by decide +kernel
theorem d_World_keyOf_28 : decode s_World_keyOf.2.1 28 = .ok (.iaload, 1) := by decide +kernel
theorem d_World_keyOf_29 : decode s_World_keyOf.2.1 29 = .ok (.i2l, 1) := by decide +kernel
theorem d_World_keyOf_30 : decode s_World_keyOf.2.1 30 = .ok (.ladd, 1) := by decide +kernel
theorem d_World_keyOf_31 : decode s_World_keyOf.2.1 31 = .ok (.lstore_n 2, 1) := by decide +kernel
theorem d_World_keyOf_32 : decode s_World_keyOf.2.1 32 = .ok (.iinc 4 1, 3) := by decide +kernel
theorem d_World_keyOf_35 : decode s_World_keyOf.2.1 35 = .ok (.goto (-24), 3) := by decide +kernel
theorem d_World_keyOf_38 : decode s_World_keyOf.2.1 38 = .ok (.lload_n 2, 1) := by decide +kernel
theorem d_World_keyOf_39 : decode s_World_keyOf.2.1 39 = .ok (.lreturn, 1) := by decide +kernel
theorem d_World_foldedKey_0 : decode s_World_foldedKey.2.1 0 = .ok (.iconst 0, 1) := by decide +kernel
theorem d_World_foldedKey_1 : decode s_World_foldedKey.2.1 1 = .ok (.istore_n 1, 1) := by decide +kernel
theorem d_World_foldedKey_2 : decode s_World_foldedKey.2.1 2 = .ok (.iload_n 1, 1) := by decide +kernel
theorem d_World_foldedKey_3 : decode s_World_foldedKey.2.1 3 = .ok (.aload_n 0, 1) := by decide +kernel
theorem d_World_foldedKey_4 : decode s_World_foldedKey.2.1 4 = .ok (.getfield 15, 3) := by decide +kernel
theorem d_World_foldedKey_7 : decode s_World_foldedKey.2.1 7 = .ok (.if_icmp .ge 84, 3) := by decide +kernel
theorem d_World_foldedKey_10 : decode s_World_foldedKey.2.1 10 = .ok (.iconst 0, 1) := by decide +kernel
theorem d_World_foldedKey_11 : decode s_World_foldedKey.2.1 11 = .ok (.istore_n 2, 1) := by decide +kernel
theorem d_World_foldedKey_12 : decode s_World_foldedKey.2.1 12 = .ok (.iconst 0, 1) := by decide +kernel
theorem d_World_foldedKey_13 : decode s_World_foldedKey.2.1 13 = .ok (.istore_n 3, 1) := by decide +kernel
theorem d_World_foldedKey_14 : decode s_World_foldedKey.2.1 14 = .ok (.iload_n 3, 1) := by decide +kernel
theorem d_World_foldedKey_15 : decode s_World_foldedKey.2.1 15 = .ok (.aload_n 0, 1) := by decide +kernel
theorem d_World_foldedKey_16 : decode s_World_foldedKey.2.1 16 = .ok (.getfield 15, 3) := by decide +kernel
theorem d_World_foldedKey_19 : decode s_World_foldedKey.2.1 19 = .ok (.if_icmp .ge 47, 3) := by decide +kernel
theorem d_World_foldedKey_22 : decode s_World_foldedKey.2.1 22 = .ok (.aload_n 0, 1) := by decide +kernel
theorem d_World_foldedKey_23 : decode s_World_foldedKey.2.1 23 = .ok (.getfield 18, 3) := by decide +kernel
theorem d_World_foldedKey_26 : decode s_World_foldedKey.2.1 26 = .ok (.iload_n 3, 1) := by decide +kernel
theorem d_World_foldedKey_27 : decode s_World_foldedKey.2.1 27 = .ok (.iaload, 1) := by decide +kernel
theorem d_World_foldedKey_28 : decode s_World_foldedKey.2.1 28 = .ok (.aload_n 0, 1) := by decide +kernel
theorem d_World_foldedKey_29 : decode s_World_foldedKey.2.1 29 = .ok (.getfield 18, 3) := by decide +kernel
theorem d_World_foldedKey_32 : decode s_World_foldedKey.2.1 32 = .ok (.iload_n 1, 1) := by decide +kernel
theorem d_World_foldedKey_33 : decode s_World_foldedKey.2.1 33 = .ok (.iaload, 1) := by decide +kernel
theorem d_World_foldedKey_34 : decode s_World_foldedKey.2.1 34 = .ok (.if_icmp .lt 23, 3) := by decide +kernel
theorem d_World_foldedKey_37 : decode s_World_foldedKey.2.1 37 = .ok (.aload_n 0, 1) := by decide +kernel
theorem d_World_foldedKey_38 : decode s_World_foldedKey.2.1 38 = .ok (.getfield 18, 3) := by decide +kernel
theorem d_World_foldedKey_41 : decode s_World_foldedKey.2.1 41 = .ok (.iload_n 3, 1) := by decide +kernel
theorem d_World_foldedKey_42 : decode s_World_foldedKey.2.1 42 = .ok (.iaload, 1) := by decide +kernel
theorem d_World_foldedKey_43 : decode s_World_foldedKey.2.1 43 = .ok (.aload_n 0, 1) := by decide +kernel
theorem d_World_foldedKey_44 : decode s_World_foldedKey.2.1 44 = .ok (.getfield 18, 3) := by decide +kernel
theorem d_World_foldedKey_47 : decode s_World_foldedKey.2.1 47 = .ok (.iload_n 1, 1) := by decide +kernel
theorem d_World_foldedKey_48 : decode s_World_foldedKey.2.1 48 = .ok (.iaload, 1) := by decide +kernel
theorem d_World_foldedKey_49 : decode s_World_foldedKey.2.1 49 = .ok (.if_icmp .ne 11, 3) := by decide +kernel
theorem d_World_foldedKey_52 : decode s_World_foldedKey.2.1 52 = .ok (.iload_n 3, 1) := by decide +kernel
theorem d_World_foldedKey_53 : decode s_World_foldedKey.2.1 53 = .ok (.iload_n 1, 1) := by decide +kernel
theorem d_World_foldedKey_54 : decode s_World_foldedKey.2.1 54 = .ok (.if_icmp .ge 6, 3) := by decide +kernel
theorem d_World_foldedKey_57 : decode s_World_foldedKey.2.1 57 = .ok (.iinc 2 1, 3) := by decide +kernel
theorem d_World_foldedKey_60 : decode s_World_foldedKey.2.1 60 = .ok (.iinc 3 1, 3) := by decide +kernel
theorem d_World_foldedKey_63 : decode s_World_foldedKey.2.1 63 = .ok (.goto (-49), 3) := by decide +kernel
theorem d_World_foldedKey_66 : decode s_World_foldedKey.2.1 66 = .ok (.aload_n 0, 1) := by decide +kernel
theorem d_World_foldedKey_67 : decode s_World_foldedKey.2.1 67 = .ok (.getfield 22, 3) := by decide +kernel
theorem d_World_foldedKey_70 : decode s_World_foldedKey.2.1 70 = .ok (.iload_n 1, 1) := by decide +kernel
theorem d_World_foldedKey_71 : decode s_World_foldedKey.2.1 71 = .ok (.iload_n 2, 1) := by decide +kernel
theorem d_World_foldedKey_72 : decode s_World_foldedKey.2.1 72 = .ok (.iastore, 1) := by decide +kernel
theorem d_World_foldedKey_73 : decode s_World_foldedKey.2.1 73 = .ok (.aload_n 0, 1) := by decide +kernel
theorem d_World_foldedKey_74 : decode s_World_foldedKey.2.1 74 = .ok (.getfield 25, 3) := by decide +kernel
theorem d_World_foldedKey_77 : decode s_World_foldedKey.2.1 77 = .ok (.iload_n 2, 1) := by decide +kernel
theorem d_World_foldedKey_78 : decode s_World_foldedKey.2.1 78 = .ok (.aload_n 0, 1) := by decide +kernel
theorem d_World_foldedKey_79 : decode s_World_foldedKey.2.1 79 = .ok (.getfield 18, 3) := by decide +kernel
theorem d_World_foldedKey_82 : decode s_World_foldedKey.2.1 82 = .ok (.iload_n 1, 1) := by decide +kernel
theorem d_World_foldedKey_83 : decode s_World_foldedKey.2.1 83 = .ok (.iaload, 1) := by decide +kernel
theorem d_World_foldedKey_84 : decode s_World_foldedKey.2.1 84 = .ok (.iastore, 1) := by decide +kernel
theorem d_World_foldedKey_85 : decode s_World_foldedKey.2.1 85 = .ok (.iinc 1 1, 3) := by decide +kernel
theorem d_World_foldedKey_88 : decode s_World_foldedKey.2.1 88 = .ok (.goto (-86), 3) := by decide +kernel
theorem d_World_foldedKey_91 : decode s_World_foldedKey.2.1 91 = .ok (.aload_n 0, 1) := by decide +kernel
theorem d_World_foldedKey_92 : decode s_World_foldedKey.2.1 92 = .ok (.aload_n 0, 1) := by decide +kernel
theorem d_World_foldedKey_93 : decode s_World_foldedKey.2.1 93 = .ok (.getfield 25, 3) := by decide +kernel
theorem d_World_foldedKey_96 : decode s_World_foldedKey.2.1 96 = .ok (.invokevirtual 52, 3) := by decide +kernel
theorem d_World_foldedKey_99 : decode s_World_foldedKey.2.1 99 = .ok (.lreturn, 1) := by decide +kernel
theorem d_Index_slotOf_0 : decode s_Index_slotOf.2.1 0 = .ok (.lload_n 1, 1) := by decide +kernel
theorem d_Index_slotOf_1 : decode s_Index_slotOf.2.1 1 = .ok (.ldc2_w 29, 3) := by decide +kernel
theorem d_Index_slotOf_4 : decode s_Index_slotOf.2.1 4 = .ok (.lmul, 1) := by decide +kernel
theorem d_Index_slotOf_5 : decode s_Index_slotOf.2.1 5 = .ok (.bipush 53, 2) := by decide +kernel
theorem d_Index_slotOf_7 : decode s_Index_slotOf.2.1 7 = .ok (.lushr, 1) := by decide +kernel
theorem d_Index_slotOf_8 : decode s_Index_slotOf.2.1 8 = .ok (.l2i, 1) := by decide +kernel
theorem d_Index_slotOf_9 : decode s_Index_slotOf.2.1 9 = .ok (.istore_n 3, 1) := by decide +kernel
theorem d_Index_slotOf_10 : decode s_Index_slotOf.2.1 10 = .ok (.iconst 0, 1) := by decide +kernel
theorem d_Index_slotOf_11 : decode s_Index_slotOf.2.1 11 = .ok (.istore 4, 2) := by decide +kernel
theorem d_Index_slotOf_13 : decode s_Index_slotOf.2.1 13 = .ok (.iload 4, 2) := by decide +kernel
theorem d_Index_slotOf_15 : decode s_Index_slotOf.2.1 15 = .ok (.sipush 2048, 3) := by decide +kernel
theorem d_Index_slotOf_18 : decode s_Index_slotOf.2.1 18 = .ok (.if_icmp .ge 45, 3) := by decide +kernel
theorem d_Index_slotOf_21 : decode s_Index_slotOf.2.1 21 = .ok (.iload_n 3, 1) := by decide +kernel
theorem d_Index_slotOf_22 : decode s_Index_slotOf.2.1 22 = .ok (.iload 4, 2) := by decide +kernel
theorem d_Index_slotOf_24 : decode s_Index_slotOf.2.1 24 = .ok (.iadd, 1) := by decide +kernel
theorem d_Index_slotOf_25 : decode s_Index_slotOf.2.1 25 = .ok (.sipush 2047, 3) := by decide +kernel
theorem d_Index_slotOf_28 : decode s_Index_slotOf.2.1 28 = .ok (.iand, 1) := by decide +kernel
theorem d_Index_slotOf_29 : decode s_Index_slotOf.2.1 29 = .ok (.istore 5, 2) := by decide +kernel
theorem d_Index_slotOf_31 : decode s_Index_slotOf.2.1 31 = .ok (.aload_n 0, 1) := by decide +kernel
theorem d_Index_slotOf_32 : decode s_Index_slotOf.2.1 32 = .ok (.getfield 15, 3) := by decide +kernel
theorem d_Index_slotOf_35 : decode s_Index_slotOf.2.1 35 = .ok (.iload 5, 2) := by decide +kernel
theorem d_Index_slotOf_37 : decode s_Index_slotOf.2.1 37 = .ok (.iaload, 1) := by decide +kernel
theorem d_Index_slotOf_38 : decode s_Index_slotOf.2.1 38 = .ok (.iconst (-1), 1) := by decide +kernel
theorem d_Index_slotOf_39 : decode s_Index_slotOf.2.1 39 = .ok (.if_icmp .eq 15, 3) := by decide +kernel
theorem d_Index_slotOf_42 : decode s_Index_slotOf.2.1 42 = .ok (.aload_n 0, 1) := by decide +kernel
theorem d_Index_slotOf_43 : decode s_Index_slotOf.2.1 43 = .ok (.getfield 11, 3) := by decide +kernel
theorem d_Index_slotOf_46 : decode s_Index_slotOf.2.1 46 = .ok (.iload 5, 2) := by decide +kernel
theorem d_Index_slotOf_48 : decode s_Index_slotOf.2.1 48 = .ok (.laload, 1) := by decide +kernel
theorem d_Index_slotOf_49 : decode s_Index_slotOf.2.1 49 = .ok (.lload_n 1, 1) := by decide +kernel
theorem d_Index_slotOf_50 : decode s_Index_slotOf.2.1 50 = .ok (.lcmp, 1) := by decide +kernel
theorem d_Index_slotOf_51 : decode s_Index_slotOf.2.1 51 = .ok (.ifCond .ne 6, 3) := by decide +kernel
theorem d_Index_slotOf_54 : decode s_Index_slotOf.2.1 54 = .ok (.iload 5, 2) := by decide +kernel
theorem d_Index_slotOf_56 : decode s_Index_slotOf.2.1 56 = .ok (.ireturn, 1) := by decide +kernel
theorem d_Index_slotOf_57 : decode s_Index_slotOf.2.1 57 = .ok (.iinc 4 1, 3) := by decide +kernel
theorem d_Index_slotOf_60 : decode s_Index_slotOf.2.1 60 = .ok (.goto (-47), 3) := by decide +kernel
theorem d_Index_slotOf_63 : decode s_Index_slotOf.2.1 63 = .ok (.iconst (-1), 1) := by decide +kernel
theorem d_Index_slotOf_64 : decode s_Index_slotOf.2.1 64 = .ok (.ireturn, 1) := by decide +kernel
theorem d_Index_find_0 : decode s_Index_find.2.1 0 = .ok (.aload_n 0, 1) := by decide +kernel
theorem d_Index_find_1 : decode s_Index_find.2.1 1 = .ok (.lload_n 1, 1) := by decide +kernel
theorem d_Index_find_2 : decode s_Index_find.2.1 2 = .ok (.invokevirtual 25, 3) := by decide +kernel
theorem d_Index_find_5 : decode s_Index_find.2.1 5 = .ok (.istore_n 3, 1) := by decide +kernel
theorem d_Index_find_6 : decode s_Index_find.2.1 6 = .ok (.iload_n 3, 1) := by decide +kernel
theorem d_Index_find_7 : decode s_Index_find.2.1 7 = .ok (.iconst (-1), 1) := by decide +kernel
theorem d_Index_find_8 : decode s_Index_find.2.1 8 = .ok (.if_icmp .ne 7, 3) := by decide +kernel
theorem d_Index_find_11 : decode s_Index_find.2.1 11 = .ok (.iconst (-1), 1) := by decide +kernel
theorem d_Index_find_12 : decode s_Index_find.2.1 12 = .ok (.goto 9, 3) := by decide +kernel
theorem d_Index_find_15 : decode s_Index_find.2.1 15 = .ok (.aload_n 0, 1) := by decide +kernel
theorem d_Index_find_16 : decode s_Index_find.2.1 16 = .ok (.getfield 15, 3) := by decide +kernel
theorem d_Index_find_19 : decode s_Index_find.2.1 19 = .ok (.iload_n 3, 1) := by decide +kernel
theorem d_Index_find_20 : decode s_Index_find.2.1 20 = .ok (.iaload, 1) := by decide +kernel
theorem d_Index_find_21 : decode s_Index_find.2.1 21 = .ok (.ireturn, 1) := by decide +kernel
theorem d_Index_put_0 : decode s_Index_put.2.1 0 = .ok (.aload_n 0, 1) := by decide +kernel
theorem d_Index_put_1 : decode s_Index_put.2.1 1 = .ok (.lload_n 1, 1) := by decide +kernel
theorem d_Index_put_2 : decode s_Index_put.2.1 2 = .ok (.invokevirtual 25, 3) := by decide +kernel
theorem d_Index_put_5 : decode s_Index_put.2.1 5 = .ok (.istore 4, 2) := by decide +kernel
theorem d_Index_put_7 : decode s_Index_put.2.1 7 = .ok (.iload 4, 2) := by decide +kernel
theorem d_Index_put_9 : decode s_Index_put.2.1 9 = .ok (.iconst (-1), 1) := by decide +kernel
theorem d_Index_put_10 : decode s_Index_put.2.1 10 = .ok (.if_icmp .eq 19, 3) := by decide +kernel
theorem d_Index_put_13 : decode s_Index_put.2.1 13 = .ok (.aload_n 0, 1) := by decide +kernel
theorem d_Index_put_14 : decode s_Index_put.2.1 14 = .ok (.getfield 11, 3) := by decide +kernel
theorem d_Index_put_17 : decode s_Index_put.2.1 17 = .ok (.iload 4, 2) := by decide +kernel
theorem d_Index_put_19 : decode s_Index_put.2.1 19 = .ok (.lload_n 1, 1) := by decide +kernel
theorem d_Index_put_20 : decode s_Index_put.2.1 20 = .ok (.lastore, 1) := by decide +kernel
theorem d_Index_put_21 : decode s_Index_put.2.1 21 = .ok (.aload_n 0, 1) := by decide +kernel
theorem d_Index_put_22 : decode s_Index_put.2.1 22 = .ok (.getfield 15, 3) := by decide +kernel
theorem d_Index_put_25 : decode s_Index_put.2.1 25 = .ok (.iload 4, 2) := by decide +kernel
theorem d_Index_put_27 : decode s_Index_put.2.1 27 = .ok (.iload_n 3, 1) := by decide +kernel
theorem d_Index_put_28 : decode s_Index_put.2.1 28 = .ok (.iastore, 1) := by decide +kernel
theorem d_Index_put_29 : decode s_Index_put.2.1 29 = .ok (.return_, 1) := by decide +kernel
theorem d_World_ownKey_0 : decode s_World_ownKey.2.1 0 = .ok (.aload_n 0, 1) := by decide +kernel
theorem d_World_ownKey_1 : decode s_World_ownKey.2.1 1 = .ok (.aload_n 0, 1) := by decide +kernel
theorem d_World_ownKey_2 : decode s_World_ownKey.2.1 2 = .ok (.getfield 18, 3) := by decide +kernel
theorem d_World_ownKey_5 : decode s_World_ownKey.2.1 5 = .ok (.invokevirtual 52, 3) := by decide +kernel
theorem d_World_ownKey_8 : decode s_World_ownKey.2.1 8 = .ok (.lreturn, 1) := by decide +kernel
theorem d_Search_meet_0 : decode s_Search_meet.2.1 0 = .ok (.aload_n 0, 1) := by decide +kernel
theorem d_Search_meet_1 : decode s_Search_meet.2.1 1 = .ok (.getfield 42, 3) := by decide +kernel
theorem d_Search_meet_4 : decode s_Search_meet.2.1 4 = .ok (.invokevirtual 80, 3) := by decide +kernel
theorem d_Search_meet_7 : decode s_Search_meet.2.1 7 = .ok (.lstore_n 3, 1) := by decide +kernel
theorem d_Search_meet_8 : decode s_Search_meet.2.1 8 = .ok (.aload_n 0, 1) := by decide +kernel
theorem d_Search_meet_9 : decode s_Search_meet.2.1 9 = .ok (.getfield 12, 3) := by decide +kernel
theorem d_Search_meet_12 : decode s_Search_meet.2.1 12 = .ok (.lload_n 3, 1) := by decide +kernel
theorem d_Search_meet_13 : decode s_Search_meet.2.1 13 = .ok (.invokevirtual 84, 3) := by decide +kernel
theorem d_Search_meet_16 : decode s_Search_meet.2.1 16 = .ok (.iconst (-1), 1) := by decide +kernel
theorem d_Search_meet_17 : decode s_Search_meet.2.1 17 = .ok (.if_icmp .eq 5, 3) := by decide +kernel
theorem d_Search_meet_20 : decode s_Search_meet.2.1 20 = .ok (.iconst 1, 1) := by decide +kernel
theorem d_Search_meet_21 : decode s_Search_meet.2.1 21 = .ok (.ireturn, 1) := by decide +kernel
theorem d_Search_meet_22 : decode s_Search_meet.2.1 22 = .ok (.aload_n 0, 1) := by decide +kernel
theorem d_Search_meet_23 : decode s_Search_meet.2.1 23 = .ok (.getfield 45, 3) := by decide +kernel
theorem d_Search_meet_26 : decode s_Search_meet.2.1 26 = .ok (.sipush 600, 3) := by decide +kernel
theorem d_Search_meet_29 : decode s_Search_meet.2.1 29 = .ok (.if_icmp .ne 5, 3) := by decide +kernel
theorem d_Search_meet_32 : decode s_Search_meet.2.1 32 = .ok (.iconst 0, 1) := by decide +kernel
theorem d_Search_meet_33 : decode s_Search_meet.2.1 33 = .ok (.ireturn, 1) := by decide +kernel
theorem d_Search_meet_34 : decode s_Search_meet.2.1 34 = .ok (.aload_n 0, 1) := by decide +kernel
theorem d_Search_meet_35 : decode s_Search_meet.2.1 35 = .ok (.getfield 12, 3) := by decide +kernel
theorem d_Search_meet_38 : decode s_Search_meet.2.1 38 = .ok (.lload_n 3, 1) := by decide +kernel
theorem d_Search_meet_39 : decode s_Search_meet.2.1 39 = .ok (.aload_n 0, 1) := by decide +kernel
theorem d_Search_meet_40 : decode s_Search_meet.2.1 40 = .ok (.getfield 45, 3) := by decide +kernel
theorem d_Search_meet_43 : decode s_Search_meet.2.1 43 = .ok (.invokevirtual 88, 3) := by decide +kernel
theorem d_Search_meet_46 : decode s_Search_meet.2.1 46 = .ok (.aload_n 0, 1) := by decide +kernel
theorem d_Search_meet_47 : decode s_Search_meet.2.1 47 = .ok (.getfield 22, 3) := by decide +kernel
theorem d_Search_meet_50 : decode s_Search_meet.2.1 50 = .ok (.aload_n 0, 1) := by decide +kernel
theorem d_Search_meet_51 : decode s_Search_meet.2.1 51 = .ok (.getfield 45, 3) := by decide +kernel
theorem d_Search_meet_54 : decode s_Search_meet.2.1 54 = .ok (.lload_n 3, 1) := by decide +kernel
theorem d_Search_meet_55 : decode s_Search_meet.2.1 55 = .ok (.lastore, 1) := by decide +kernel
theorem d_Search_meet_56 : decode s_Search_meet.2.1 56 = .ok (.aload_n 0, 1) := by decide +kernel
theorem d_Search_meet_57 : decode s_Search_meet.2.1 57 = .ok (.getfield 18, 3) := by decide +kernel
theorem d_Search_meet_60 : decode s_Search_meet.2.1 60 = .ok (.aload_n 0, 1) := by decide +kernel
theorem d_Search_meet_61 : decode s_Search_meet.2.1 61 = .ok (.getfield 45, 3) := by decide +kernel
theorem d_Search_meet_64 : decode s_Search_meet.2.1 64 = .ok (.aload_n 0, 1) := by decide +kernel
theorem d_Search_meet_65 : decode s_Search_meet.2.1 65 = .ok (.getfield 42, 3) := by decide +kernel
theorem d_Search_meet_68 : decode s_Search_meet.2.1 68 = .ok (.invokevirtual 91, 3) := by decide +kernel
theorem d_Search_meet_71 : decode s_Search_meet.2.1 71 = .ok (.lastore, 1) := by decide +kernel
theorem d_Search_meet_72 : decode s_Search_meet.2.1 72 = .ok (.aload_n 0, 1) := by decide +kernel
theorem d_Search_meet_73 : decode s_Search_meet.2.1 73 = .ok (.getfield 25, 3) := by decide +kernel
theorem d_Search_meet_76 : decode s_Search_meet.2.1 76 = .ok (.aload_n 0, 1) := by decide +kernel
theorem d_Search_meet_77 : decode s_Search_meet.2.1 77 = .ok (.getfield 45, 3) := by decide +kernel
theorem d_Search_meet_80 : decode s_Search_meet.2.1 80 = .ok (.iload_n 1, 1) := by decide +kernel
theorem d_Search_meet_81 : decode s_Search_meet.2.1 81 = .ok (.iconst (-1), 1) := by decide +kernel
theorem d_Search_meet_82 : decode s_Search_meet.2.1 82 = .ok (.if_icmp .ne 7, 3) := by decide +kernel
theorem d_Search_meet_85 : decode s_Search_meet.2.1 85 = .ok (.iconst 0, 1) := by decide +kernel
theorem d_Search_meet_86 : decode s_Search_meet.2.1 86 = .ok (.goto 11, 3) := by decide +kernel
theorem d_Search_meet_89 : decode s_Search_meet.2.1 89 = .ok (.aload_n 0, 1) := by decide +kernel
theorem d_Search_meet_90 : decode s_Search_meet.2.1 90 = .ok (.getfield 25, 3) := by decide +kernel
theorem d_Search_meet_93 : decode s_Search_meet.2.1 93 = .ok (.iload_n 1, 1) := by decide +kernel
theorem d_Search_meet_94 : decode s_Search_meet.2.1 94 = .ok (.iaload, 1) := by decide +kernel
theorem d_Search_meet_95 : decode s_Search_meet.2.1 95 = .ok (.iconst 1, 1) := by decide +kernel
theorem d_Search_meet_96 : decode s_Search_meet.2.1 96 = .ok (.iadd, 1) := by decide +kernel
theorem d_Search_meet_97 : decode s_Search_meet.2.1 97 = .ok (.iastore, 1) := by decide +kernel
theorem d_Search_meet_98 : decode s_Search_meet.2.1 98 = .ok (.aload_n 0, 1) := by decide +kernel
theorem d_Search_meet_99 : decode s_Search_meet.2.1 99 = .ok (.getfield 29, 3) := by decide +kernel
theorem d_Search_meet_102 : decode s_Search_meet.2.1 102 = .ok (.aload_n 0, 1) := by decide +kernel
theorem d_Search_meet_103 : decode s_Search_meet.2.1 103 = .ok (.getfield 45, 3) := by decide +kernel
theorem d_Search_meet_106 : decode s_Search_meet.2.1 106 = .ok (.iload_n 1, 1) := by decide +kernel
theorem d_Search_meet_107 : decode s_Search_meet.2.1 107 = .ok (.iastore, 1) := by decide +kernel
theorem d_Search_meet_108 : decode s_Search_meet.2.1 108 = .ok (.aload_n 0, 1) := by decide +kernel
theorem d_Search_meet_109 : decode s_Search_meet.2.1 109 = .ok (.getfield 32, 3) := by decide +kernel
theorem d_Search_meet_112 : decode s_Search_meet.2.1 112 = .ok (.aload_n 0, 1) := by decide +kernel
theorem d_Search_meet_113 : decode s_Search_meet.2.1 113 = .ok (.getfield 45, 3) := by decide +kernel
theorem d_Search_meet_116 : decode s_Search_meet.2.1 116 = .ok (.iload_n 2, 1) := by decide +kernel
theorem d_Search_meet_117 : decode s_Search_meet.2.1 117 = .ok (.iastore, 1) := by decide +kernel
theorem d_Search_meet_118 : decode s_Search_meet.2.1 118 = .ok (.aload_n 0, 1) := by decide +kernel
theorem d_Search_meet_119 : decode s_Search_meet.2.1 119 = .ok (.dup, 1) := by decide +kernel
theorem d_Search_meet_120 : decode s_Search_meet.2.1 120 = .ok (.getfield 45, 3) := by decide +kernel
theorem d_Search_meet_123 : decode s_Search_meet.2.1 123 = .ok (.iconst 1, 1) := by decide +kernel
theorem d_Search_meet_124 : decode s_Search_meet.2.1 124 = .ok (.iadd, 1) := by decide +kernel
theorem d_Search_meet_125 : decode s_Search_meet.2.1 125 = .ok (.putfield 45, 3) := by decide +kernel
theorem d_Search_meet_128 : decode s_Search_meet.2.1 128 = .ok (.iconst 1, 1) := by decide +kernel
theorem d_Search_meet_129 : decode s_Search_meet.2.1 129 = .ok (.ireturn, 1) := by decide +kernel
theorem d_World_load_0 : decode s_World_load.2.1 0 = .ok (.lload_n 1, 1) := by decide +kernel
theorem d_World_load_1 : decode s_World_load.2.1 1 = .ok (.lstore 4, 2) := by decide +kernel
theorem d_World_load_3 : decode s_World_load.2.1 3 = .ok (.aload_n 0, 1) := by decide +kernel
theorem d_World_load_4 : decode s_World_load.2.1 4 = .ok (.iload_n 3, 1) := by decide +kernel
theorem d_World_load_5 : decode s_World_load.2.1 5 = .ok (.putfield 15, 3) := by decide +kernel
theorem d_World_load_8 : decode s_World_load.2.1 8 = .ok (.iload_n 3, 1) := by decide +kernel
theorem d_World_load_9 : decode s_World_load.2.1 9 = .ok (.iconst 1, 1) := by decide +kernel
theorem d_World_load_10 : decode s_World_load.2.1 10 = .ok (.isub, 1) := by decide +kernel
theorem d_World_load_11 : decode s_World_load.2.1 11 = .ok (.istore 6, 2) := by decide +kernel
theorem d_World_load_13 : decode s_World_load.2.1 13 = .ok (.iload 6, 2) := by decide +kernel
theorem d_World_load_15 : decode s_World_load.2.1 15 = .ok (.ifCond .lt 31, 3) := by decide +kernel
theorem d_World_load_18 : decode s_World_load.2.1 18 = .ok (.aload_n 0, 1) := by decide +kernel
theorem d_World_load_19 : decode s_World_load.2.1 19 = .ok (.getfield 18, 3) := by decide +kernel
theorem d_World_load_22 : decode s_World_load.2.1 22 = .ok (.iload 6, 2) := by decide +kernel
theorem d_World_load_24 : decode s_World_load.2.1 24 = .ok (.lload 4, 2) := by decide +kernel
theorem d_World_load_26 : decode s_World_load.2.1 26 = .ok (.ldc2_w 50, 3) := by decide +kernel
theorem d_World_load_29 : decode s_World_load.2.1 29 = .ok (.lrem, 1) := by decide +kernel
theorem d_World_load_30 : decode s_World_load.2.1 30 = .ok (.l2i, 1) := by decide +kernel
theorem d_World_load_31 : decode s_World_load.2.1 31 = .ok (.iastore, 1) := by decide +kernel
theorem d_World_load_32 : decode s_World_load.2.1 32 = .ok (.lload 4, 2) := by decide +kernel
theorem d_World_load_34 : decode s_World_load.2.1 34 = .ok (.ldc2_w 50, 3) := by decide +kernel
theorem d_World_load_37 : decode s_World_load.2.1 37 = .ok (.ldiv, 1) := by decide +kernel
theorem d_World_load_38 : decode s_World_load.2.1 38 = .ok (.lstore 4, 2) := by decide +kernel
theorem d_World_load_40 : decode s_World_load.2.1 40 = .ok (.iinc 6 (-1), 3) := by decide +kernel
theorem d_World_load_43 : decode s_World_load.2.1 43 = .ok (.goto (-30), 3) := by decide +kernel
theorem d_World_load_46 : decode s_World_load.2.1 46 = .ok (.aload_n 0, 1) := by decide +kernel
theorem d_World_load_47 : decode s_World_load.2.1 47 = .ok (.lload 4, 2) := by decide +kernel
theorem d_World_load_49 : decode s_World_load.2.1 49 = .ok (.l2i, 1) := by decide +kernel
theorem d_World_load_50 : decode s_World_load.2.1 50 = .ok (.iconst 1, 1) := by decide +kernel
theorem d_World_load_51 : decode s_World_load.2.1 51 = .ok (.isub, 1) := by decide +kernel
theorem d_World_load_52 : decode s_World_load.2.1 52 = .ok (.putfield 9, 3) := by decide +kernel
theorem d_World_load_55 : decode s_World_load.2.1 55 = .ok (.return_, 1) := by decide +kernel
theorem d_PA_held_0 : decode s_PA_held.2.1 0 = .ok (.iload_n 1, 1) := by decide +kernel
theorem d_PA_held_1 : decode s_PA_held.2.1 1 = .ok (.tableswitch 64 0 3 #[31, 37, 47, 57], 31) := by decide +kernel
theorem d_PA_held_32 : decode s_PA_held.2.1 32 = .ok (.iload_n 0, 1) := by decide +kernel
theorem d_PA_held_33 : decode s_PA_held.2.1 33 = .ok (.sipush 343, 3) := by decide +kernel
theorem d_PA_held_36 : decode s_PA_held.2.1 36 = .ok (.idiv, 1) := by decide +kernel
theorem d_PA_held_37 : decode s_PA_held.2.1 37 = .ok (.ireturn, 1) := by decide +kernel
theorem d_PA_held_38 : decode s_PA_held.2.1 38 = .ok (.iload_n 0, 1) := by decide +kernel
theorem d_PA_held_39 : decode s_PA_held.2.1 39 = .ok (.bipush 49, 2) := by decide +kernel
theorem d_PA_held_41 : decode s_PA_held.2.1 41 = .ok (.idiv, 1) := by decide +kernel
theorem d_PA_held_42 : decode s_PA_held.2.1 42 = .ok (.bipush 7, 2) := by decide +kernel
theorem d_PA_held_44 : decode s_PA_held.2.1 44 = .ok (.irem, 1) := by decide +kernel
theorem d_PA_held_45 : decode s_PA_held.2.1 45 = .ok (.iconst 1, 1) := by decide +kernel
theorem d_PA_held_46 : decode s_PA_held.2.1 46 = .ok (.isub, 1) := by decide +kernel
theorem d_PA_held_47 : decode s_PA_held.2.1 47 = .ok (.ireturn, 1) := by decide +kernel
theorem d_PA_held_48 : decode s_PA_held.2.1 48 = .ok (.iload_n 0, 1) := by decide +kernel
theorem d_PA_held_49 : decode s_PA_held.2.1 49 = .ok (.bipush 7, 2) := by decide +kernel
theorem d_PA_held_51 : decode s_PA_held.2.1 51 = .ok (.idiv, 1) := by decide +kernel
theorem d_PA_held_52 : decode s_PA_held.2.1 52 = .ok (.bipush 7, 2) := by decide +kernel
theorem d_PA_held_54 : decode s_PA_held.2.1 54 = .ok (.irem, 1) := by decide +kernel
theorem d_PA_held_55 : decode s_PA_held.2.1 55 = .ok (.iconst 1, 1) := by decide +kernel
theorem d_PA_held_56 : decode s_PA_held.2.1 56 = .ok (.isub, 1) := by decide +kernel
theorem d_PA_held_57 : decode s_PA_held.2.1 57 = .ok (.ireturn, 1) := by decide +kernel
theorem d_PA_held_58 : decode s_PA_held.2.1 58 = .ok (.iload_n 0, 1) := by decide +kernel
theorem d_PA_held_59 : decode s_PA_held.2.1 59 = .ok (.bipush 7, 2) := by decide +kernel
theorem d_PA_held_61 : decode s_PA_held.2.1 61 = .ok (.irem, 1) := by decide +kernel
theorem d_PA_held_62 : decode s_PA_held.2.1 62 = .ok (.iconst 1, 1) := by decide +kernel
theorem d_PA_held_63 : decode s_PA_held.2.1 63 = .ok (.isub, 1) := by decide +kernel
theorem d_PA_held_64 : decode s_PA_held.2.1 64 = .ok (.ireturn, 1) := by decide +kernel
theorem d_PA_held_65 : decode s_PA_held.2.1 65 = .ok (.iconst (-1), 1) := by decide +kernel
theorem d_PA_held_66 : decode s_PA_held.2.1 66 = .ok (.ireturn, 1) := by decide +kernel
theorem d_Row_isFor_0 : decode s_Row_isFor.2.1 0 = .ok (.aload_n 1, 1) := by decide +kernel
theorem d_Row_isFor_1 : decode s_Row_isFor.2.1 1 = .ok (.getfield 41, 3) := by decide +kernel
theorem d_Row_isFor_4 : decode s_Row_isFor.2.1 4 = .ok (.iload_n 2, 1) := by decide +kernel
theorem d_Row_isFor_5 : decode s_Row_isFor.2.1 5 = .ok (.iaload, 1) := by decide +kernel
theorem d_Row_isFor_6 : decode s_Row_isFor.2.1 6 = .ok (.istore_n 3, 1) := by decide +kernel
theorem d_Row_isFor_7 : decode s_Row_isFor.2.1 7 = .ok (.aload_n 0, 1) := by decide +kernel
theorem d_Row_isFor_8 : decode s_Row_isFor.2.1 8 = .ok (.getfield 9, 3) := by decide +kernel
theorem d_Row_isFor_11 : decode s_Row_isFor.2.1 11 = .ok (.ifCond .eq 34, 3) := by decide +kernel
theorem d_Row_isFor_14 : decode s_Row_isFor.2.1 14 = .ok (.aload_n 1, 1) := by decide +kernel
theorem d_Row_isFor_15 : decode s_Row_isFor.2.1 15 = .ok (.getfield 47, 3) := by decide +kernel
theorem d_Row_isFor_18 : decode s_Row_isFor.2.1 18 = .ok (.aload_n 0, 1) := by decide +kernel
theorem d_Row_isFor_19 : decode s_Row_isFor.2.1 19 = .ok (.getfield 15, 3) := by decide +kernel
theorem d_Row_isFor_22 : decode s_Row_isFor.2.1 22 = .ok (.if_icmp .ne 19, 3) := by decide +kernel
theorem d_Row_isFor_25 : decode s_Row_isFor.2.1 25 = .ok (.iload_n 3, 1) := by decide +kernel
theorem d_Row_isFor_26 : decode s_Row_isFor.2.1 26 = .ok (.iconst 3, 1) := by decide +kernel
theorem d_Row_isFor_27 : decode s_Row_isFor.2.1 27 = .ok (.invokestatic 50, 3) := by decide +kernel
theorem d_Row_isFor_30 : decode s_Row_isFor.2.1 30 = .ok (.aload_n 0, 1) := by decide +kernel
theorem d_Row_isFor_31 : decode s_Row_isFor.2.1 31 = .ok (.getfield 19, 3) := by decide +kernel
theorem d_Row_isFor_34 : decode s_Row_isFor.2.1 34 = .ok (.if_icmp .ne 7, 3) := by decide +kernel
theorem d_Row_isFor_37 : decode s_Row_isFor.2.1 37 = .ok (.iconst 1, 1) := by decide +kernel
theorem d_Row_isFor_38 : decode s_Row_isFor.2.1 38 = .ok (.goto 24, 3) := by decide +kernel
theorem d_Row_isFor_41 : decode s_Row_isFor.2.1 41 = .ok (.iconst 0, 1) := by decide +kernel
theorem d_Row_isFor_42 : decode s_Row_isFor.2.1 42 = .ok (.goto 20, 3) := by decide +kernel
theorem d_Row_isFor_45 : decode s_Row_isFor.2.1 45 = .ok (.iload_n 3, 1) := by decide +kernel
theorem d_Row_isFor_46 : decode s_Row_isFor.2.1 46 = .ok (.iconst 0, 1) := by decide +kernel
theorem d_Row_isFor_47 : decode s_Row_isFor.2.1 47 = .ok (.invokestatic 50, 3) := by decide +kernel
theorem d_Row_isFor_50 : decode s_Row_isFor.2.1 50 = .ok (.aload_n 0, 1) := by decide +kernel
theorem d_Row_isFor_51 : decode s_Row_isFor.2.1 51 = .ok (.getfield 15, 3) := by decide +kernel
theorem d_Row_isFor_54 : decode s_Row_isFor.2.1 54 = .ok (.if_icmp .ne 7, 3) := by decide +kernel
theorem d_Row_isFor_57 : decode s_Row_isFor.2.1 57 = .ok (.iconst 1, 1) := by decide +kernel
theorem d_Row_isFor_58 : decode s_Row_isFor.2.1 58 = .ok (.goto 4, 3) := by decide +kernel
theorem d_Row_isFor_61 : decode s_Row_isFor.2.1 61 = .ok (.iconst 0, 1) := by decide +kernel
theorem d_Row_isFor_62 : decode s_Row_isFor.2.1 62 = .ok (.ireturn, 1) := by decide +kernel
theorem d_World_copy_0 : decode s_World_copy.2.1 0 = .ok (.aload_n 0, 1) := by decide +kernel
theorem d_World_copy_1 : decode s_World_copy.2.1 1 = .ok (.aload_n 1, 1) := by decide +kernel
theorem d_World_copy_2 : decode s_World_copy.2.1 2 = .ok (.getfield 9, 3) := by decide +kernel
theorem d_World_copy_5 : decode s_World_copy.2.1 5 = .ok (.putfield 9, 3) := by decide +kernel
theorem d_World_copy_8 : decode s_World_copy.2.1 8 = .ok (.aload_n 0, 1) := by decide +kernel
theorem d_World_copy_9 : decode s_World_copy.2.1 9 = .ok (.aload_n 1, 1) := by decide +kernel
theorem d_World_copy_10 : decode s_World_copy.2.1 10 = .ok (.getfield 15, 3) := by decide +kernel
theorem d_World_copy_13 : decode s_World_copy.2.1 13 = .ok (.putfield 15, 3) := by decide +kernel
theorem d_World_copy_16 : decode s_World_copy.2.1 16 = .ok (.aload_n 1, 1) := by decide +kernel
theorem d_World_copy_17 : decode s_World_copy.2.1 17 = .ok (.getfield 18, 3) := by decide +kernel
theorem d_World_copy_20 : decode s_World_copy.2.1 20 = .ok (.iconst 0, 1) := by decide +kernel
theorem d_World_copy_21 : decode s_World_copy.2.1 21 = .ok (.aload_n 0, 1) := by decide +kernel
theorem d_World_copy_22 : decode s_World_copy.2.1 22 = .ok (.getfield 18, 3) := by decide +kernel
theorem d_World_copy_25 : decode s_World_copy.2.1 25 = .ok (.iconst 0, 1) := by decide +kernel
theorem d_World_copy_26 : decode s_World_copy.2.1 26 = .ok (.iconst 4, 1) := by decide +kernel
theorem d_World_copy_27 : decode s_World_copy.2.1 27 = .ok (.invokestatic 44, 3) := by decide +kernel
theorem d_World_copy_30 : decode s_World_copy.2.1 30 = .ok (.return_, 1) := by decide +kernel
theorem d_World_hasOther_0 : decode s_World_hasOther.2.1 0 = .ok (.iconst 0, 1) := by decide +kernel
theorem d_World_hasOther_1 : decode s_World_hasOther.2.1 1 = .ok (.istore_n 3, 1) := by decide +kernel
theorem d_World_hasOther_2 : decode s_World_hasOther.2.1 2 = .ok (.iload_n 3, 1) := by decide +kernel
theorem d_World_hasOther_3 : decode s_World_hasOther.2.1 3 = .ok (.aload_n 0, 1) := by decide +kernel
theorem d_World_hasOther_4 : decode s_World_hasOther.2.1 4 = .ok (.getfield 15, 3) := by decide +kernel
theorem d_World_hasOther_7 : decode s_World_hasOther.2.1 7 = .ok (.if_icmp .ge 30, 3) := by decide +kernel
theorem d_World_hasOther_10 : decode s_World_hasOther.2.1 10 = .ok (.iload_n 3, 1) := by decide +kernel
theorem d_World_hasOther_11 : decode s_World_hasOther.2.1 11 = .ok (.iload_n 1, 1) := by decide +kernel
theorem d_World_hasOther_12 : decode s_World_hasOther.2.1 12 = .ok (.if_icmp .eq 19, 3) := by decide +kernel
theorem d_World_hasOther_15 : decode s_World_hasOther.2.1 15 = .ok (.aload_n 0, 1) := by decide +kernel
theorem d_World_hasOther_16 : decode s_World_hasOther.2.1 16 = .ok (.getfield 18, 3) := by decide +kernel
theorem d_World_hasOther_19 : decode s_World_hasOther.2.1 19 = .ok (.iload_n 3, 1) := by decide +kernel
theorem d_World_hasOther_20 : decode s_World_hasOther.2.1 20 = .ok (.iaload, 1) := by decide +kernel
theorem d_World_hasOther_21 : decode s_World_hasOther.2.1 21 = .ok (.iconst 0, 1) := by decide +kernel
theorem d_World_hasOther_22 : decode s_World_hasOther.2.1 22 = .ok (.invokestatic 56, 3) := by decide +kernel
theorem d_World_hasOther_25 : decode s_World_hasOther.2.1 25 = .ok (.iload_n 2, 1) := by decide +kernel
theorem d_World_hasOther_26 : decode s_World_hasOther.2.1 26 = .ok (.if_icmp .ne 5, 3) := by decide +kernel
theorem d_World_hasOther_29 : decode s_World_hasOther.2.1 29 = .ok (.iconst 1, 1) := by decide +kernel
theorem d_World_hasOther_30 : decode s_World_hasOther.2.1 30 = .ok (.ireturn, 1) := by decide +kernel
theorem d_World_hasOther_31 : decode s_World_hasOther.2.1 31 = .ok (.iinc 3 1, 3) := by decide +kernel
theorem d_World_hasOther_34 : decode s_World_hasOther.2.1 34 = .ok (.goto (-32), 3) := by decide +kernel
theorem d_World_hasOther_37 : decode s_World_hasOther.2.1 37 = .ok (.iconst 0, 1) := by decide +kernel
theorem d_World_hasOther_38 : decode s_World_hasOther.2.1 38 = .ok (.ireturn, 1) := by decide +kernel
theorem d_World_receive_0 : decode s_World_receive.2.1 0 = .ok (.aload_n 0, 1) := by decide +kernel
theorem d_World_receive_1 : decode s_World_receive.2.1 1 = .ok (.getfield 18, 3) := by decide +kernel
theorem d_World_receive_4 : decode s_World_receive.2.1 4 = .ok (.iload_n 1, 1) := by decide +kernel
theorem d_World_receive_5 : decode s_World_receive.2.1 5 = .ok (.iaload, 1) := by decide +kernel
theorem d_World_receive_6 : decode s_World_receive.2.1 6 = .ok (.iconst 1, 1) := by decide +kernel
theorem d_World_receive_7 : decode s_World_receive.2.1 7 = .ok (.invokestatic 56, 3) := by decide +kernel
theorem d_World_receive_10 : decode s_World_receive.2.1 10 = .ok (.istore 4, 2) := by decide +kernel
theorem d_World_receive_12 : decode s_World_receive.2.1 12 = .ok (.aload_n 0, 1) := by decide +kernel
theorem d_World_receive_13 : decode s_World_receive.2.1 13 = .ok (.getfield 18, 3) := by decide +kernel
theorem d_World_receive_16 : decode s_World_receive.2.1 16 = .ok (.iload_n 1, 1) := by decide +kernel
theorem d_World_receive_17 : decode s_World_receive.2.1 17 = .ok (.iaload, 1) := by decide +kernel
theorem d_World_receive_18 : decode s_World_receive.2.1 18 = .ok (.iconst 2, 1) := by decide +kernel
theorem d_World_receive_19 : decode s_World_receive.2.1 19 = .ok (.invokestatic 56, 3) := by decide +kernel
theorem d_World_receive_22 : decode s_World_receive.2.1 22 = .ok (.istore 5, 2) := by decide +kernel
theorem d_World_receive_24 : decode s_World_receive.2.1 24 = .ok (.iload 5, 2) := by decide +kernel
theorem d_World_receive_26 : decode s_World_receive.2.1 26 = .ok (.iconst (-1), 1) := by decide +kernel
theorem d_World_receive_27 : decode s_World_receive.2.1 27 = .ok (.if_icmp .eq 5, 3) := by decide +kernel
theorem d_World_receive_30 : decode s_World_receive.2.1 30 = .ok (.iconst 0, 1) := by decide +kernel
theorem d_World_receive_31 : decode s_World_receive.2.1 31 = .ok (.ireturn, 1) := by decide +kernel
theorem d_World_receive_32 : decode s_World_receive.2.1 32 = .ok (.iload 4, 2) := by decide +kernel
theorem d_World_receive_34 : decode s_World_receive.2.1 34 = .ok (.iconst (-1), 1) := by decide +kernel
theorem d_World_receive_35 : decode s_World_receive.2.1 35 = .ok (.if_icmp .ne 9, 3) := by decide +kernel
theorem d_World_receive_38 : decode s_World_receive.2.1 38 = .ok (.iload_n 2, 1) := by decide +kernel
theorem d_World_receive_39 : decode s_World_receive.2.1 39 = .ok (.istore 4, 2) := by decide +kernel
theorem d_World_receive_41 : decode s_World_receive.2.1 41 = .ok (.goto 26, 3) := by decide +kernel
theorem d_World_receive_44 : decode s_World_receive.2.1 44 = .ok (.iload_n 3, 1) := by decide +kernel
theorem d_World_receive_45 : decode s_World_receive.2.1 45 = .ok (.ifCond .eq 19, 3) := by decide +kernel
theorem d_World_receive_48 : decode s_World_receive.2.1 48 = .ok (.iload_n 2, 1) := by decide +kernel
theorem d_World_receive_49 : decode s_World_receive.2.1 49 = .ok (.iload 4, 2) := by decide +kernel
theorem d_World_receive_51 : decode s_World_receive.2.1 51 = .ok (.if_icmp .ge 13, 3) := by decide +kernel
theorem d_World_receive_54 : decode s_World_receive.2.1 54 = .ok (.iload 4, 2) := by decide +kernel
theorem d_World_receive_56 : decode s_World_receive.2.1 56 = .ok (.istore 5, 2) := by decide +kernel
theorem d_World_receive_58 : decode s_World_receive.2.1 58 = .ok (.iload_n 2, 1) := by decide +kernel
theorem d_World_receive_59 : decode s_World_receive.2.1 59 = .ok (.istore 4, 2) := by decide +kernel
theorem d_World_receive_61 : decode s_World_receive.2.1 61 = .ok (.goto 6, 3) := by decide +kernel
theorem d_World_receive_64 : decode s_World_receive.2.1 64 = .ok (.iload_n 2, 1) := by decide +kernel
theorem d_World_receive_65 : decode s_World_receive.2.1 65 = .ok (.istore 5, 2) := by decide +kernel
theorem d_World_receive_67 : decode s_World_receive.2.1 67 = .ok (.aload_n 0, 1) := by decide +kernel
theorem d_World_receive_68 : decode s_World_receive.2.1 68 = .ok (.getfield 18, 3) := by decide +kernel
theorem d_World_receive_71 : decode s_World_receive.2.1 71 = .ok (.iload_n 1, 1) := by decide +kernel
theorem d_World_receive_72 : decode s_World_receive.2.1 72 = .ok (.aload_n 0, 1) := by decide +kernel
theorem d_World_receive_73 : decode s_World_receive.2.1 73 = .ok (.getfield 18, 3) := by decide +kernel
theorem d_World_receive_76 : decode s_World_receive.2.1 76 = .ok (.iload_n 1, 1) := by decide +kernel
theorem d_World_receive_77 : decode s_World_receive.2.1 77 = .ok (.iaload, 1) := by decide +kernel
theorem d_World_receive_78 : decode s_World_receive.2.1 78 = .ok (.iconst 0, 1) := by decide +kernel
theorem d_World_receive_79 : decode s_World_receive.2.1 79 = .ok (.invokestatic 56, 3) := by decide +kernel
theorem d_World_receive_82 : decode s_World_receive.2.1 82 = .ok (.iload 4, 2) := by decide +kernel
theorem d_World_receive_84 : decode s_World_receive.2.1 84 = .ok (.iload 5, 2) := by decide +kernel
theorem d_World_receive_86 : decode s_World_receive.2.1 86 = .ok (.aload_n 0, 1) := by decide +kernel
theorem d_World_receive_87 : decode s_World_receive.2.1 87 = .ok (.getfield 18, 3) := by decide +kernel
theorem d_World_receive_90 : decode s_World_receive.2.1 90 = .ok (.iload_n 1, 1) := by decide +kernel
theorem d_World_receive_91 : decode s_World_receive.2.1 91 = .ok (.iaload, 1) := by decide +kernel
theorem d_World_receive_92 : decode s_World_receive.2.1 92 = .ok (.iconst 3, 1) := by decide +kernel
theorem d_World_receive_93 : decode s_World_receive.2.1 93 = .ok (.invokestatic 56, 3) := by decide +kernel
theorem d_World_receive_96 : decode s_World_receive.2.1 96 = .ok (.invokestatic 34, 3) := by decide +kernel
theorem d_World_receive_99 : decode s_World_receive.2.1 99 = .ok (.iastore, 1) := by decide +kernel
theorem d_World_receive_100 : decode s_World_receive.2.1 100 = .ok (.iconst 1, 1) := by decide +kernel
theorem d_World_receive_101 : decode s_World_receive.2.1 101 = .ok (.ireturn, 1) := by decide +kernel
theorem d_Row_serve_0 : decode s_Row_serve.2.1 0 = .ok (.aload_n 1, 1) := by decide +kernel
theorem d_Row_serve_1 : decode s_Row_serve.2.1 1 = .ok (.getfield 41, 3) := by decide +kernel
theorem d_Row_serve_4 : decode s_Row_serve.2.1 4 = .ok (.iload_n 2, 1) := by decide +kernel
theorem d_Row_serve_5 : decode s_Row_serve.2.1 5 = .ok (.iaload, 1) := by decide +kernel
theorem d_Row_serve_6 : decode s_Row_serve.2.1 6 = .ok (.istore 4, 2) := by decide +kernel
theorem d_Row_serve_8 : decode s_Row_serve.2.1 8 = .ok (.aload_n 0, 1) := by decide +kernel
theorem d_Row_serve_9 : decode s_Row_serve.2.1 9 = .ok (.getfield 31, 3) := by decide +kernel
theorem d_Row_serve_12 : decode s_Row_serve.2.1 12 = .ok (.iconst (-1), 1) := by decide +kernel
theorem d_Row_serve_13 : decode s_Row_serve.2.1 13 = .ok (.if_icmp .eq 21, 3) := by decide +kernel
theorem d_Row_serve_16 : decode s_Row_serve.2.1 16 = .ok (.aload_n 1, 1) := by decide +kernel
theorem d_Row_serve_17 : decode s_Row_serve.2.1 17 = .ok (.iload_n 2, 1) := by decide +kernel
theorem d_Row_serve_18 : decode s_Row_serve.2.1 18 = .ok (.aload_n 0, 1) := by decide +kernel
theorem d_Row_serve_19 : decode s_Row_serve.2.1 19 = .ok (.getfield 31, 3) := by decide +kernel
theorem d_Row_serve_22 : decode s_Row_serve.2.1 22 = .ok (.invokevirtual 65, 3) := by decide +kernel
theorem d_Row_serve_25 : decode s_Row_serve.2.1 25 = .ok (.aload_n 0, 1) := by decide +kernel
theorem d_Row_serve_26 : decode s_Row_serve.2.1 26 = .ok (.getfield 34, 3) := by decide +kernel
theorem d_Row_serve_29 : decode s_Row_serve.2.1 29 = .ok (.if_icmp .eq 5, 3) := by decide +kernel
theorem d_Row_serve_32 : decode s_Row_serve.2.1 32 = .ok (.iconst 0, 1) := by decide +kernel
theorem d_Row_serve_33 : decode s_Row_serve.2.1 33 = .ok (.ireturn, 1) := by decide +kernel
theorem d_Row_serve_34 : decode s_Row_serve.2.1 34 = .ok (.aload_n 1, 1) := by decide +kernel
theorem d_Row_serve_35 : decode s_Row_serve.2.1 35 = .ok (.aload_n 0, 1) := by decide +kernel
theorem d_Row_serve_36 : decode s_Row_serve.2.1 36 = .ok (.getfield 22, 3) := by decide +kernel
theorem d_Row_serve_39 : decode s_Row_serve.2.1 39 = .ok (.putfield 47, 3) := by decide +kernel
theorem d_Row_serve_42 : decode s_Row_serve.2.1 42 = .ok (.aload_n 1, 1) := by decide +kernel
theorem d_Row_serve_43 : decode s_Row_serve.2.1 43 = .ok (.getfield 41, 3) := by decide +kernel
theorem d_Row_serve_46 : decode s_Row_serve.2.1 46 = .ok (.iload_n 2, 1) := by decide +kernel
theorem d_Row_serve_47 : decode s_Row_serve.2.1 47 = .ok (.iload 4, 2) := by decide +kernel
theorem d_Row_serve_49 : decode s_Row_serve.2.1 49 = .ok (.iconst 0, 1) := by decide +kernel
theorem d_Row_serve_50 : decode s_Row_serve.2.1 50 = .ok (.invokestatic 50, 3) := by decide +kernel
theorem d_Row_serve_53 : decode s_Row_serve.2.1 53 = .ok (.iload 4, 2) := by decide +kernel
theorem d_Row_serve_55 : decode s_Row_serve.2.1 55 = .ok (.iconst 1, 1) := by decide +kernel
theorem d_Row_serve_56 : decode s_Row_serve.2.1 56 = .ok (.invokestatic 50, 3) := by decide +kernel
theorem d_Row_serve_59 : decode s_Row_serve.2.1 59 = .ok (.iload 4, 2) := by decide +kernel
theorem d_Row_serve_61 : decode s_Row_serve.2.1 61 = .ok (.iconst 2, 1) := by decide +kernel
theorem d_Row_serve_62 : decode s_Row_serve.2.1 62 = .ok (.invokestatic 50, 3) := by decide +kernel
theorem d_Row_serve_65 : decode s_Row_serve.2.1 65 = .ok (.iconst (-1), 1) := by decide +kernel
theorem d_Row_serve_66 : decode s_Row_serve.2.1 66 = .ok (.invokestatic 61, 3) := by decide +kernel
theorem d_Row_serve_69 : decode s_Row_serve.2.1 69 = .ok (.iastore, 1) := by decide +kernel
theorem d_Row_serve_70 : decode s_Row_serve.2.1 70 = .ok (.aload_n 0, 1) := by decide +kernel
theorem d_Row_serve_71 : decode s_Row_serve.2.1 71 = .ok (.getfield 25, 3) := by decide +kernel
theorem d_Row_serve_74 : decode s_Row_serve.2.1 74 = .ok (.iconst (-1), 1) := by decide +kernel
theorem d_Row_serve_75 : decode s_Row_serve.2.1 75 = .ok (.if_icmp .eq 18, 3) := by decide +kernel
theorem d_Row_serve_78 : decode s_Row_serve.2.1 78 = .ok (.aload_n 1, 1) := by decide +kernel
theorem d_Row_serve_79 : decode s_Row_serve.2.1 79 = .ok (.iload_n 2, 1) := by decide +kernel
theorem d_Row_serve_80 : decode s_Row_serve.2.1 80 = .ok (.aload_n 0, 1) := by decide +kernel
theorem d_Row_serve_81 : decode s_Row_serve.2.1 81 = .ok (.getfield 25, 3) := by decide +kernel
theorem d_Row_serve_84 : decode s_Row_serve.2.1 84 = .ok (.iload_n 3, 1) := by decide +kernel
theorem d_Row_serve_85 : decode s_Row_serve.2.1 85 = .ok (.invokevirtual 69, 3) := by decide +kernel
theorem d_Row_serve_88 : decode s_Row_serve.2.1 88 = .ok (.ifCond .ne 5, 3) := by decide +kernel
theorem d_Row_serve_91 : decode s_Row_serve.2.1 91 = .ok (.iconst 0, 1) := by decide +kernel
theorem d_Row_serve_92 : decode s_Row_serve.2.1 92 = .ok (.ireturn, 1) := by decide +kernel
theorem d_Row_serve_93 : decode s_Row_serve.2.1 93 = .ok (.iconst 0, 1) := by decide +kernel
theorem d_Row_serve_94 : decode s_Row_serve.2.1 94 = .ok (.istore 5, 2) := by decide +kernel
theorem d_Row_serve_96 : decode s_Row_serve.2.1 96 = .ok (.aload_n 0, 1) := by decide +kernel
theorem d_Row_serve_97 : decode s_Row_serve.2.1 97 = .ok (.getfield 28, 3) := by decide +kernel
theorem d_Row_serve_100 : decode s_Row_serve.2.1 100 = .ok (.iconst (-1), 1) := by decide +kernel
theorem d_Row_serve_101 : decode s_Row_serve.2.1 101 = .ok (.if_icmp .eq 40, 3) := by decide +kernel
theorem d_Row_serve_104 : decode s_Row_serve.2.1 104 = .ok (.iload 5, 2) := by decide +kernel
theorem d_Row_serve_106 : decode s_Row_serve.2.1 106 = .ok (.aload_n 1, 1) := by decide +kernel
theorem d_Row_serve_107 : decode s_Row_serve.2.1 107 = .ok (.getfield 73, 3) := by decide +kernel
theorem d_Row_serve_110 : decode s_Row_serve.2.1 110 = .ok (.if_icmp .ge 31, 3) := by decide +kernel
theorem d_Row_serve_113 : decode s_Row_serve.2.1 113 = .ok (.iload 5, 2) := by decide +kernel
theorem d_Row_serve_115 : decode s_Row_serve.2.1 115 = .ok (.iload_n 2, 1) := by decide +kernel
theorem d_Row_serve_116 : decode s_Row_serve.2.1 116 = .ok (.if_icmp .eq 19, 3) := by decide +kernel
theorem d_Row_serve_119 : decode s_Row_serve.2.1 119 = .ok (.aload_n 1, 1) := by decide +kernel
theorem d_Row_serve_120 : decode s_Row_serve.2.1 120 = .ok (.iload 5, 2) := by decide +kernel
theorem d_Row_serve_122 : decode s_Row_serve.2.1 122 = .ok (.aload_n 0, 1) := by decide +kernel
theorem d_Row_serve_123 : decode s_Row_serve.2.1 123 = .ok (.getfield 28, 3) := by decide +kernel
theorem d_Row_serve_126 : decode s_Row_serve.2.1 126 = .ok (.iload_n 3, 1) := by decide +kernel
theorem d_Row_serve_127 : decode s_Row_serve.2.1 127 = .ok (.invokevirtual 69, 3) := by decide +kernel
theorem d_Row_serve_130 : decode s_Row_serve.2.1 130 = .ok (.ifCond .ne 5, 3) := by decide +kernel
theorem d_Row_serve_133 : decode s_Row_serve.2.1 133 = .ok (.iconst 0, 1) := by decide +kernel
theorem d_Row_serve_134 : decode s_Row_serve.2.1 134 = .ok (.ireturn, 1) := by decide +kernel
theorem d_Row_serve_135 : decode s_Row_serve.2.1 135 = .ok (.iinc 5 1, 3) := by decide +kernel
theorem d_Row_serve_138 : decode s_Row_serve.2.1 138 = .ok (.goto (-42), 3) := by decide +kernel
theorem d_Row_serve_141 : decode s_Row_serve.2.1 141 = .ok (.iconst 1, 1) := by decide +kernel
theorem d_Row_serve_142 : decode s_Row_serve.2.1 142 = .ok (.ireturn, 1) := by decide +kernel
theorem d_Row_step_0 : decode s_Row_step.2.1 0 = .ok (.aload_n 1, 1) := by decide +kernel
theorem d_Row_step_1 : decode s_Row_step.2.1 1 = .ok (.getfield 41, 3) := by decide +kernel
theorem d_Row_step_4 : decode s_Row_step.2.1 4 = .ok (.iload_n 2, 1) := by decide +kernel
theorem d_Row_step_5 : decode s_Row_step.2.1 5 = .ok (.iaload, 1) := by decide +kernel
theorem d_Row_step_6 : decode s_Row_step.2.1 6 = .ok (.istore 4, 2) := by decide +kernel
theorem d_Row_step_8 : decode s_Row_step.2.1 8 = .ok (.iload 4, 2) := by decide +kernel
theorem d_Row_step_10 : decode s_Row_step.2.1 10 = .ok (.iconst 1, 1) := by decide +kernel
theorem d_Row_step_11 : decode s_Row_step.2.1 11 = .ok (.invokestatic 50, 3) := by decide +kernel
theorem d_Row_step_14 : decode s_Row_step.2.1 14 = .ok (.istore 5, 2) := by decide +kernel
theorem d_Row_step_16 : decode s_Row_step.2.1 16 = .ok (.iload 4, 2) := by decide +kernel
theorem d_Row_step_18 : decode s_Row_step.2.1 18 = .ok (.iconst 2, 1) := by decide +kernel
theorem d_Row_step_19 : decode s_Row_step.2.1 19 = .ok (.invokestatic 50, 3) := by decide +kernel
theorem d_Row_step_22 : decode s_Row_step.2.1 22 = .ok (.istore 6, 2) := by decide +kernel
theorem d_Row_step_24 : decode s_Row_step.2.1 24 = .ok (.iload 4, 2) := by decide +kernel
theorem d_Row_step_26 : decode s_Row_step.2.1 26 = .ok (.iconst 3, 1) := by decide +kernel
theorem d_Row_step_27 : decode s_Row_step.2.1 27 = .ok (.invokestatic 50, 3) := by decide +kernel
theorem d_Row_step_30 : decode s_Row_step.2.1 30 = .ok (.istore 7, 2) := by decide +kernel
theorem d_Row_step_32 : decode s_Row_step.2.1 32 = .ok (.aload_n 0, 1) := by decide +kernel
theorem d_Row_step_33 : decode s_Row_step.2.1 33 = .ok (.getfield 19, 3) := by decide +kernel
theorem d_Row_step_36 : decode s_Row_step.2.1 36 = .ok (.iconst (-1), 1) := by decide +kernel
theorem d_Row_step_37 : decode s_Row_step.2.1 37 = .ok (.if_icmp .eq 56, 3) := by decide +kernel
theorem d_Row_step_40 : decode s_Row_step.2.1 40 = .ok (.iload 5, 2) := by decide +kernel
theorem d_Row_step_42 : decode s_Row_step.2.1 42 = .ok (.aload_n 0, 1) := by decide +kernel
theorem d_Row_step_43 : decode s_Row_step.2.1 43 = .ok (.getfield 19, 3) := by decide +kernel
theorem d_Row_step_46 : decode s_Row_step.2.1 46 = .ok (.if_icmp .ne 7, 3) := by decide +kernel
theorem d_Row_step_49 : decode s_Row_step.2.1 49 = .ok (.iconst 1, 1) := by decide +kernel
theorem d_Row_step_50 : decode s_Row_step.2.1 50 = .ok (.goto 4, 3) := by decide +kernel
theorem d_Row_step_53 : decode s_Row_step.2.1 53 = .ok (.iconst 0, 1) := by decide +kernel
theorem d_Row_step_54 : decode s_Row_step.2.1 54 = .ok (.istore 8, 2) := by decide +kernel
theorem d_Row_step_56 : decode s_Row_step.2.1 56 = .ok (.iload 8, 2) := by decide +kernel
theorem d_Row_step_58 : decode s_Row_step.2.1 58 = .ok (.ifCond .ne 18, 3) := by decide +kernel
theorem d_Row_step_61 : decode s_Row_step.2.1 61 = .ok (.iload_n 3, 1) := by decide +kernel
theorem d_Row_step_62 : decode s_Row_step.2.1 62 = .ok (.ifCond .eq 12, 3) := by decide +kernel
theorem d_Row_step_65 : decode s_Row_step.2.1 65 = .ok (.iload 6, 2) := by decide +kernel
theorem d_Row_step_67 : decode s_Row_step.2.1 67 = .ok (.aload_n 0, 1) := by decide +kernel
theorem d_Row_step_68 : decode s_Row_step.2.1 68 = .ok (.getfield 19, 3) := by decide +kernel
theorem d_Row_step_71 : decode s_Row_step.2.1 71 = .ok (.if_icmp .eq 5, 3) := by decide +kernel
theorem d_Row_step_74 : decode s_Row_step.2.1 74 = .ok (.iconst 0, 1) := by decide +kernel
theorem d_Row_step_75 : decode s_Row_step.2.1 75 = .ok (.ireturn, 1) := by decide +kernel
theorem d_Row_step_76 : decode s_Row_step.2.1 76 = .ok (.iload 8, 2) := by decide +kernel
theorem d_Row_step_78 : decode s_Row_step.2.1 78 = .ok (.ifCond .eq 8, 3) := by decide +kernel
theorem d_Row_step_81 : decode s_Row_step.2.1 81 = .ok (.iload 6, 2) := by decide +kernel
theorem d_Row_step_83 : decode s_Row_step.2.1 83 = .ok (.goto 5, 3) := by decide +kernel
theorem d_Row_step_86 : decode s_Row_step.2.1 86 = .ok (.iload 5, 2) := by decide +kernel
theorem d_Row_step_88 : decode s_Row_step.2.1 88 = .ok (.istore 5, 2) := by decide +kernel
theorem d_Row_step_90 : decode s_Row_step.2.1 90 = .ok (.iconst (-1), 1) := by decide +kernel
theorem d_Row_step_91 : decode s_Row_step.2.1 91 = .ok (.istore 6, 2) := by decide +kernel
theorem d_Row_step_93 : decode s_Row_step.2.1 93 = .ok (.aload_n 0, 1) := by decide +kernel
theorem d_Row_step_94 : decode s_Row_step.2.1 94 = .ok (.getfield 25, 3) := by decide +kernel
theorem d_Row_step_97 : decode s_Row_step.2.1 97 = .ok (.iconst (-1), 1) := by decide +kernel
theorem d_Row_step_98 : decode s_Row_step.2.1 98 = .ok (.if_icmp .eq 17, 3) := by decide +kernel
theorem d_Row_step_101 : decode s_Row_step.2.1 101 = .ok (.iload 7, 2) := by decide +kernel
theorem d_Row_step_103 : decode s_Row_step.2.1 103 = .ok (.iconst (-1), 1) := by decide +kernel
theorem d_Row_step_104 : decode s_Row_step.2.1 104 = .ok (.if_icmp .eq 5, 3) := by decide +kernel
theorem d_Row_step_107 : decode s_Row_step.2.1 107 = .ok (.iconst 0, 1) := by decide +kernel
theorem d_Row_step_108 : decode s_Row_step.2.1 108 = .ok (.ireturn, 1) := by decide +kernel
theorem d_Row_step_109 : decode s_Row_step.2.1 109 = .ok (.aload_n 0, 1) := by decide +kernel
theorem d_Row_step_110 : decode s_Row_step.2.1 110 = .ok (.getfield 25, 3) := by decide +kernel
theorem d_Row_step_113 : decode s_Row_step.2.1 113 = .ok (.istore 7, 2) := by decide +kernel
theorem d_Row_step_115 : decode s_Row_step.2.1 115 = .ok (.aload_n 1, 1) := by decide +kernel
theorem d_Row_step_116 : decode s_Row_step.2.1 116 = .ok (.getfield 41, 3) := by decide +kernel
theorem d_Row_step_119 : decode s_Row_step.2.1 119 = .ok (.iload_n 2, 1) := by decide +kernel
theorem d_Row_step_120 : decode s_Row_step.2.1 120 = .ok (.aload_n 0, 1) := by decide +kernel
theorem d_Row_step_121 : decode s_Row_step.2.1 121 = .ok (.getfield 22, 3) := by decide +kernel
theorem d_Row_step_124 : decode s_Row_step.2.1 124 = .ok (.iload 5, 2) := by decide +kernel
theorem d_Row_step_126 : decode s_Row_step.2.1 126 = .ok (.iload 6, 2) := by decide +kernel
theorem d_Row_step_128 : decode s_Row_step.2.1 128 = .ok (.iload 7, 2) := by decide +kernel
theorem d_Row_step_130 : decode s_Row_step.2.1 130 = .ok (.invokestatic 61, 3) := by decide +kernel
theorem d_Row_step_133 : decode s_Row_step.2.1 133 = .ok (.iastore, 1) := by decide +kernel
theorem d_Row_step_134 : decode s_Row_step.2.1 134 = .ok (.iconst 1, 1) := by decide +kernel
theorem d_Row_step_135 : decode s_Row_step.2.1 135 = .ok (.ireturn, 1) := by decide +kernel
theorem d_Row_go_0 : decode s_Row_go.2.1 0 = .ok (.aload_n 0, 1) := by decide +kernel
theorem d_Row_go_1 : decode s_Row_go.2.1 1 = .ok (.getfield 9, 3) := by decide +kernel
theorem d_Row_go_4 : decode s_Row_go.2.1 4 = .ok (.ifCond .eq 13, 3) := by decide +kernel
theorem d_Row_go_7 : decode s_Row_go.2.1 7 = .ok (.aload_n 0, 1) := by decide +kernel
theorem d_Row_go_8 : decode s_Row_go.2.1 8 = .ok (.aload_n 1, 1) := by decide +kernel
theorem d_Row_go_9 : decode s_Row_go.2.1 9 = .ok (.iload_n 2, 1) := by decide +kernel
theorem d_Row_go_10 : decode s_Row_go.2.1 10 = .ok (.iload_n 3, 1) := by decide +kernel
theorem d_Row_go_11 : decode s_Row_go.2.1 11 = .ok (.invokevirtual 54, 3) := by decide +kernel
theorem d_Row_go_14 : decode s_Row_go.2.1 14 = .ok (.goto 10, 3) := by decide +kernel
theorem d_Row_go_17 : decode s_Row_go.2.1 17 = .ok (.aload_n 0, 1) := by decide +kernel
theorem d_Row_go_18 : decode s_Row_go.2.1 18 = .ok (.aload_n 1, 1) := by decide +kernel
theorem d_Row_go_19 : decode s_Row_go.2.1 19 = .ok (.iload_n 2, 1) := by decide +kernel
theorem d_Row_go_20 : decode s_Row_go.2.1 20 = .ok (.iload_n 3, 1) := by decide +kernel
theorem d_Row_go_21 : decode s_Row_go.2.1 21 = .ok (.invokevirtual 58, 3) := by decide +kernel
theorem d_Row_go_24 : decode s_Row_go.2.1 24 = .ok (.ireturn, 1) := by decide +kernel
theorem d_Table_go_0 : decode s_Table_go.2.1 0 = .ok (.aload_n 0, 1) := by decide +kernel
theorem d_Table_go_1 : decode s_Table_go.2.1 1 = .ok (.getfield 31, 3) := by decide +kernel
theorem d_Table_go_4 : decode s_Table_go.2.1 4 = .ok (.iload_n 2, 1) := by decide +kernel
theorem d_Table_go_5 : decode s_Table_go.2.1 5 = .ok (.aaload, 1) := by decide +kernel
theorem d_Table_go_6 : decode s_Table_go.2.1 6 = .ok (.aload_n 1, 1) := by decide +kernel
theorem d_Table_go_7 : decode s_Table_go.2.1 7 = .ok (.iload_n 3, 1) := by decide +kernel
theorem d_Table_go_8 : decode s_Table_go.2.1 8 = .ok (.invokevirtual 79, 3) := by decide +kernel
theorem d_Table_go_11 : decode s_Table_go.2.1 11 = .ok (.ifCond .ne 5, 3) := by decide +kernel
theorem d_Table_go_14 : decode s_Table_go.2.1 14 = .ok (.iconst 0, 1) := by decide +kernel
theorem d_Table_go_15 : decode s_Table_go.2.1 15 = .ok (.ireturn, 1) := by decide +kernel
theorem d_Table_go_16 : decode s_Table_go.2.1 16 = .ok (.aload 4, 2) := by decide +kernel
theorem d_Table_go_18 : decode s_Table_go.2.1 18 = .ok (.aload_n 1, 1) := by decide +kernel
theorem d_Table_go_19 : decode s_Table_go.2.1 19 = .ok (.invokevirtual 83, 3) := by decide +kernel
theorem d_Table_go_22 : decode s_Table_go.2.1 22 = .ok (.aload_n 0, 1) := by decide +kernel
theorem d_Table_go_23 : decode s_Table_go.2.1 23 = .ok (.getfield 31, 3) := by decide +kernel
theorem d_Table_go_26 : decode s_Table_go.2.1 26 = .ok (.iload_n 2, 1) := by decide +kernel
theorem d_Table_go_27 : decode s_Table_go.2.1 27 = .ok (.aaload, 1) := by decide +kernel
theorem d_Table_go_28 : decode s_Table_go.2.1 28 = .ok (.aload 4, 2) := by decide +kernel
theorem d_Table_go_30 : decode s_Table_go.2.1 30 = .ok (.iload_n 3, 1) := by decide +kernel
theorem d_Table_go_31 : decode s_Table_go.2.1 31 = .ok (.aload_n 0, 1) := by decide +kernel
theorem d_Table_go_32 : decode s_Table_go.2.1 32 = .ok (.getfield 22, 3) := by decide +kernel
theorem d_Table_go_35 : decode s_Table_go.2.1 35 = .ok (.invokevirtual 87, 3) := by decide +kernel
theorem d_Table_go_38 : decode s_Table_go.2.1 38 = .ok (.ireturn, 1) := by decide +kernel
theorem d_Search_expand_0 : decode s_Search_expand.2.1 0 = .ok (.iconst 0, 1) := by decide +kernel
theorem d_Search_expand_1 : decode s_Search_expand.2.1 1 = .ok (.istore_n 3, 1) := by decide +kernel
theorem d_Search_expand_2 : decode s_Search_expand.2.1 2 = .ok (.iload_n 3, 1) := by decide +kernel
theorem d_Search_expand_3 : decode s_Search_expand.2.1 3 = .ok (.aload_n 2, 1) := by decide +kernel
theorem d_Search_expand_4 : decode s_Search_expand.2.1 4 = .ok (.getfield 73, 3) := by decide +kernel
theorem d_Search_expand_7 : decode s_Search_expand.2.1 7 = .ok (.if_icmp .ge 61, 3) := by decide +kernel
theorem d_Search_expand_10 : decode s_Search_expand.2.1 10 = .ok (.iconst 0, 1) := by decide +kernel
theorem d_Search_expand_11 : decode s_Search_expand.2.1 11 = .ok (.istore 4, 2) := by decide +kernel
theorem d_Search_expand_13 : decode s_Search_expand.2.1 13 = .ok (.iload 4, 2) := by decide +kernel
theorem d_Search_expand_15 : decode s_Search_expand.2.1 15 = .ok (.aload_n 2, 1) := by decide +kernel
theorem d_Search_expand_16 : decode s_Search_expand.2.1 16 = .ok (.getfield 60, 3) := by decide +kernel
theorem d_Search_expand_19 : decode s_Search_expand.2.1 19 = .ok (.if_icmp .ge 43, 3) := by decide +kernel
theorem d_Search_expand_22 : decode s_Search_expand.2.1 22 = .ok (.aload_n 2, 1) := by decide +kernel
theorem d_Search_expand_23 : decode s_Search_expand.2.1 23 = .ok (.aload_n 0, 1) := by decide +kernel
theorem d_Search_expand_24 : decode s_Search_expand.2.1 24 = .ok (.getfield 38, 3) := by decide +kernel
theorem d_Search_expand_27 : decode s_Search_expand.2.1 27 = .ok (.iload_n 3, 1) := by decide +kernel
theorem d_Search_expand_28 : decode s_Search_expand.2.1 28 = .ok (.iload 4, 2) := by decide +kernel
theorem d_Search_expand_30 : decode s_Search_expand.2.1 30 = .ok (.aload_n 0, 1) := by decide +kernel
theorem d_Search_expand_31 : decode s_Search_expand.2.1 31 = .ok (.getfield 42, 3) := by decide +kernel
theorem d_Search_expand_34 : decode s_Search_expand.2.1 34 = .ok (.invokevirtual 76, 3) := by decide +kernel
theorem d_Search_expand_37 : decode s_Search_expand.2.1 37 = .ok (.ifCond .eq 19, 3) := by decide +kernel
theorem d_Search_expand_40 : decode s_Search_expand.2.1 40 = .ok (.aload_n 0, 1) := by decide +kernel
theorem d_Search_expand_41 : decode s_Search_expand.2.1 41 = .ok (.iload_n 1, 1) := by decide +kernel
theorem d_Search_expand_42 : decode s_Search_expand.2.1 42 = .ok (.iload_n 3, 1) := by decide +kernel
theorem d_Search_expand_43 : decode s_Search_expand.2.1 43 = .ok (.iconst 4, 1) := by decide +kernel
theorem d_Search_expand_44 : decode s_Search_expand.2.1 44 = .ok (.imul, 1) := by decide +kernel
theorem d_Search_expand_45 : decode s_Search_expand.2.1 45 = .ok (.iload 4, 2) := by decide +kernel
theorem d_Search_expand_47 : decode s_Search_expand.2.1 47 = .ok (.iadd, 1) := by decide +kernel
theorem d_Search_expand_48 : decode s_Search_expand.2.1 48 = .ok (.invokevirtual 56, 3) := by decide +kernel
theorem d_Search_expand_51 : decode s_Search_expand.2.1 51 = .ok (.ifCond .ne 5, 3) := by decide +kernel
theorem d_Search_expand_54 : decode s_Search_expand.2.1 54 = .ok (.iconst 0, 1) := by decide +kernel
theorem d_Search_expand_55 : decode s_Search_expand.2.1 55 = .ok (.ireturn, 1) := by decide +kernel
theorem d_Search_expand_56 : decode s_Search_expand.2.1 56 = .ok (.iinc 4 1, 3) := by decide +kernel
theorem d_Search_expand_59 : decode s_Search_expand.2.1 59 = .ok (.goto (-46), 3) := by decide +kernel
theorem d_Search_expand_62 : decode s_Search_expand.2.1 62 = .ok (.iinc 3 1, 3) := by decide +kernel
theorem d_Search_expand_65 : decode s_Search_expand.2.1 65 = .ok (.goto (-63), 3) := by decide +kernel
theorem d_Search_expand_68 : decode s_Search_expand.2.1 68 = .ok (.iconst 1, 1) := by decide +kernel
theorem d_Search_expand_69 : decode s_Search_expand.2.1 69 = .ok (.ireturn, 1) := by decide +kernel
theorem d_Search_explore_0 : decode s_Search_explore.2.1 0 = .ok (.aload_n 0, 1) := by decide +kernel
theorem d_Search_explore_1 : decode s_Search_explore.2.1 1 = .ok (.getfield 12, 3) := by decide +kernel
theorem d_Search_explore_4 : decode s_Search_explore.2.1 4 = .ok (.invokevirtual 49, 3) := by decide +kernel
theorem d_Search_explore_7 : decode s_Search_explore.2.1 7 = .ok (.aload_n 0, 1) := by decide +kernel
theorem d_Search_explore_8 : decode s_Search_explore.2.1 8 = .ok (.iconst 0, 1) := by decide +kernel
theorem d_Search_explore_9 : decode s_Search_explore.2.1 9 = .ok (.putfield 45, 3) := by decide +kernel
theorem d_Search_explore_12 : decode s_Search_explore.2.1 12 = .ok (.aload_n 0, 1) := by decide +kernel
theorem d_Search_explore_13 : decode s_Search_explore.2.1 13 = .ok (.getfield 42, 3) := by decide +kernel
theorem d_Search_explore_16 : decode s_Search_explore.2.1 16 = .ok (.aload_n 1, 1) := by decide +kernel
theorem d_Search_explore_17 : decode s_Search_explore.2.1 17 = .ok (.invokevirtual 52, 3) := by decide +kernel
theorem d_Search_explore_20 : decode s_Search_explore.2.1 20 = .ok (.aload_n 0, 1) := by decide +kernel
theorem d_Search_explore_21 : decode s_Search_explore.2.1 21 = .ok (.iconst (-1), 1) := by decide +kernel
theorem d_Search_explore_22 : decode s_Search_explore.2.1 22 = .ok (.iconst 0, 1) := by decide +kernel
theorem d_Search_explore_23 : decode s_Search_explore.2.1 23 = .ok (.invokevirtual 56, 3) := by decide +kernel
theorem d_Search_explore_26 : decode s_Search_explore.2.1 26 = .ok (.pop, 1) := by decide +kernel
theorem d_Search_explore_27 : decode s_Search_explore.2.1 27 = .ok (.iconst 0, 1) := by decide +kernel
theorem d_Search_explore_28 : decode s_Search_explore.2.1 28 = .ok (.istore_n 2, 1) := by decide +kernel
theorem d_Search_explore_29 : decode s_Search_explore.2.1 29 = .ok (.iload_n 2, 1) := by decide +kernel
theorem d_Search_explore_30 : decode s_Search_explore.2.1 30 = .ok (.sipush 600, 3) := by decide +kernel
theorem d_Search_explore_33 : decode s_Search_explore.2.1 33 = .ok (.if_icmp .ge 45, 3) := by decide +kernel
theorem d_Search_explore_36 : decode s_Search_explore.2.1 36 = .ok (.iload_n 2, 1) := by decide +kernel
theorem d_Search_explore_37 : decode s_Search_explore.2.1 37 = .ok (.aload_n 0, 1) := by decide +kernel
theorem d_Search_explore_38 : decode s_Search_explore.2.1 38 = .ok (.getfield 45, 3) := by decide +kernel
theorem d_Search_explore_41 : decode s_Search_explore.2.1 41 = .ok (.if_icmp .ge 37, 3) := by decide +kernel
theorem d_Search_explore_44 : decode s_Search_explore.2.1 44 = .ok (.aload_n 0, 1) := by decide +kernel
theorem d_Search_explore_45 : decode s_Search_explore.2.1 45 = .ok (.getfield 38, 3) := by decide +kernel
theorem d_Search_explore_48 : decode s_Search_explore.2.1 48 = .ok (.aload_n 0, 1) := by decide +kernel
theorem d_Search_explore_49 : decode s_Search_explore.2.1 49 = .ok (.getfield 18, 3) := by decide +kernel
theorem d_Search_explore_52 : decode s_Search_explore.2.1 52 = .ok (.iload_n 2, 1) := by decide +kernel
theorem d_Search_explore_53 : decode s_Search_explore.2.1 53 = .ok (.laload, 1) := by decide +kernel
theorem d_Search_explore_54 : decode s_Search_explore.2.1 54 = .ok (.aload_n 1, 1) := by decide +kernel
theorem d_Search_explore_55 : decode s_Search_explore.2.1 55 = .ok (.getfield 60, 3) := by decide +kernel
theorem d_Search_explore_58 : decode s_Search_explore.2.1 58 = .ok (.invokevirtual 65, 3) := by decide +kernel
theorem d_Search_explore_61 : decode s_Search_explore.2.1 61 = .ok (.aload_n 0, 1) := by decide +kernel
theorem d_Search_explore_62 : decode s_Search_explore.2.1 62 = .ok (.iload_n 2, 1) := by decide +kernel
theorem d_Search_explore_63 : decode s_Search_explore.2.1 63 = .ok (.aload_n 1, 1) := by decide +kernel
theorem d_Search_explore_64 : decode s_Search_explore.2.1 64 = .ok (.invokevirtual 69, 3) := by decide +kernel
theorem d_Search_explore_67 : decode s_Search_explore.2.1 67 = .ok (.ifCond .ne 5, 3) := by decide +kernel
theorem d_Search_explore_70 : decode s_Search_explore.2.1 70 = .ok (.iconst 0, 1) := by decide +kernel
theorem d_Search_explore_71 : decode s_Search_explore.2.1 71 = .ok (.ireturn, 1) := by decide +kernel
theorem d_Search_explore_72 : decode s_Search_explore.2.1 72 = .ok (.iinc 2 1, 3) := by decide +kernel
theorem d_Search_explore_75 : decode s_Search_explore.2.1 75 = .ok (.goto (-46), 3) := by decide +kernel
theorem d_Search_explore_78 : decode s_Search_explore.2.1 78 = .ok (.iconst 1, 1) := by decide +kernel
theorem d_Search_explore_79 : decode s_Search_explore.2.1 79 = .ok (.ireturn, 1) := by decide +kernel
theorem d_Atlas_isAfter_0 : decode s_Atlas_isAfter.2.1 0 = .ok (.aload_n 0, 1) := by decide +kernel
theorem d_Atlas_isAfter_1 : decode s_Atlas_isAfter.2.1 1 = .ok (.getfield 91, 3) := by decide +kernel
theorem d_Atlas_isAfter_4 : decode s_Atlas_isAfter.2.1 4 = .ok (.iload_n 1, 1) := by decide +kernel
theorem d_Atlas_isAfter_5 : decode s_Atlas_isAfter.2.1 5 = .ok (.iaload, 1) := by decide +kernel
theorem d_Atlas_isAfter_6 : decode s_Atlas_isAfter.2.1 6 = .ok (.aload_n 0, 1) := by decide +kernel
theorem d_Atlas_isAfter_7 : decode s_Atlas_isAfter.2.1 7 = .ok (.getfield 91, 3) := by decide +kernel
theorem d_Atlas_isAfter_10 : decode s_Atlas_isAfter.2.1 10 = .ok (.iload_n 2, 1) := by decide +kernel
theorem d_Atlas_isAfter_11 : decode s_Atlas_isAfter.2.1 11 = .ok (.iaload, 1) := by decide +kernel
theorem d_Atlas_isAfter_12 : decode s_Atlas_isAfter.2.1 12 = .ok (.if_icmp .eq 24, 3) := by decide +kernel
theorem d_Atlas_isAfter_15 : decode s_Atlas_isAfter.2.1 15 = .ok (.aload_n 0, 1) := by decide +kernel
theorem d_Atlas_isAfter_16 : decode s_Atlas_isAfter.2.1 16 = .ok (.getfield 91, 3) := by decide +kernel
theorem d_Atlas_isAfter_19 : decode s_Atlas_isAfter.2.1 19 = .ok (.iload_n 1, 1) := by decide +kernel
theorem d_Atlas_isAfter_20 : decode s_Atlas_isAfter.2.1 20 = .ok (.iaload, 1) := by decide +kernel
theorem d_Atlas_isAfter_21 : decode s_Atlas_isAfter.2.1 21 = .ok (.aload_n 0, 1) := by decide +kernel
theorem d_Atlas_isAfter_22 : decode s_Atlas_isAfter.2.1 22 = .ok (.getfield 91, 3) := by decide +kernel
theorem d_Atlas_isAfter_25 : decode s_Atlas_isAfter.2.1 25 = .ok (.iload_n 2, 1) := by decide +kernel
theorem d_Atlas_isAfter_26 : decode s_Atlas_isAfter.2.1 26 = .ok (.iaload, 1) := by decide +kernel
theorem d_Atlas_isAfter_27 : decode s_Atlas_isAfter.2.1 27 = .ok (.if_icmp .le 7, 3) := by decide +kernel
theorem d_Atlas_isAfter_30 : decode s_Atlas_isAfter.2.1 30 = .ok (.iconst 1, 1) := by decide +kernel
theorem d_Atlas_isAfter_31 : decode s_Atlas_isAfter.2.1 31 = .ok (.goto 4, 3) := by decide +kernel
theorem d_Atlas_isAfter_34 : decode s_Atlas_isAfter.2.1 34 = .ok (.iconst 0, 1) := by decide +kernel
theorem d_Atlas_isAfter_35 : decode s_Atlas_isAfter.2.1 35 = .ok (.ireturn, 1) := by decide +kernel
theorem d_Atlas_isAfter_36 : decode s_Atlas_isAfter.2.1 36 = .ok (.aload_n 0, 1) := by decide +kernel
theorem d_Atlas_isAfter_37 : decode s_Atlas_isAfter.2.1 37 = .ok (.getfield 88, 3) := by decide +kernel
theorem d_Atlas_isAfter_40 : decode s_Atlas_isAfter.2.1 40 = .ok (.iload_n 1, 1) := by decide +kernel
theorem d_Atlas_isAfter_41 : decode s_Atlas_isAfter.2.1 41 = .ok (.laload, 1) := by decide +kernel
theorem d_Atlas_isAfter_42 : decode s_Atlas_isAfter.2.1 42 = .ok (.aload_n 0, 1) := by decide +kernel
theorem d_Atlas_isAfter_43 : decode s_Atlas_isAfter.2.1 43 = .ok (.getfield 88, 3) := by decide +kernel
theorem d_Atlas_isAfter_46 : decode s_Atlas_isAfter.2.1 46 = .ok (.iload_n 2, 1) := by decide +kernel
theorem d_Atlas_isAfter_47 : decode s_Atlas_isAfter.2.1 47 = .ok (.laload, 1) := by decide +kernel
theorem d_Atlas_isAfter_48 : decode s_Atlas_isAfter.2.1 48 = .ok (.lcmp, 1) := by decide +kernel
theorem d_Atlas_isAfter_49 : decode s_Atlas_isAfter.2.1 49 = .ok (.ifCond .le 7, 3) := by decide +kernel
theorem d_Atlas_isAfter_52 : decode s_Atlas_isAfter.2.1 52 = .ok (.iconst 1, 1) := by decide +kernel
theorem d_Atlas_isAfter_53 : decode s_Atlas_isAfter.2.1 53 = .ok (.goto 4, 3) := by decide +kernel
theorem d_Atlas_isAfter_56 : decode s_Atlas_isAfter.2.1 56 = .ok (.iconst 0, 1) := by decide +kernel
theorem d_Atlas_isAfter_57 : decode s_Atlas_isAfter.2.1 57 = .ok (.ireturn, 1) := by decide +kernel
theorem d_Atlas_sort_0 : decode s_Atlas_sort.2.1 0 = .ok (.iconst 0, 1) := by decide +kernel
theorem d_Atlas_sort_1 : decode s_Atlas_sort.2.1 1 = .ok (.istore_n 2, 1) := by decide +kernel
theorem d_Atlas_sort_2 : decode s_Atlas_sort.2.1 2 = .ok (.iload_n 2, 1) := by decide +kernel
theorem d_Atlas_sort_3 : decode s_Atlas_sort.2.1 3 = .ok (.aload_n 0, 1) := by decide +kernel
theorem d_Atlas_sort_4 : decode s_Atlas_sort.2.1 4 = .ok (.getfield 9, 3) := by decide +kernel
theorem d_Atlas_sort_7 : decode s_Atlas_sort.2.1 7 = .ok (.if_icmp .ge 58, 3) := by decide +kernel
theorem d_Atlas_sort_10 : decode s_Atlas_sort.2.1 10 = .ok (.iload_n 2, 1) := by decide +kernel
theorem d_Atlas_sort_11 : decode s_Atlas_sort.2.1 11 = .ok (.istore_n 3, 1) := by decide +kernel
theorem d_Atlas_sort_12 : decode s_Atlas_sort.2.1 12 = .ok (.iload_n 3, 1) := by decide +kernel
theorem d_Atlas_sort_13 : decode s_Atlas_sort.2.1 13 = .ok (.ifCond .le 39, 3) := by decide +kernel
theorem d_Atlas_sort_16 : decode s_Atlas_sort.2.1 16 = .ok (.aload_n 1, 1) := by decide +kernel
theorem d_Atlas_sort_17 : decode s_Atlas_sort.2.1 17 = .ok (.aload_n 0, 1) := by decide +kernel
theorem d_Atlas_sort_18 : decode s_Atlas_sort.2.1 18 = .ok (.getfield 59, 3) := by decide +kernel
theorem d_Atlas_sort_21 : decode s_Atlas_sort.2.1 21 = .ok (.iload_n 3, 1) := by decide +kernel
theorem d_Atlas_sort_22 : decode s_Atlas_sort.2.1 22 = .ok (.iconst 1, 1) := by decide +kernel
theorem d_Atlas_sort_23 : decode s_Atlas_sort.2.1 23 = .ok (.isub, 1) := by decide +kernel
theorem d_Atlas_sort_24 : decode s_Atlas_sort.2.1 24 = .ok (.iaload, 1) := by decide +kernel
theorem d_Atlas_sort_25 : decode s_Atlas_sort.2.1 25 = .ok (.iload_n 2, 1) := by decide +kernel
theorem d_Atlas_sort_26 : decode s_Atlas_sort.2.1 26 = .ok (.invokestatic 109, 3) := by decide +kernel
theorem d_Atlas_sort_29 : decode s_Atlas_sort.2.1 29 = .ok (.ifCond .eq 23, 3) := by decide +kernel
theorem d_Atlas_sort_32 : decode s_Atlas_sort.2.1 32 = .ok (.aload_n 0, 1) := by decide +kernel
theorem d_Atlas_sort_33 : decode s_Atlas_sort.2.1 33 = .ok (.getfield 59, 3) := by decide +kernel
theorem d_Atlas_sort_36 : decode s_Atlas_sort.2.1 36 = .ok (.iload_n 3, 1) := by decide +kernel
theorem d_Atlas_sort_37 : decode s_Atlas_sort.2.1 37 = .ok (.aload_n 0, 1) := by decide +kernel
theorem d_Atlas_sort_38 : decode s_Atlas_sort.2.1 38 = .ok (.getfield 59, 3) := by decide +kernel
theorem d_Atlas_sort_41 : decode s_Atlas_sort.2.1 41 = .ok (.iload_n 3, 1) := by decide +kernel
theorem d_Atlas_sort_42 : decode s_Atlas_sort.2.1 42 = .ok (.iconst 1, 1) := by decide +kernel
theorem d_Atlas_sort_43 : decode s_Atlas_sort.2.1 43 = .ok (.isub, 1) := by decide +kernel
theorem d_Atlas_sort_44 : decode s_Atlas_sort.2.1 44 = .ok (.iaload, 1) := by decide +kernel
theorem d_Atlas_sort_45 : decode s_Atlas_sort.2.1 45 = .ok (.iastore, 1) := by decide +kernel
theorem d_Atlas_sort_46 : decode s_Atlas_sort.2.1 46 = .ok (.iinc 3 (-1), 3) := by decide +kernel
theorem d_Atlas_sort_49 : decode s_Atlas_sort.2.1 49 = .ok (.goto (-37), 3) := by decide +kernel
theorem d_Atlas_sort_52 : decode s_Atlas_sort.2.1 52 = .ok (.aload_n 0, 1) := by decide +kernel
theorem d_Atlas_sort_53 : decode s_Atlas_sort.2.1 53 = .ok (.getfield 59, 3) := by decide +kernel
theorem d_Atlas_sort_56 : decode s_Atlas_sort.2.1 56 = .ok (.iload_n 3, 1) := by decide +kernel
theorem d_Atlas_sort_57 : decode s_Atlas_sort.2.1 57 = .ok (.iload_n 2, 1) := by decide +kernel
theorem d_Atlas_sort_58 : decode s_Atlas_sort.2.1 58 = .ok (.iastore, 1) := by decide +kernel
theorem d_Atlas_sort_59 : decode s_Atlas_sort.2.1 59 = .ok (.iinc 2 1, 3) := by decide +kernel
theorem d_Atlas_sort_62 : decode s_Atlas_sort.2.1 62 = .ok (.goto (-60), 3) := by decide +kernel
theorem d_Atlas_sort_65 : decode s_Atlas_sort.2.1 65 = .ok (.iconst 0, 1) := by decide +kernel
theorem d_Atlas_sort_66 : decode s_Atlas_sort.2.1 66 = .ok (.istore_n 2, 1) := by decide +kernel
theorem d_Atlas_sort_67 : decode s_Atlas_sort.2.1 67 = .ok (.iload_n 2, 1) := by decide +kernel
theorem d_Atlas_sort_68 : decode s_Atlas_sort.2.1 68 = .ok (.aload_n 0, 1) := by decide +kernel
theorem d_Atlas_sort_69 : decode s_Atlas_sort.2.1 69 = .ok (.getfield 9, 3) := by decide +kernel
theorem d_Atlas_sort_72 : decode s_Atlas_sort.2.1 72 = .ok (.if_icmp .ge 21, 3) := by decide +kernel
theorem d_Atlas_sort_75 : decode s_Atlas_sort.2.1 75 = .ok (.aload_n 0, 1) := by decide +kernel
theorem d_Atlas_sort_76 : decode s_Atlas_sort.2.1 76 = .ok (.getfield 62, 3) := by decide +kernel
theorem d_Atlas_sort_79 : decode s_Atlas_sort.2.1 79 = .ok (.aload_n 0, 1) := by decide +kernel
theorem d_Atlas_sort_80 : decode s_Atlas_sort.2.1 80 = .ok (.getfield 59, 3) := by decide +kernel
theorem d_Atlas_sort_83 : decode s_Atlas_sort.2.1 83 = .ok (.iload_n 2, 1) := by decide +kernel
theorem d_Atlas_sort_84 : decode s_Atlas_sort.2.1 84 = .ok (.iaload, 1) := by decide +kernel
theorem d_Atlas_sort_85 : decode s_Atlas_sort.2.1 85 = .ok (.iload_n 2, 1) := by decide +kernel
theorem d_Atlas_sort_86 : decode s_Atlas_sort.2.1 86 = .ok (.iastore, 1) := by decide +kernel
theorem d_Atlas_sort_87 : decode s_Atlas_sort.2.1 87 = .ok (.iinc 2 1, 3) := by decide +kernel
theorem d_Atlas_sort_90 : decode s_Atlas_sort.2.1 90 = .ok (.goto (-23), 3) := by decide +kernel
theorem d_Atlas_sort_93 : decode s_Atlas_sort.2.1 93 = .ok (.return_, 1) := by decide +kernel
theorem d_World_inState_0 : decode s_World_inState.2.1 0 = .ok (.iconst 0, 1) := by decide +kernel
theorem d_World_inState_1 : decode s_World_inState.2.1 1 = .ok (.istore_n 2, 1) := by decide +kernel
theorem d_World_inState_2 : decode s_World_inState.2.1 2 = .ok (.iconst 0, 1) := by decide +kernel
theorem d_World_inState_3 : decode s_World_inState.2.1 3 = .ok (.istore_n 3, 1) := by decide +kernel
theorem d_World_inState_4 : decode s_World_inState.2.1 4 = .ok (.iload_n 3, 1) := by decide +kernel
theorem d_World_inState_5 : decode s_World_inState.2.1 5 = .ok (.aload_n 0, 1) := by decide +kernel
theorem d_World_inState_6 : decode s_World_inState.2.1 6 = .ok (.getfield 15, 3) := by decide +kernel
theorem d_World_inState_9 : decode s_World_inState.2.1 9 = .ok (.if_icmp .ge 31, 3) := by decide +kernel
theorem d_World_inState_12 : decode s_World_inState.2.1 12 = .ok (.iload_n 2, 1) := by decide +kernel
theorem d_World_inState_13 : decode s_World_inState.2.1 13 = .ok (.aload_n 0, 1) := by decide +kernel
theorem d_World_inState_14 : decode s_World_inState.2.1 14 = .ok (.getfield 18, 3) := by decide +kernel
theorem d_World_inState_17 : decode s_World_inState.2.1 17 = .ok (.iload_n 3, 1) := by decide +kernel
theorem d_World_inState_18 : decode s_World_inState.2.1 18 = .ok (.iaload, 1) := by decide +kernel
theorem d_World_inState_19 : decode s_World_inState.2.1 19 = .ok (.iconst 0, 1) := by decide +kernel
theorem d_World_inState_20 : decode s_World_inState.2.1 20 = .ok (.invokestatic 56, 3) := by decide +kernel
theorem d_World_inState_23 : decode s_World_inState.2.1 23 = .ok (.iload_n 1, 1) := by decide +kernel
theorem d_World_inState_24 : decode s_World_inState.2.1 24 = .ok (.if_icmp .ne 7, 3) := by decide +kernel
theorem d_World_inState_27 : decode s_World_inState.2.1 27 = .ok (.iconst 1, 1) := by decide +kernel
theorem d_World_inState_28 : decode s_World_inState.2.1 28 = .ok (.goto 4, 3) := by decide +kernel
theorem d_World_inState_31 : decode s_World_inState.2.1 31 = .ok (.iconst 0, 1) := by decide +kernel
theorem d_World_inState_32 : decode s_World_inState.2.1 32 = .ok (.iadd, 1) := by decide +kernel
theorem d_World_inState_33 : decode s_World_inState.2.1 33 = .ok (.istore_n 2, 1) := by decide +kernel
theorem d_World_inState_34 : decode s_World_inState.2.1 34 = .ok (.iinc 3 1, 3) := by decide +kernel
theorem d_World_inState_37 : decode s_World_inState.2.1 37 = .ok (.goto (-33), 3) := by decide +kernel
theorem d_World_inState_40 : decode s_World_inState.2.1 40 = .ok (.iload_n 2, 1) := by decide +kernel
theorem d_World_inState_41 : decode s_World_inState.2.1 41 = .ok (.ireturn, 1) := by decide +kernel
theorem d_Table_isBad_0 : decode s_Table_isBad.2.1 0 = .ok (.iconst 0, 1) := by decide +kernel
theorem d_Table_isBad_1 : decode s_Table_isBad.2.1 1 = .ok (.istore_n 2, 1) := by decide +kernel
theorem d_Table_isBad_2 : decode s_Table_isBad.2.1 2 = .ok (.iload_n 2, 1) := by decide +kernel
theorem d_Table_isBad_3 : decode s_Table_isBad.2.1 3 = .ok (.aload_n 0, 1) := by decide +kernel
theorem d_Table_isBad_4 : decode s_Table_isBad.2.1 4 = .ok (.getfield 35, 3) := by decide +kernel
theorem d_Table_isBad_7 : decode s_Table_isBad.2.1 7 = .ok (.if_icmp .ge 74, 3) := by decide +kernel
theorem d_Table_isBad_10 : decode s_Table_isBad.2.1 10 = .ok (.iconst 1, 1) := by decide +kernel
theorem d_Table_isBad_11 : decode s_Table_isBad.2.1 11 = .ok (.istore_n 3, 1) := by decide +kernel
theorem d_Table_isBad_12 : decode s_Table_isBad.2.1 12 = .ok (.iconst 0, 1) := by decide +kernel
theorem d_Table_isBad_13 : decode s_Table_isBad.2.1 13 = .ok (.istore 4, 2) := by decide +kernel
theorem d_Table_isBad_15 : decode s_Table_isBad.2.1 15 = .ok (.iload 4, 2) := by decide +kernel
theorem d_Table_isBad_17 : decode s_Table_isBad.2.1 17 = .ok (.aload_n 0, 1) := by decide +kernel
theorem d_Table_isBad_18 : decode s_Table_isBad.2.1 18 = .ok (.getfield 38, 3) := by decide +kernel
theorem d_Table_isBad_21 : decode s_Table_isBad.2.1 21 = .ok (.iload_n 2, 1) := by decide +kernel
theorem d_Table_isBad_22 : decode s_Table_isBad.2.1 22 = .ok (.iaload, 1) := by decide +kernel
theorem d_Table_isBad_23 : decode s_Table_isBad.2.1 23 = .ok (.if_icmp .ge 46, 3) := by decide +kernel
theorem d_Table_isBad_26 : decode s_Table_isBad.2.1 26 = .ok (.iload_n 2, 1) := by decide +kernel
theorem d_Table_isBad_27 : decode s_Table_isBad.2.1 27 = .ok (.iconst 3, 1) := by decide +kernel
theorem d_Table_isBad_28 : decode s_Table_isBad.2.1 28 = .ok (.imul, 1) := by decide +kernel
theorem d_Table_isBad_29 : decode s_Table_isBad.2.1 29 = .ok (.iload 4, 2) := by decide +kernel
theorem d_Table_isBad_31 : decode s_Table_isBad.2.1 31 = .ok (.iadd, 1) := by decide +kernel
theorem d_Table_isBad_32 : decode s_Table_isBad.2.1 32 = .ok (.istore 5, 2) := by decide +kernel
theorem d_Table_isBad_34 : decode s_Table_isBad.2.1 34 = .ok (.iload_n 3, 1) := by decide +kernel
theorem d_Table_isBad_35 : decode s_Table_isBad.2.1 35 = .ok (.aload_n 1, 1) := by decide +kernel
theorem d_Table_isBad_36 : decode s_Table_isBad.2.1 36 = .ok (.aload_n 0, 1) := by decide +kernel
theorem d_Table_isBad_37 : decode s_Table_isBad.2.1 37 = .ok (.getfield 44, 3) := by decide +kernel
theorem d_Table_isBad_40 : decode s_Table_isBad.2.1 40 = .ok (.iload 5, 2) := by decide +kernel
theorem d_Table_isBad_42 : decode s_Table_isBad.2.1 42 = .ok (.iaload, 1) := by decide +kernel
theorem d_Table_isBad_43 : decode s_Table_isBad.2.1 43 = .ok (.invokevirtual 73, 3) := by decide +kernel
theorem d_Table_isBad_46 : decode s_Table_isBad.2.1 46 = .ok (.aload_n 0, 1) := by decide +kernel
theorem d_Table_isBad_47 : decode s_Table_isBad.2.1 47 = .ok (.getfield 41, 3) := by decide +kernel
theorem d_Table_isBad_50 : decode s_Table_isBad.2.1 50 = .ok (.iload 5, 2) := by decide +kernel
theorem d_Table_isBad_52 : decode s_Table_isBad.2.1 52 = .ok (.iaload, 1) := by decide +kernel
theorem d_Table_isBad_53 : decode s_Table_isBad.2.1 53 = .ok (.if_icmp .lt 7, 3) := by decide +kernel
theorem d_Table_isBad_56 : decode s_Table_isBad.2.1 56 = .ok (.iconst 1, 1) := by decide +kernel
theorem d_Table_isBad_57 : decode s_Table_isBad.2.1 57 = .ok (.goto 4, 3) := by decide +kernel
theorem d_Table_isBad_60 : decode s_Table_isBad.2.1 60 = .ok (.iconst 0, 1) := by decide +kernel
theorem d_Table_isBad_61 : decode s_Table_isBad.2.1 61 = .ok (.iand, 1) := by decide +kernel
theorem d_Table_isBad_62 : decode s_Table_isBad.2.1 62 = .ok (.istore_n 3, 1) := by decide +kernel
theorem d_Table_isBad_63 : decode s_Table_isBad.2.1 63 = .ok (.iinc 4 1, 3) := by decide +kernel
theorem d_Table_isBad_66 : decode s_Table_isBad.2.1 66 = .ok (.goto (-51), 3) := by decide +kernel
theorem d_Table_isBad_69 : decode s_Table_isBad.2.1 69 = .ok (.iload_n 3, 1) := by decide +kernel
theorem d_Table_isBad_70 : decode s_Table_isBad.2.1 70 = .ok (.ifCond .eq 5, 3) := by decide +kernel
theorem d_Table_isBad_73 : decode s_Table_isBad.2.1 73 = .ok (.iconst 1, 1) := by decide +kernel
theorem d_Table_isBad_74 : decode s_Table_isBad.2.1 74 = .ok (.ireturn, 1) := by decide +kernel
theorem d_Table_isBad_75 : decode s_Table_isBad.2.1 75 = .ok (.iinc 2 1, 3) := by decide +kernel
theorem d_Table_isBad_78 : decode s_Table_isBad.2.1 78 = .ok (.goto (-76), 3) := by decide +kernel
theorem d_Table_isBad_81 : decode s_Table_isBad.2.1 81 = .ok (.iconst 0, 1) := by decide +kernel
theorem d_Table_isBad_82 : decode s_Table_isBad.2.1 82 = .ok (.ireturn, 1) := by decide +kernel
theorem d_Atlas_describe_0 : decode s_Atlas_describe.2.1 0 = .ok (.aload_n 0, 1) := by decide +kernel
theorem d_Atlas_describe_1 : decode s_Atlas_describe.2.1 1 = .ok (.getfield 42, 3) := by decide +kernel
theorem d_Atlas_describe_4 : decode s_Atlas_describe.2.1 4 = .ok (.iload_n 1, 1) := by decide +kernel
theorem d_Atlas_describe_5 : decode s_Atlas_describe.2.1 5 = .ok (.aload_n 2, 1) := by decide +kernel
theorem d_Atlas_describe_6 : decode s_Atlas_describe.2.1 6 = .ok (.aload_n 0, 1) := by decide +kernel
theorem d_Atlas_describe_7 : decode s_Atlas_describe.2.1 7 = .ok (.getfield 68, 3) := by decide +kernel
theorem d_Atlas_describe_10 : decode s_Atlas_describe.2.1 10 = .ok (.invokevirtual 113, 3) := by decide +kernel
theorem d_Atlas_describe_13 : decode s_Atlas_describe.2.1 13 = .ok (.bastore, 1) := by decide +kernel
theorem d_Atlas_describe_14 : decode s_Atlas_describe.2.1 14 = .ok (.iconst 1, 1) := by decide +kernel
theorem d_Atlas_describe_15 : decode s_Atlas_describe.2.1 15 = .ok (.istore_n 3, 1) := by decide +kernel
theorem d_Atlas_describe_16 : decode s_Atlas_describe.2.1 16 = .ok (.iconst 0, 1) := by decide +kernel
theorem d_Atlas_describe_17 : decode s_Atlas_describe.2.1 17 = .ok (.istore 4, 2) := by decide +kernel
theorem d_Atlas_describe_19 : decode s_Atlas_describe.2.1 19 = .ok (.iconst 0, 1) := by decide +kernel
theorem d_Atlas_describe_20 : decode s_Atlas_describe.2.1 20 = .ok (.istore 5, 2) := by decide +kernel
theorem d_Atlas_describe_22 : decode s_Atlas_describe.2.1 22 = .ok (.iload 5, 2) := by decide +kernel
theorem d_Atlas_describe_24 : decode s_Atlas_describe.2.1 24 = .ok (.aload_n 0, 1) := by decide +kernel
theorem d_Atlas_describe_25 : decode s_Atlas_describe.2.1 25 = .ok (.getfield 15, 3) := by decide +kernel
theorem d_Atlas_describe_28 : decode s_Atlas_describe.2.1 28 = .ok (.if_icmp .ge 122, 3) := by decide +kernel
theorem d_Atlas_describe_31 : decode s_Atlas_describe.2.1 31 = .ok (.iload_n 1, 1) := by decide +kernel
theorem d_Atlas_describe_32 : decode s_Atlas_describe.2.1 32 = .ok (.iconst 4, 1) := by decide +kernel
theorem d_Atlas_describe_33 : decode s_Atlas_describe.2.1 33 = .ok (.imul, 1) := by decide +kernel
theorem d_Atlas_describe_34 : decode s_Atlas_describe.2.1 34 = .ok (.iload 5, 2) := by decide +kernel
theorem d_Atlas_describe_36 : decode s_Atlas_describe.2.1 36 = .ok (.iadd, 1) := by decide +kernel
theorem d_Atlas_describe_37 : decode s_Atlas_describe.2.1 37 = .ok (.istore 6, 2) := by decide +kernel
theorem d_Atlas_describe_39 : decode s_Atlas_describe.2.1 39 = .ok (.aload_n 0, 1) := by decide +kernel
theorem d_Atlas_describe_40 : decode s_Atlas_describe.2.1 40 = .ok (.getfield 46, 3) := by decide +kernel
theorem d_Atlas_describe_43 : decode s_Atlas_describe.2.1 43 = .ok (.iload 6, 2) := by decide +kernel
theorem d_Atlas_describe_45 : decode s_Atlas_describe.2.1 45 = .ok (.aload_n 0, 1) := by decide +kernel
theorem d_Atlas_describe_46 : decode s_Atlas_describe.2.1 46 = .ok (.getfield 68, 3) := by decide +kernel
theorem d_Atlas_describe_49 : decode s_Atlas_describe.2.1 49 = .ok (.getfield 117, 3) := by decide +kernel
theorem d_Atlas_describe_52 : decode s_Atlas_describe.2.1 52 = .ok (.iload 5, 2) := by decide +kernel
theorem d_Atlas_describe_54 : decode s_Atlas_describe.2.1 54 = .ok (.iaload, 1) := by decide +kernel
theorem d_Atlas_describe_55 : decode s_Atlas_describe.2.1 55 = .ok (.iastore, 1) := by decide +kernel
theorem d_Atlas_describe_56 : decode s_Atlas_describe.2.1 56 = .ok (.iload 5, 2) := by decide +kernel
theorem d_Atlas_describe_58 : decode s_Atlas_describe.2.1 58 = .ok (.ifCond .le 32, 3) := by decide +kernel
theorem d_Atlas_describe_61 : decode s_Atlas_describe.2.1 61 = .ok (.aload_n 0, 1) := by decide +kernel
theorem d_Atlas_describe_62 : decode s_Atlas_describe.2.1 62 = .ok (.getfield 68, 3) := by decide +kernel
theorem d_Atlas_describe_65 : decode s_Atlas_describe.2.1 65 = .ok (.getfield 117, 3) := by decide +kernel
theorem d_Atlas_describe_68 : decode s_Atlas_describe.2.1 68 = .ok (.iload 5, 2) := by decide +kernel
theorem d_Atlas_describe_70 : decode s_Atlas_describe.2.1 70 = .ok (.iaload, 1) := by decide +kernel
theorem d_Atlas_describe_71 : decode s_Atlas_describe.2.1 71 = .ok (.aload_n 0, 1) := by decide +kernel
theorem d_Atlas_describe_72 : decode s_Atlas_describe.2.1 72 = .ok (.getfield 68, 3) := by decide +kernel
theorem d_Atlas_describe_75 : decode s_Atlas_describe.2.1 75 = .ok (.getfield 117, 3) := by decide +kernel
theorem d_Atlas_describe_78 : decode s_Atlas_describe.2.1 78 = .ok (.iload 5, 2) := by decide +kernel
theorem d_Atlas_describe_80 : decode s_Atlas_describe.2.1 80 = .ok (.iconst 1, 1) := by decide +kernel
theorem d_Atlas_describe_81 : decode s_Atlas_describe.2.1 81 = .ok (.isub, 1) := by decide +kernel
theorem d_Atlas_describe_82 : decode s_Atlas_describe.2.1 82 = .ok (.iaload, 1) := by decide +kernel
theorem d_Atlas_describe_83 : decode s_Atlas_describe.2.1 83 = .ok (.if_icmp .ne 7, 3) := by decide +kernel
theorem d_Atlas_describe_86 : decode s_Atlas_describe.2.1 86 = .ok (.iconst 1, 1) := by decide +kernel
theorem d_Atlas_describe_87 : decode s_Atlas_describe.2.1 87 = .ok (.goto 4, 3) := by decide +kernel
theorem d_Atlas_describe_90 : decode s_Atlas_describe.2.1 90 = .ok (.iconst 0, 1) := by decide +kernel
theorem d_Atlas_describe_91 : decode s_Atlas_describe.2.1 91 = .ok (.istore 7, 2) := by decide +kernel
theorem d_Atlas_describe_93 : decode s_Atlas_describe.2.1 93 = .ok (.aload_n 0, 1) := by decide +kernel
theorem d_Atlas_describe_94 : decode s_Atlas_describe.2.1 94 = .ok (.getfield 49, 3) := by decide +kernel
theorem d_Atlas_describe_97 : decode s_Atlas_describe.2.1 97 = .ok (.iload 6, 2) := by decide +kernel
theorem d_Atlas_describe_99 : decode s_Atlas_describe.2.1 99 = .ok (.iload 7, 2) := by decide +kernel
theorem d_Atlas_describe_101 : decode s_Atlas_describe.2.1 101 = .ok (.ifCond .eq 15, 3) := by decide +kernel
theorem d_Atlas_describe_104 : decode s_Atlas_describe.2.1 104 = .ok (.aload_n 0, 1) := by decide +kernel
theorem d_Atlas_describe_105 : decode s_Atlas_describe.2.1 105 = .ok (.getfield 49, 3) := by decide +kernel
theorem d_Atlas_describe_108 : decode s_Atlas_describe.2.1 108 = .ok (.iload 6, 2) := by decide +kernel
theorem d_Atlas_describe_110 : decode s_Atlas_describe.2.1 110 = .ok (.iconst 1, 1) := by decide +kernel
theorem d_Atlas_describe_111 : decode s_Atlas_describe.2.1 111 = .ok (.isub, 1) := by decide +kernel
theorem d_Atlas_describe_112 : decode s_Atlas_describe.2.1 112 = .ok (.iaload, 1) := by decide +kernel
theorem d_Atlas_describe_113 : decode s_Atlas_describe.2.1 113 = .ok (.goto 5, 3) := by decide +kernel
theorem d_Atlas_describe_116 : decode s_Atlas_describe.2.1 116 = .ok (.iload 5, 2) := by decide +kernel
theorem d_Atlas_describe_118 : decode s_Atlas_describe.2.1 118 = .ok (.iastore, 1) := by decide +kernel
theorem d_Atlas_describe_119 : decode s_Atlas_describe.2.1 119 = .ok (.iload 7, 2) := by decide +kernel
theorem d_Atlas_describe_121 : decode s_Atlas_describe.2.1 121 = .ok (.ifCond .eq 10, 3) := by decide +kernel
theorem d_Atlas_describe_124 : decode s_Atlas_describe.2.1 124 = .ok (.iload 4, 2) := by decide +kernel
theorem d_Atlas_describe_126 : decode s_Atlas_describe.2.1 126 = .ok (.iconst 1, 1) := by decide +kernel
theorem d_Atlas_describe_127 : decode s_Atlas_describe.2.1 127 = .ok (.iadd, 1) := by decide +kernel
theorem d_Atlas_describe_128 : decode s_Atlas_describe.2.1 128 = .ok (.goto 4, 3) := by decide +kernel
theorem d_Atlas_describe_131 : decode s_Atlas_describe.2.1 131 = .ok (.iconst 1, 1) := by decide +kernel
theorem d_Atlas_describe_132 : decode s_Atlas_describe.2.1 132 = .ok (.istore 4, 2) := by decide +kernel
theorem d_Atlas_describe_134 : decode s_Atlas_describe.2.1 134 = .ok (.iload_n 3, 1) := by decide +kernel
theorem d_Atlas_describe_135 : decode s_Atlas_describe.2.1 135 = .ok (.iload 5, 2) := by decide +kernel
theorem d_Atlas_describe_137 : decode s_Atlas_describe.2.1 137 = .ok (.iconst 1, 1) := by decide +kernel
theorem d_Atlas_describe_138 : decode s_Atlas_describe.2.1 138 = .ok (.iadd, 1) := by decide +kernel
theorem d_Atlas_describe_139 : decode s_Atlas_describe.2.1 139 = .ok (.imul, 1) := by decide +kernel
theorem d_Atlas_describe_140 : decode s_Atlas_describe.2.1 140 = .ok (.iload 4, 2) := by decide +kernel
theorem d_Atlas_describe_142 : decode s_Atlas_describe.2.1 142 = .ok (.idiv, 1) := by decide +kernel
theorem d_Atlas_describe_143 : decode s_Atlas_describe.2.1 143 = .ok (.istore_n 3, 1) := by decide +kernel
theorem d_Atlas_describe_144 : decode s_Atlas_describe.2.1 144 = .ok (.iinc 5 1, 3) := by decide +kernel
theorem d_Atlas_describe_147 : decode s_Atlas_describe.2.1 147 = .ok (.goto (-125), 3) := by decide +kernel
theorem d_Atlas_describe_150 : decode s_Atlas_describe.2.1 150 = .ok (.aload_n 0, 1) := by decide +kernel
theorem d_Atlas_describe_151 : decode s_Atlas_describe.2.1 151 = .ok (.getfield 39, 3) := by decide +kernel
theorem d_Atlas_describe_154 : decode s_Atlas_describe.2.1 154 = .ok (.iload_n 1, 1) := by decide +kernel
theorem d_Atlas_describe_155 : decode s_Atlas_describe.2.1 155 = .ok (.iload_n 3, 1) := by decide +kernel
theorem d_Atlas_describe_156 : decode s_Atlas_describe.2.1 156 = .ok (.iastore, 1) := by decide +kernel
theorem d_Atlas_describe_157 : decode s_Atlas_describe.2.1 157 = .ok (.return_, 1) := by decide +kernel
theorem d_Atlas_number_0 : decode s_Atlas_number.2.1 0 = .ok (.aload_n 0, 1) := by decide +kernel
theorem d_Atlas_number_1 : decode s_Atlas_number.2.1 1 = .ok (.getfield 21, 3) := by decide +kernel
theorem d_Atlas_number_4 : decode s_Atlas_number.2.1 4 = .ok (.aload_n 1, 1) := by decide +kernel
theorem d_Atlas_number_5 : decode s_Atlas_number.2.1 5 = .ok (.invokevirtual 136, 3) := by decide +kernel
theorem d_Atlas_number_8 : decode s_Atlas_number.2.1 8 = .ok (.invokevirtual 140, 3) := by decide +kernel
theorem d_Atlas_number_11 : decode s_Atlas_number.2.1 11 = .ok (.ireturn, 1) := by decide +kernel
theorem d_Atlas_pack_0 : decode s_Atlas_pack.2.1 0 = .ok (.iconst 0, 1) := by decide +kernel
theorem d_Atlas_pack_1 : decode s_Atlas_pack.2.1 1 = .ok (.istore 4, 2) := by decide +kernel
theorem d_Atlas_pack_3 : decode s_Atlas_pack.2.1 3 = .ok (.iconst 0, 1) := by decide +kernel
theorem d_Atlas_pack_4 : decode s_Atlas_pack.2.1 4 = .ok (.istore 5, 2) := by decide +kernel
theorem d_Atlas_pack_6 : decode s_Atlas_pack.2.1 6 = .ok (.iload 5, 2) := by decide +kernel
theorem d_Atlas_pack_8 : decode s_Atlas_pack.2.1 8 = .ok (.aload_n 0, 1) := by decide +kernel
theorem d_Atlas_pack_9 : decode s_Atlas_pack.2.1 9 = .ok (.getfield 15, 3) := by decide +kernel
theorem d_Atlas_pack_12 : decode s_Atlas_pack.2.1 12 = .ok (.if_icmp .ge 29, 3) := by decide +kernel
theorem d_Atlas_pack_15 : decode s_Atlas_pack.2.1 15 = .ok (.iload 4, 2) := by decide +kernel
theorem d_Atlas_pack_17 : decode s_Atlas_pack.2.1 17 = .ok (.aload_n 0, 1) := by decide +kernel
theorem d_Atlas_pack_18 : decode s_Atlas_pack.2.1 18 = .ok (.getfield 72, 3) := by decide +kernel
theorem d_Atlas_pack_21 : decode s_Atlas_pack.2.1 21 = .ok (.getfield 133, 3) := by decide +kernel
theorem d_Atlas_pack_24 : decode s_Atlas_pack.2.1 24 = .ok (.iload 5, 2) := by decide +kernel
theorem d_Atlas_pack_26 : decode s_Atlas_pack.2.1 26 = .ok (.iaload, 1) := by decide +kernel
theorem d_Atlas_pack_27 : decode s_Atlas_pack.2.1 27 = .ok (.iconst 2, 1) := by decide +kernel
theorem d_Atlas_pack_28 : decode s_Atlas_pack.2.1 28 = .ok (.iload 5, 2) := by decide +kernel
theorem d_Atlas_pack_30 : decode s_Atlas_pack.2.1 30 = .ok (.imul, 1) := by decide +kernel
theorem d_Atlas_pack_31 : decode s_Atlas_pack.2.1 31 = .ok (.ishl, 1) := by decide +kernel
theorem d_Atlas_pack_32 : decode s_Atlas_pack.2.1 32 = .ok (.ior, 1) := by decide +kernel
theorem d_Atlas_pack_33 : decode s_Atlas_pack.2.1 33 = .ok (.istore 4, 2) := by decide +kernel
theorem d_Atlas_pack_35 : decode s_Atlas_pack.2.1 35 = .ok (.iinc 5 1, 3) := by decide +kernel
theorem d_Atlas_pack_38 : decode s_Atlas_pack.2.1 38 = .ok (.goto (-32), 3) := by decide +kernel
theorem d_Atlas_pack_41 : decode s_Atlas_pack.2.1 41 = .ok (.iload_n 1, 1) := by decide +kernel
theorem d_Atlas_pack_42 : decode s_Atlas_pack.2.1 42 = .ok (.bipush 16, 2) := by decide +kernel
theorem d_Atlas_pack_44 : decode s_Atlas_pack.2.1 44 = .ok (.imul, 1) := by decide +kernel
theorem d_Atlas_pack_45 : decode s_Atlas_pack.2.1 45 = .ok (.iload_n 2, 1) := by decide +kernel
theorem d_Atlas_pack_46 : decode s_Atlas_pack.2.1 46 = .ok (.iadd, 1) := by decide +kernel
theorem d_Atlas_pack_47 : decode s_Atlas_pack.2.1 47 = .ok (.iconst 4, 1) := by decide +kernel
theorem d_Atlas_pack_48 : decode s_Atlas_pack.2.1 48 = .ok (.imul, 1) := by decide +kernel
theorem d_Atlas_pack_49 : decode s_Atlas_pack.2.1 49 = .ok (.iload_n 3, 1) := by decide +kernel
theorem d_Atlas_pack_50 : decode s_Atlas_pack.2.1 50 = .ok (.iadd, 1) := by decide +kernel
theorem d_Atlas_pack_51 : decode s_Atlas_pack.2.1 51 = .ok (.bipush 8, 2) := by decide +kernel
theorem d_Atlas_pack_53 : decode s_Atlas_pack.2.1 53 = .ok (.ishl, 1) := by decide +kernel
theorem d_Atlas_pack_54 : decode s_Atlas_pack.2.1 54 = .ok (.iload 4, 2) := by decide +kernel
theorem d_Atlas_pack_56 : decode s_Atlas_pack.2.1 56 = .ok (.ior, 1) := by decide +kernel
theorem d_Atlas_pack_57 : decode s_Atlas_pack.2.1 57 = .ok (.ireturn, 1) := by decide +kernel
theorem d_Atlas_addMoves_0 : decode s_Atlas_addMoves.2.1 0 = .ok (.iload_n 1, 1) := by decide +kernel
theorem d_Atlas_addMoves_1 : decode s_Atlas_addMoves.2.1 1 = .ok (.istore_n 3, 1) := by decide +kernel
theorem d_Atlas_addMoves_2 : decode s_Atlas_addMoves.2.1 2 = .ok (.iconst 0, 1) := by decide +kernel
theorem d_Atlas_addMoves_3 : decode s_Atlas_addMoves.2.1 3 = .ok (.istore 4, 2) := by decide +kernel
theorem d_Atlas_addMoves_5 : decode s_Atlas_addMoves.2.1 5 = .ok (.iload 4, 2) := by decide +kernel
theorem d_Atlas_addMoves_7 : decode s_Atlas_addMoves.2.1 7 = .ok (.aload_n 2, 1) := by decide +kernel
theorem d_Atlas_addMoves_8 : decode s_Atlas_addMoves.2.1 8 = .ok (.getfield 118, 3) := by decide +kernel
theorem d_Atlas_addMoves_11 : decode s_Atlas_addMoves.2.1 11 = .ok (.if_icmp .ge 77, 3) := by decide +kernel
theorem d_Atlas_addMoves_14 : decode s_Atlas_addMoves.2.1 14 = .ok (.iconst 0, 1) := by decide +kernel
theorem d_Atlas_addMoves_15 : decode s_Atlas_addMoves.2.1 15 = .ok (.istore 5, 2) := by decide +kernel
theorem d_Atlas_addMoves_17 : decode s_Atlas_addMoves.2.1 17 = .ok (.iload 5, 2) := by decide +kernel
theorem d_Atlas_addMoves_19 : decode s_Atlas_addMoves.2.1 19 = .ok (.aload_n 0, 1) := by decide +kernel
theorem d_Atlas_addMoves_20 : decode s_Atlas_addMoves.2.1 20 = .ok (.getfield 15, 3) := by decide +kernel
theorem d_Atlas_addMoves_23 : decode s_Atlas_addMoves.2.1 23 = .ok (.if_icmp .ge 59, 3) := by decide +kernel
theorem d_Atlas_addMoves_26 : decode s_Atlas_addMoves.2.1 26 = .ok (.iload_n 3, 1) := by decide +kernel
theorem d_Atlas_addMoves_27 : decode s_Atlas_addMoves.2.1 27 = .ok (.ldc 55, 2) := by decide +kernel
theorem d_Atlas_addMoves_29 : decode s_Atlas_addMoves.2.1 29 = .ok (.if_icmp .ge 47, 3) := by decide +kernel
theorem d_Atlas_addMoves_32 : decode s_Atlas_addMoves.2.1 32 = .ok (.aload_n 2, 1) := by decide +kernel
theorem d_Atlas_addMoves_33 : decode s_Atlas_addMoves.2.1 33 = .ok (.aload_n 0, 1) := by decide +kernel
theorem d_Atlas_addMoves_34 : decode s_Atlas_addMoves.2.1 34 = .ok (.getfield 68, 3) := by decide +kernel
theorem d_Atlas_addMoves_37 : decode s_Atlas_addMoves.2.1 37 = .ok (.iload 4, 2) := by decide +kernel
theorem d_Atlas_addMoves_39 : decode s_Atlas_addMoves.2.1 39 = .ok (.iload 5, 2) := by decide +kernel
theorem d_Atlas_addMoves_41 : decode s_Atlas_addMoves.2.1 41 = .ok (.aload_n 0, 1) := by decide +kernel
theorem d_Atlas_addMoves_42 : decode s_Atlas_addMoves.2.1 42 = .ok (.getfield 72, 3) := by decide +kernel
theorem d_Atlas_addMoves_45 : decode s_Atlas_addMoves.2.1 45 = .ok (.invokevirtual 121, 3) := by decide +kernel
theorem d_Atlas_addMoves_48 : decode s_Atlas_addMoves.2.1 48 = .ok (.ifCond .eq 28, 3) := by decide +kernel
theorem d_Atlas_addMoves_51 : decode s_Atlas_addMoves.2.1 51 = .ok (.aload_n 0, 1) := by decide +kernel
theorem d_Atlas_addMoves_52 : decode s_Atlas_addMoves.2.1 52 = .ok (.getfield 56, 3) := by decide +kernel
theorem d_Atlas_addMoves_55 : decode s_Atlas_addMoves.2.1 55 = .ok (.iload_n 3, 1) := by decide +kernel
theorem d_Atlas_addMoves_56 : decode s_Atlas_addMoves.2.1 56 = .ok (.aload_n 0, 1) := by decide +kernel
theorem d_Atlas_addMoves_57 : decode s_Atlas_addMoves.2.1 57 = .ok (.aload_n 0, 1) := by decide +kernel
theorem d_Atlas_addMoves_58 : decode s_Atlas_addMoves.2.1 58 = .ok (.aload_n 0, 1) := by decide +kernel
theorem d_Atlas_addMoves_59 : decode s_Atlas_addMoves.2.1 59 = .ok (.getfield 72, 3) := by decide +kernel
theorem d_Atlas_addMoves_62 : decode s_Atlas_addMoves.2.1 62 = .ok (.invokevirtual 125, 3) := by decide +kernel
theorem d_Atlas_addMoves_65 : decode s_Atlas_addMoves.2.1 65 = .ok (.iload 4, 2) := by decide +kernel
theorem d_Atlas_addMoves_67 : decode s_Atlas_addMoves.2.1 67 = .ok (.iload 5, 2) := by decide +kernel
theorem d_Atlas_addMoves_69 : decode s_Atlas_addMoves.2.1 69 = .ok (.invokevirtual 129, 3) := by decide +kernel
theorem d_Atlas_addMoves_72 : decode s_Atlas_addMoves.2.1 72 = .ok (.iastore, 1) := by decide +kernel
theorem d_Atlas_addMoves_73 : decode s_Atlas_addMoves.2.1 73 = .ok (.iinc 3 1, 3) := by decide +kernel
theorem d_Atlas_addMoves_76 : decode s_Atlas_addMoves.2.1 76 = .ok (.iinc 5 1, 3) := by decide +kernel
theorem d_Atlas_addMoves_79 : decode s_Atlas_addMoves.2.1 79 = .ok (.goto (-62), 3) := by decide +kernel
theorem d_Atlas_addMoves_82 : decode s_Atlas_addMoves.2.1 82 = .ok (.iinc 4 1, 3) := by decide +kernel
theorem d_Atlas_addMoves_85 : decode s_Atlas_addMoves.2.1 85 = .ok (.goto (-80), 3) := by decide +kernel
theorem d_Atlas_addMoves_88 : decode s_Atlas_addMoves.2.1 88 = .ok (.iload_n 3, 1) := by decide +kernel
theorem d_Atlas_addMoves_89 : decode s_Atlas_addMoves.2.1 89 = .ok (.ireturn, 1) := by decide +kernel
theorem d_Atlas_fill_0 : decode s_Atlas_fill.2.1 0 = .ok (.aload_n 0, 1) := by decide +kernel
theorem d_Atlas_fill_1 : decode s_Atlas_fill.2.1 1 = .ok (.aload_n 1, 1) := by decide +kernel
theorem d_Atlas_fill_2 : decode s_Atlas_fill.2.1 2 = .ok (.getfield 75, 3) := by decide +kernel
theorem d_Atlas_fill_5 : decode s_Atlas_fill.2.1 5 = .ok (.putfield 9, 3) := by decide +kernel
theorem d_Atlas_fill_8 : decode s_Atlas_fill.2.1 8 = .ok (.aload_n 0, 1) := by decide +kernel
theorem d_Atlas_fill_9 : decode s_Atlas_fill.2.1 9 = .ok (.aload_n 2, 1) := by decide +kernel
theorem d_Atlas_fill_10 : decode s_Atlas_fill.2.1 10 = .ok (.getfield 78, 3) := by decide +kernel
theorem d_Atlas_fill_13 : decode s_Atlas_fill.2.1 13 = .ok (.putfield 15, 3) := by decide +kernel
theorem d_Atlas_fill_16 : decode s_Atlas_fill.2.1 16 = .ok (.aload_n 0, 1) := by decide +kernel
theorem d_Atlas_fill_17 : decode s_Atlas_fill.2.1 17 = .ok (.getfield 21, 3) := by decide +kernel
theorem d_Atlas_fill_20 : decode s_Atlas_fill.2.1 20 = .ok (.invokevirtual 81, 3) := by decide +kernel
theorem d_Atlas_fill_23 : decode s_Atlas_fill.2.1 23 = .ok (.aload_n 0, 1) := by decide +kernel
theorem d_Atlas_fill_24 : decode s_Atlas_fill.2.1 24 = .ok (.aload_n 1, 1) := by decide +kernel
theorem d_Atlas_fill_25 : decode s_Atlas_fill.2.1 25 = .ok (.invokevirtual 84, 3) := by decide +kernel
theorem d_Atlas_fill_28 : decode s_Atlas_fill.2.1 28 = .ok (.iconst 0, 1) := by decide +kernel
theorem d_Atlas_fill_29 : decode s_Atlas_fill.2.1 29 = .ok (.istore_n 3, 1) := by decide +kernel
theorem d_Atlas_fill_30 : decode s_Atlas_fill.2.1 30 = .ok (.iload_n 3, 1) := by decide +kernel
theorem d_Atlas_fill_31 : decode s_Atlas_fill.2.1 31 = .ok (.aload_n 0, 1) := by decide +kernel
theorem d_Atlas_fill_32 : decode s_Atlas_fill.2.1 32 = .ok (.getfield 9, 3) := by decide +kernel
theorem d_Atlas_fill_35 : decode s_Atlas_fill.2.1 35 = .ok (.if_icmp .ge 103, 3) := by decide +kernel
theorem d_Atlas_fill_38 : decode s_Atlas_fill.2.1 38 = .ok (.aload_n 0, 1) := by decide +kernel
theorem d_Atlas_fill_39 : decode s_Atlas_fill.2.1 39 = .ok (.getfield 59, 3) := by decide +kernel
theorem d_Atlas_fill_42 : decode s_Atlas_fill.2.1 42 = .ok (.iload_n 3, 1) := by decide +kernel
theorem d_Atlas_fill_43 : decode s_Atlas_fill.2.1 43 = .ok (.iaload, 1) := by decide +kernel
theorem d_Atlas_fill_44 : decode s_Atlas_fill.2.1 44 = .ok (.istore 4, 2) := by decide +kernel
theorem d_Atlas_fill_46 : decode s_Atlas_fill.2.1 46 = .ok (.aload_n 0, 1) := by decide +kernel
theorem d_Atlas_fill_47 : decode s_Atlas_fill.2.1 47 = .ok (.getfield 25, 3) := by decide +kernel
theorem d_Atlas_fill_50 : decode s_Atlas_fill.2.1 50 = .ok (.iload_n 3, 1) := by decide +kernel
theorem d_Atlas_fill_51 : decode s_Atlas_fill.2.1 51 = .ok (.aload_n 1, 1) := by decide +kernel
theorem d_Atlas_fill_52 : decode s_Atlas_fill.2.1 52 = .ok (.getfield 88, 3) := by decide +kernel
theorem d_Atlas_fill_55 : decode s_Atlas_fill.2.1 55 = .ok (.iload 4, 2) := by decide +kernel
theorem d_Atlas_fill_57 : decode s_Atlas_fill.2.1 57 = .ok (.laload, 1) := by decide +kernel
theorem d_Atlas_fill_58 : decode s_Atlas_fill.2.1 58 = .ok (.lastore, 1) := by decide +kernel
theorem d_Atlas_fill_59 : decode s_Atlas_fill.2.1 59 = .ok (.aload_n 0, 1) := by decide +kernel
theorem d_Atlas_fill_60 : decode s_Atlas_fill.2.1 60 = .ok (.getfield 29, 3) := by decide +kernel
theorem d_Atlas_fill_63 : decode s_Atlas_fill.2.1 63 = .ok (.iload_n 3, 1) := by decide +kernel
theorem d_Atlas_fill_64 : decode s_Atlas_fill.2.1 64 = .ok (.aload_n 1, 1) := by decide +kernel
theorem d_Atlas_fill_65 : decode s_Atlas_fill.2.1 65 = .ok (.getfield 91, 3) := by decide +kernel
theorem d_Atlas_fill_68 : decode s_Atlas_fill.2.1 68 = .ok (.iload 4, 2) := by decide +kernel
theorem d_Atlas_fill_70 : decode s_Atlas_fill.2.1 70 = .ok (.iaload, 1) := by decide +kernel
theorem d_Atlas_fill_71 : decode s_Atlas_fill.2.1 71 = .ok (.iastore, 1) := by decide +kernel
theorem d_Atlas_fill_72 : decode s_Atlas_fill.2.1 72 = .ok (.aload_n 0, 1) := by decide +kernel
theorem d_Atlas_fill_73 : decode s_Atlas_fill.2.1 73 = .ok (.getfield 33, 3) := by decide +kernel
theorem d_Atlas_fill_76 : decode s_Atlas_fill.2.1 76 = .ok (.iload_n 3, 1) := by decide +kernel
theorem d_Atlas_fill_77 : decode s_Atlas_fill.2.1 77 = .ok (.aload_n 1, 1) := by decide +kernel
theorem d_Atlas_fill_78 : decode s_Atlas_fill.2.1 78 = .ok (.getfield 92, 3) := by decide +kernel
theorem d_Atlas_fill_81 : decode s_Atlas_fill.2.1 81 = .ok (.iload 4, 2) := by decide +kernel
theorem d_Atlas_fill_83 : decode s_Atlas_fill.2.1 83 = .ok (.iaload, 1) := by decide +kernel
theorem d_Atlas_fill_84 : decode s_Atlas_fill.2.1 84 = .ok (.iconst (-1), 1) := by decide +kernel
theorem d_Atlas_fill_85 : decode s_Atlas_fill.2.1 85 = .ok (.if_icmp .ne 7, 3) := by decide +kernel
theorem d_Atlas_fill_88 : decode s_Atlas_fill.2.1 88 = .ok (.iconst (-1), 1) := by decide +kernel
theorem d_Atlas_fill_89 : decode s_Atlas_fill.2.1 89 = .ok (.goto 15, 3) := by decide +kernel
theorem d_Atlas_fill_92 : decode s_Atlas_fill.2.1 92 = .ok (.aload_n 0, 1) := by decide +kernel
theorem d_Atlas_fill_93 : decode s_Atlas_fill.2.1 93 = .ok (.getfield 62, 3) := by decide +kernel
theorem d_Atlas_fill_96 : decode s_Atlas_fill.2.1 96 = .ok (.aload_n 1, 1) := by decide +kernel
theorem d_Atlas_fill_97 : decode s_Atlas_fill.2.1 97 = .ok (.getfield 92, 3) := by decide +kernel
theorem d_Atlas_fill_100 : decode s_Atlas_fill.2.1 100 = .ok (.iload 4, 2) := by decide +kernel
theorem d_Atlas_fill_102 : decode s_Atlas_fill.2.1 102 = .ok (.iaload, 1) := by decide +kernel
theorem d_Atlas_fill_103 : decode s_Atlas_fill.2.1 103 = .ok (.iaload, 1) := by decide +kernel
theorem d_Atlas_fill_104 : decode s_Atlas_fill.2.1 104 = .ok (.iastore, 1) := by decide +kernel
theorem d_Atlas_fill_105 : decode s_Atlas_fill.2.1 105 = .ok (.aload_n 0, 1) := by decide +kernel
theorem d_Atlas_fill_106 : decode s_Atlas_fill.2.1 106 = .ok (.getfield 36, 3) := by decide +kernel
theorem d_Atlas_fill_109 : decode s_Atlas_fill.2.1 109 = .ok (.iload_n 3, 1) := by decide +kernel
theorem d_Atlas_fill_110 : decode s_Atlas_fill.2.1 110 = .ok (.aload_n 1, 1) := by decide +kernel
theorem d_Atlas_fill_111 : decode s_Atlas_fill.2.1 111 = .ok (.getfield 93, 3) := by decide +kernel
theorem d_Atlas_fill_114 : decode s_Atlas_fill.2.1 114 = .ok (.iload 4, 2) := by decide +kernel
theorem d_Atlas_fill_116 : decode s_Atlas_fill.2.1 116 = .ok (.iaload, 1) := by decide +kernel
theorem d_Atlas_fill_117 : decode s_Atlas_fill.2.1 117 = .ok (.iastore, 1) := by decide +kernel
theorem d_Atlas_fill_118 : decode s_Atlas_fill.2.1 118 = .ok (.aload_n 0, 1) := by decide +kernel
theorem d_Atlas_fill_119 : decode s_Atlas_fill.2.1 119 = .ok (.getfield 21, 3) := by decide +kernel
theorem d_Atlas_fill_122 : decode s_Atlas_fill.2.1 122 = .ok (.aload_n 0, 1) := by decide +kernel
theorem d_Atlas_fill_123 : decode s_Atlas_fill.2.1 123 = .ok (.getfield 25, 3) := by decide +kernel
theorem d_Atlas_fill_126 : decode s_Atlas_fill.2.1 126 = .ok (.iload_n 3, 1) := by decide +kernel
theorem d_Atlas_fill_127 : decode s_Atlas_fill.2.1 127 = .ok (.laload, 1) := by decide +kernel
theorem d_Atlas_fill_128 : decode s_Atlas_fill.2.1 128 = .ok (.iload_n 3, 1) := by decide +kernel
theorem d_Atlas_fill_129 : decode s_Atlas_fill.2.1 129 = .ok (.invokevirtual 94, 3) := by decide +kernel
theorem d_Atlas_fill_132 : decode s_Atlas_fill.2.1 132 = .ok (.iinc 3 1, 3) := by decide +kernel
theorem d_Atlas_fill_135 : decode s_Atlas_fill.2.1 135 = .ok (.goto (-105), 3) := by decide +kernel
theorem d_Atlas_fill_138 : decode s_Atlas_fill.2.1 138 = .ok (.iconst 0, 1) := by decide +kernel
theorem d_Atlas_fill_139 : decode s_Atlas_fill.2.1 139 = .ok (.istore_n 3, 1) := by decide +kernel
theorem d_Atlas_fill_140 : decode s_Atlas_fill.2.1 140 = .ok (.iconst 0, 1) := by decide +kernel
theorem d_Atlas_fill_141 : decode s_Atlas_fill.2.1 141 = .ok (.istore 4, 2) := by decide +kernel
theorem d_Atlas_fill_143 : decode s_Atlas_fill.2.1 143 = .ok (.iload 4, 2) := by decide +kernel
theorem d_Atlas_fill_145 : decode s_Atlas_fill.2.1 145 = .ok (.aload_n 0, 1) := by decide +kernel
theorem d_Atlas_fill_146 : decode s_Atlas_fill.2.1 146 = .ok (.getfield 9, 3) := by decide +kernel
theorem d_Atlas_fill_149 : decode s_Atlas_fill.2.1 149 = .ok (.if_icmp .ge 49, 3) := by decide +kernel
theorem d_Atlas_fill_152 : decode s_Atlas_fill.2.1 152 = .ok (.aload_n 0, 1) := by decide +kernel
theorem d_Atlas_fill_153 : decode s_Atlas_fill.2.1 153 = .ok (.getfield 52, 3) := by decide +kernel
theorem d_Atlas_fill_156 : decode s_Atlas_fill.2.1 156 = .ok (.iload 4, 2) := by decide +kernel
theorem d_Atlas_fill_158 : decode s_Atlas_fill.2.1 158 = .ok (.iload_n 3, 1) := by decide +kernel
theorem d_Atlas_fill_159 : decode s_Atlas_fill.2.1 159 = .ok (.iastore, 1) := by decide +kernel
theorem d_Atlas_fill_160 : decode s_Atlas_fill.2.1 160 = .ok (.aload_n 0, 1) := by decide +kernel
theorem d_Atlas_fill_161 : decode s_Atlas_fill.2.1 161 = .ok (.getfield 68, 3) := by decide +kernel
theorem d_Atlas_fill_164 : decode s_Atlas_fill.2.1 164 = .ok (.aload_n 0, 1) := by decide +kernel
theorem d_Atlas_fill_165 : decode s_Atlas_fill.2.1 165 = .ok (.getfield 25, 3) := by decide +kernel
theorem d_Atlas_fill_168 : decode s_Atlas_fill.2.1 168 = .ok (.iload 4, 2) := by decide +kernel
theorem d_Atlas_fill_170 : decode s_Atlas_fill.2.1 170 = .ok (.laload, 1) := by decide +kernel
theorem d_Atlas_fill_171 : decode s_Atlas_fill.2.1 171 = .ok (.aload_n 0, 1) := by decide +kernel
theorem d_Atlas_fill_172 : decode s_Atlas_fill.2.1 172 = .ok (.getfield 15, 3) := by decide +kernel
theorem d_Atlas_fill_175 : decode s_Atlas_fill.2.1 175 = .ok (.invokevirtual 98, 3) := by decide +kernel
theorem d_Atlas_fill_178 : decode s_Atlas_fill.2.1 178 = .ok (.aload_n 0, 1) := by decide +kernel
theorem d_Atlas_fill_179 : decode s_Atlas_fill.2.1 179 = .ok (.iload 4, 2) := by decide +kernel
theorem d_Atlas_fill_181 : decode s_Atlas_fill.2.1 181 = .ok (.aload_n 2, 1) := by decide +kernel
theorem d_Atlas_fill_182 : decode s_Atlas_fill.2.1 182 = .ok (.invokevirtual 101, 3) := by decide +kernel
theorem d_Atlas_fill_185 : decode s_Atlas_fill.2.1 185 = .ok (.aload_n 0, 1) := by decide +kernel
theorem d_Atlas_fill_186 : decode s_Atlas_fill.2.1 186 = .ok (.iload_n 3, 1) := by decide +kernel
theorem d_Atlas_fill_187 : decode s_Atlas_fill.2.1 187 = .ok (.aload_n 2, 1) := by decide +kernel
theorem d_Atlas_fill_188 : decode s_Atlas_fill.2.1 188 = .ok (.invokevirtual 105, 3) := by decide +kernel
theorem d_Atlas_fill_191 : decode s_Atlas_fill.2.1 191 = .ok (.istore_n 3, 1) := by decide +kernel
theorem d_Atlas_fill_192 : decode s_Atlas_fill.2.1 192 = .ok (.iinc 4 1, 3) := by decide +kernel
theorem d_Atlas_fill_195 : decode s_Atlas_fill.2.1 195 = .ok (.goto (-52), 3) := by decide +kernel
theorem d_Atlas_fill_198 : decode s_Atlas_fill.2.1 198 = .ok (.aload_n 0, 1) := by decide +kernel
theorem d_Atlas_fill_199 : decode s_Atlas_fill.2.1 199 = .ok (.getfield 52, 3) := by decide +kernel
theorem d_Atlas_fill_202 : decode s_Atlas_fill.2.1 202 = .ok (.aload_n 0, 1) := by decide +kernel
theorem d_Atlas_fill_203 : decode s_Atlas_fill.2.1 203 = .ok (.getfield 9, 3) := by decide +kernel
theorem d_Atlas_fill_206 : decode s_Atlas_fill.2.1 206 = .ok (.iload_n 3, 1) := by decide +kernel
theorem d_Atlas_fill_207 : decode s_Atlas_fill.2.1 207 = .ok (.iastore, 1) := by decide +kernel
theorem d_Atlas_fill_208 : decode s_Atlas_fill.2.1 208 = .ok (.return_, 1) := by decide +kernel
theorem d_Joined_isAvoided_0 : decode s_Joined_isAvoided.2.1 0 = .ok (.aload_n 0, 1) := by decide +kernel
theorem d_Joined_isAvoided_1 : decode s_Joined_isAvoided.2.1 1 = .ok (.getfield 19, 3) := by decide +kernel
theorem d_Joined_isAvoided_4 : decode s_Joined_isAvoided.2.1 4 = .ok (.iconst (-1), 1) := by decide +kernel
theorem d_Joined_isAvoided_5 : decode s_Joined_isAvoided.2.1 5 = .ok (.if_icmp .eq 27, 3) := by decide +kernel
theorem d_Joined_isAvoided_8 : decode s_Joined_isAvoided.2.1 8 = .ok (.aload_n 0, 1) := by decide +kernel
theorem d_Joined_isAvoided_9 : decode s_Joined_isAvoided.2.1 9 = .ok (.getfield 59, 3) := by decide +kernel
theorem d_Joined_isAvoided_12 : decode s_Joined_isAvoided.2.1 12 = .ok (.getfield 91, 3) := by decide +kernel
theorem d_Joined_isAvoided_15 : decode s_Joined_isAvoided.2.1 15 = .ok (.iload_n 1, 1) := by decide +kernel
theorem d_Joined_isAvoided_16 : decode s_Joined_isAvoided.2.1 16 = .ok (.iaload, 1) := by decide +kernel
theorem d_Joined_isAvoided_17 : decode s_Joined_isAvoided.2.1 17 = .ok (.sipush 343, 3) := by decide +kernel
theorem d_Joined_isAvoided_20 : decode s_Joined_isAvoided.2.1 20 = .ok (.idiv, 1) := by decide +kernel
theorem d_Joined_isAvoided_21 : decode s_Joined_isAvoided.2.1 21 = .ok (.aload_n 0, 1) := by decide +kernel
theorem d_Joined_isAvoided_22 : decode s_Joined_isAvoided.2.1 22 = .ok (.getfield 19, 3) := by decide +kernel
theorem d_Joined_isAvoided_25 : decode s_Joined_isAvoided.2.1 25 = .ok (.if_icmp .ne 7, 3) := by decide +kernel
theorem d_Joined_isAvoided_28 : decode s_Joined_isAvoided.2.1 28 = .ok (.iconst 1, 1) := by decide +kernel
theorem d_Joined_isAvoided_29 : decode s_Joined_isAvoided.2.1 29 = .ok (.goto 4, 3) := by decide +kernel
theorem d_Joined_isAvoided_32 : decode s_Joined_isAvoided.2.1 32 = .ok (.iconst 0, 1) := by decide +kernel
theorem d_Joined_isAvoided_33 : decode s_Joined_isAvoided.2.1 33 = .ok (.ireturn, 1) := by decide +kernel
theorem d_Joined_isNode_0 : decode s_Joined_isNode.2.1 0 = .ok (.iload_n 1, 1) := by decide +kernel
theorem d_Joined_isNode_1 : decode s_Joined_isNode.2.1 1 = .ok (.iconst 4, 1) := by decide +kernel
theorem d_Joined_isNode_2 : decode s_Joined_isNode.2.1 2 = .ok (.irem, 1) := by decide +kernel
theorem d_Joined_isNode_3 : decode s_Joined_isNode.2.1 3 = .ok (.istore_n 2, 1) := by decide +kernel
theorem d_Joined_isNode_4 : decode s_Joined_isNode.2.1 4 = .ok (.aload_n 0, 1) := by decide +kernel
theorem d_Joined_isNode_5 : decode s_Joined_isNode.2.1 5 = .ok (.getfield 9, 3) := by decide +kernel
theorem d_Joined_isNode_8 : decode s_Joined_isNode.2.1 8 = .ok (.ifCond .ne 13, 3) := by decide +kernel
theorem d_Joined_isNode_11 : decode s_Joined_isNode.2.1 11 = .ok (.iload_n 2, 1) := by decide +kernel
theorem d_Joined_isNode_12 : decode s_Joined_isNode.2.1 12 = .ok (.ifCond .ne 7, 3) := by decide +kernel
theorem d_Joined_isNode_15 : decode s_Joined_isNode.2.1 15 = .ok (.iconst 1, 1) := by decide +kernel
theorem d_Joined_isNode_16 : decode s_Joined_isNode.2.1 16 = .ok (.goto 4, 3) := by decide +kernel
theorem d_Joined_isNode_19 : decode s_Joined_isNode.2.1 19 = .ok (.iconst 0, 1) := by decide +kernel
theorem d_Joined_isNode_20 : decode s_Joined_isNode.2.1 20 = .ok (.ireturn, 1) := by decide +kernel
theorem d_Joined_isNode_21 : decode s_Joined_isNode.2.1 21 = .ok (.iload_n 2, 1) := by decide +kernel
theorem d_Joined_isNode_22 : decode s_Joined_isNode.2.1 22 = .ok (.aload_n 0, 1) := by decide +kernel
theorem d_Joined_isNode_23 : decode s_Joined_isNode.2.1 23 = .ok (.getfield 59, 3) := by decide +kernel
theorem d_Joined_isNode_26 : decode s_Joined_isNode.2.1 26 = .ok (.getfield 82, 3) := by decide +kernel
theorem d_Joined_isNode_29 : decode s_Joined_isNode.2.1 29 = .ok (.if_icmp .ge 28, 3) := by decide +kernel
theorem d_Joined_isNode_32 : decode s_Joined_isNode.2.1 32 = .ok (.aload_n 0, 1) := by decide +kernel
theorem d_Joined_isNode_33 : decode s_Joined_isNode.2.1 33 = .ok (.getfield 59, 3) := by decide +kernel
theorem d_Joined_isNode_36 : decode s_Joined_isNode.2.1 36 = .ok (.getfield 85, 3) := by decide +kernel
theorem d_Joined_isNode_39 : decode s_Joined_isNode.2.1 39 = .ok (.iload_n 1, 1) := by decide +kernel
theorem d_Joined_isNode_40 : decode s_Joined_isNode.2.1 40 = .ok (.iaload, 1) := by decide +kernel
theorem d_Joined_isNode_41 : decode s_Joined_isNode.2.1 41 = .ok (.iload_n 2, 1) := by decide +kernel
theorem d_Joined_isNode_42 : decode s_Joined_isNode.2.1 42 = .ok (.if_icmp .ne 15, 3) := by decide +kernel
theorem d_Joined_isNode_45 : decode s_Joined_isNode.2.1 45 = .ok (.aload_n 0, 1) := by decide +kernel
theorem d_Joined_isNode_46 : decode s_Joined_isNode.2.1 46 = .ok (.iload_n 1, 1) := by decide +kernel
theorem d_Joined_isNode_47 : decode s_Joined_isNode.2.1 47 = .ok (.invokevirtual 88, 3) := by decide +kernel
theorem d_Joined_isNode_50 : decode s_Joined_isNode.2.1 50 = .ok (.ifCond .ne 7, 3) := by decide +kernel
theorem d_Joined_isNode_53 : decode s_Joined_isNode.2.1 53 = .ok (.iconst 1, 1) := by decide +kernel
theorem d_Joined_isNode_54 : decode s_Joined_isNode.2.1 54 = .ok (.goto 4, 3) := by decide +kernel
theorem d_Joined_isNode_57 : decode s_Joined_isNode.2.1 57 = .ok (.iconst 0, 1) := by decide +kernel
theorem d_Joined_isNode_58 : decode s_Joined_isNode.2.1 58 = .ok (.ireturn, 1) := by decide +kernel
theorem d_Joined_enter_0 : decode s_Joined_enter.2.1 0 = .ok (.aload_n 0, 1) := by decide +kernel
theorem d_Joined_enter_1 : decode s_Joined_enter.2.1 1 = .ok (.getfield 35, 3) := by decide +kernel
theorem d_Joined_enter_4 : decode s_Joined_enter.2.1 4 = .ok (.iload_n 1, 1) := by decide +kernel
theorem d_Joined_enter_5 : decode s_Joined_enter.2.1 5 = .ok (.aload_n 0, 1) := by decide +kernel
theorem d_Joined_enter_6 : decode s_Joined_enter.2.1 6 = .ok (.getfield 50, 3) := by decide +kernel
theorem d_Joined_enter_9 : decode s_Joined_enter.2.1 9 = .ok (.iastore, 1) := by decide +kernel
theorem d_Joined_enter_10 : decode s_Joined_enter.2.1 10 = .ok (.aload_n 0, 1) := by decide +kernel
theorem d_Joined_enter_11 : decode s_Joined_enter.2.1 11 = .ok (.getfield 38, 3) := by decide +kernel
theorem d_Joined_enter_14 : decode s_Joined_enter.2.1 14 = .ok (.iload_n 1, 1) := by decide +kernel
theorem d_Joined_enter_15 : decode s_Joined_enter.2.1 15 = .ok (.aload_n 0, 1) := by decide +kernel
theorem d_Joined_enter_16 : decode s_Joined_enter.2.1 16 = .ok (.getfield 50, 3) := by decide +kernel
theorem d_Joined_enter_19 : decode s_Joined_enter.2.1 19 = .ok (.iastore, 1) := by decide +kernel
theorem d_Joined_enter_20 : decode s_Joined_enter.2.1 20 = .ok (.aload_n 0, 1) := by decide +kernel
theorem d_Joined_enter_21 : decode s_Joined_enter.2.1 21 = .ok (.dup, 1) := by decide +kernel
theorem d_Joined_enter_22 : decode s_Joined_enter.2.1 22 = .ok (.getfield 50, 3) := by decide +kernel
theorem d_Joined_enter_25 : decode s_Joined_enter.2.1 25 = .ok (.iconst 1, 1) := by decide +kernel
theorem d_Joined_enter_26 : decode s_Joined_enter.2.1 26 = .ok (.iadd, 1) := by decide +kernel
theorem d_Joined_enter_27 : decode s_Joined_enter.2.1 27 = .ok (.putfield 50, 3) := by decide +kernel
theorem d_Joined_enter_30 : decode s_Joined_enter.2.1 30 = .ok (.aload_n 0, 1) := by decide +kernel
theorem d_Joined_enter_31 : decode s_Joined_enter.2.1 31 = .ok (.getfield 41, 3) := by decide +kernel
theorem d_Joined_enter_34 : decode s_Joined_enter.2.1 34 = .ok (.iload_n 1, 1) := by decide +kernel
theorem d_Joined_enter_35 : decode s_Joined_enter.2.1 35 = .ok (.aload_n 0, 1) := by decide +kernel
theorem d_Joined_enter_36 : decode s_Joined_enter.2.1 36 = .ok (.getfield 59, 3) := by decide +kernel
theorem d_Joined_enter_39 : decode s_Joined_enter.2.1 39 = .ok (.getfield 109, 3) := by decide +kernel
theorem d_Joined_enter_42 : decode s_Joined_enter.2.1 42 = .ok (.iload_n 1, 1) := by decide +kernel
theorem d_Joined_enter_43 : decode s_Joined_enter.2.1 43 = .ok (.iconst 4, 1) := by decide +kernel
theorem d_Joined_enter_44 : decode s_Joined_enter.2.1 44 = .ok (.idiv, 1) := by decide +kernel
theorem d_Joined_enter_45 : decode s_Joined_enter.2.1 45 = .ok (.iaload, 1) := by decide +kernel
theorem d_Joined_enter_46 : decode s_Joined_enter.2.1 46 = .ok (.iastore, 1) := by decide +kernel
theorem d_Joined_enter_47 : decode s_Joined_enter.2.1 47 = .ok (.aload_n 0, 1) := by decide +kernel
theorem d_Joined_enter_48 : decode s_Joined_enter.2.1 48 = .ok (.getfield 44, 3) := by decide +kernel
theorem d_Joined_enter_51 : decode s_Joined_enter.2.1 51 = .ok (.aload_n 0, 1) := by decide +kernel
theorem d_Joined_enter_52 : decode s_Joined_enter.2.1 52 = .ok (.getfield 53, 3) := by decide +kernel
theorem d_Joined_enter_55 : decode s_Joined_enter.2.1 55 = .ok (.iload_n 1, 1) := by decide +kernel
theorem d_Joined_enter_56 : decode s_Joined_enter.2.1 56 = .ok (.iastore, 1) := by decide +kernel
theorem d_Joined_enter_57 : decode s_Joined_enter.2.1 57 = .ok (.aload_n 0, 1) := by decide +kernel
theorem d_Joined_enter_58 : decode s_Joined_enter.2.1 58 = .ok (.dup, 1) := by decide +kernel
theorem d_Joined_enter_59 : decode s_Joined_enter.2.1 59 = .ok (.getfield 53, 3) := by decide +kernel
theorem d_Joined_enter_62 : decode s_Joined_enter.2.1 62 = .ok (.iconst 1, 1) := by decide +kernel
theorem d_Joined_enter_63 : decode s_Joined_enter.2.1 63 = .ok (.iadd, 1) := by decide +kernel
theorem d_Joined_enter_64 : decode s_Joined_enter.2.1 64 = .ok (.putfield 53, 3) := by decide +kernel
theorem d_Joined_enter_67 : decode s_Joined_enter.2.1 67 = .ok (.aload_n 0, 1) := by decide +kernel
theorem d_Joined_enter_68 : decode s_Joined_enter.2.1 68 = .ok (.getfield 47, 3) := by decide +kernel
theorem d_Joined_enter_71 : decode s_Joined_enter.2.1 71 = .ok (.aload_n 0, 1) := by decide +kernel
theorem d_Joined_enter_72 : decode s_Joined_enter.2.1 72 = .ok (.getfield 56, 3) := by decide +kernel
theorem d_Joined_enter_75 : decode s_Joined_enter.2.1 75 = .ok (.iload_n 1, 1) := by decide +kernel
theorem d_Joined_enter_76 : decode s_Joined_enter.2.1 76 = .ok (.iastore, 1) := by decide +kernel
theorem d_Joined_enter_77 : decode s_Joined_enter.2.1 77 = .ok (.aload_n 0, 1) := by decide +kernel
theorem d_Joined_enter_78 : decode s_Joined_enter.2.1 78 = .ok (.dup, 1) := by decide +kernel
theorem d_Joined_enter_79 : decode s_Joined_enter.2.1 79 = .ok (.getfield 56, 3) := by decide +kernel
theorem d_Joined_enter_82 : decode s_Joined_enter.2.1 82 = .ok (.iconst 1, 1) := by decide +kernel
theorem d_Joined_enter_83 : decode s_Joined_enter.2.1 83 = .ok (.iadd, 1) := by decide +kernel
theorem d_Joined_enter_84 : decode s_Joined_enter.2.1 84 = .ok (.putfield 56, 3) := by decide +kernel
theorem d_Joined_enter_87 : decode s_Joined_enter.2.1 87 = .ok (.return_, 1) := by decide +kernel
theorem d_Atlas_by_0 : decode s_Atlas_by.2.1 0 = .ok (.aload_n 0, 1) := by decide +kernel
theorem d_Atlas_by_1 : decode s_Atlas_by.2.1 1 = .ok (.getfield 56, 3) := by decide +kernel
theorem d_Atlas_by_4 : decode s_Atlas_by.2.1 4 = .ok (.iload_n 1, 1) := by decide +kernel
theorem d_Atlas_by_5 : decode s_Atlas_by.2.1 5 = .ok (.iaload, 1) := by decide +kernel
theorem d_Atlas_by_6 : decode s_Atlas_by.2.1 6 = .ok (.bipush 10, 2) := by decide +kernel
theorem d_Atlas_by_8 : decode s_Atlas_by.2.1 8 = .ok (.ishr, 1) := by decide +kernel
theorem d_Atlas_by_9 : decode s_Atlas_by.2.1 9 = .ok (.bipush 15, 2) := by decide +kernel
theorem d_Atlas_by_11 : decode s_Atlas_by.2.1 11 = .ok (.iand, 1) := by decide +kernel
theorem d_Atlas_by_12 : decode s_Atlas_by.2.1 12 = .ok (.ireturn, 1) := by decide +kernel
theorem d_Atlas_target_0 : decode s_Atlas_target.2.1 0 = .ok (.aload_n 0, 1) := by decide +kernel
theorem d_Atlas_target_1 : decode s_Atlas_target.2.1 1 = .ok (.getfield 56, 3) := by decide +kernel
theorem d_Atlas_target_4 : decode s_Atlas_target.2.1 4 = .ok (.iload_n 1, 1) := by decide +kernel
theorem d_Atlas_target_5 : decode s_Atlas_target.2.1 5 = .ok (.iaload, 1) := by decide +kernel
theorem d_Atlas_target_6 : decode s_Atlas_target.2.1 6 = .ok (.bipush 14, 2) := by decide +kernel
theorem d_Atlas_target_8 : decode s_Atlas_target.2.1 8 = .ok (.ishr, 1) := by decide +kernel
theorem d_Atlas_target_9 : decode s_Atlas_target.2.1 9 = .ok (.ireturn, 1) := by decide +kernel
theorem d_Atlas_put_0 : decode s_Atlas_put.2.1 0 = .ok (.aload_n 0, 1) := by decide +kernel
theorem d_Atlas_put_1 : decode s_Atlas_put.2.1 1 = .ok (.getfield 56, 3) := by decide +kernel
theorem d_Atlas_put_4 : decode s_Atlas_put.2.1 4 = .ok (.iload_n 1, 1) := by decide +kernel
theorem d_Atlas_put_5 : decode s_Atlas_put.2.1 5 = .ok (.iaload, 1) := by decide +kernel
theorem d_Atlas_put_6 : decode s_Atlas_put.2.1 6 = .ok (.iconst 2, 1) := by decide +kernel
theorem d_Atlas_put_7 : decode s_Atlas_put.2.1 7 = .ok (.iload_n 2, 1) := by decide +kernel
theorem d_Atlas_put_8 : decode s_Atlas_put.2.1 8 = .ok (.imul, 1) := by decide +kernel
theorem d_Atlas_put_9 : decode s_Atlas_put.2.1 9 = .ok (.ishr, 1) := by decide +kernel
theorem d_Atlas_put_10 : decode s_Atlas_put.2.1 10 = .ok (.iconst 3, 1) := by decide +kernel
theorem d_Atlas_put_11 : decode s_Atlas_put.2.1 11 = .ok (.iand, 1) := by decide +kernel
theorem d_Atlas_put_12 : decode s_Atlas_put.2.1 12 = .ok (.ireturn, 1) := by decide +kernel
theorem d_Joined_next_0 : decode s_Joined_next.2.1 0 = .ok (.aload_n 0, 1) := by decide +kernel
theorem d_Joined_next_1 : decode s_Joined_next.2.1 1 = .ok (.getfield 59, 3) := by decide +kernel
theorem d_Joined_next_4 : decode s_Joined_next.2.1 4 = .ok (.iload_n 2, 1) := by decide +kernel
theorem d_Joined_next_5 : decode s_Joined_next.2.1 5 = .ok (.invokevirtual 94, 3) := by decide +kernel
theorem d_Joined_next_8 : decode s_Joined_next.2.1 8 = .ok (.aload_n 0, 1) := by decide +kernel
theorem d_Joined_next_9 : decode s_Joined_next.2.1 9 = .ok (.getfield 15, 3) := by decide +kernel
theorem d_Joined_next_12 : decode s_Joined_next.2.1 12 = .ok (.if_icmp .ne 5, 3) := by decide +kernel
theorem d_Joined_next_15 : decode s_Joined_next.2.1 15 = .ok (.iconst (-1), 1) := by decide +kernel
theorem d_Joined_next_16 : decode s_Joined_next.2.1 16 = .ok (.ireturn, 1) := by decide +kernel
theorem d_Joined_next_17 : decode s_Joined_next.2.1 17 = .ok (.aload_n 0, 1) := by decide +kernel
theorem d_Joined_next_18 : decode s_Joined_next.2.1 18 = .ok (.getfield 59, 3) := by decide +kernel
theorem d_Joined_next_21 : decode s_Joined_next.2.1 21 = .ok (.iload_n 2, 1) := by decide +kernel
theorem d_Joined_next_22 : decode s_Joined_next.2.1 22 = .ok (.invokevirtual 98, 3) := by decide +kernel
theorem d_Joined_next_25 : decode s_Joined_next.2.1 25 = .ok (.iconst 4, 1) := by decide +kernel
theorem d_Joined_next_26 : decode s_Joined_next.2.1 26 = .ok (.imul, 1) := by decide +kernel
theorem d_Joined_next_27 : decode s_Joined_next.2.1 27 = .ok (.istore_n 3, 1) := by decide +kernel
theorem d_Joined_next_28 : decode s_Joined_next.2.1 28 = .ok (.aload_n 0, 1) := by decide +kernel
theorem d_Joined_next_29 : decode s_Joined_next.2.1 29 = .ok (.getfield 9, 3) := by decide +kernel
theorem d_Joined_next_32 : decode s_Joined_next.2.1 32 = .ok (.ifCond .ne 5, 3) := by decide +kernel
theorem d_Joined_next_35 : decode s_Joined_next.2.1 35 = .ok (.iload_n 3, 1) := by decide +kernel
theorem d_Joined_next_36 : decode s_Joined_next.2.1 36 = .ok (.ireturn, 1) := by decide +kernel
theorem d_Joined_next_37 : decode s_Joined_next.2.1 37 = .ok (.iload_n 3, 1) := by decide +kernel
theorem d_Joined_next_38 : decode s_Joined_next.2.1 38 = .ok (.aload_n 0, 1) := by decide +kernel
theorem d_Joined_next_39 : decode s_Joined_next.2.1 39 = .ok (.getfield 59, 3) := by decide +kernel
theorem d_Joined_next_42 : decode s_Joined_next.2.1 42 = .ok (.getfield 85, 3) := by decide +kernel
theorem d_Joined_next_45 : decode s_Joined_next.2.1 45 = .ok (.iload_n 3, 1) := by decide +kernel
theorem d_Joined_next_46 : decode s_Joined_next.2.1 46 = .ok (.aload_n 0, 1) := by decide +kernel
theorem d_Joined_next_47 : decode s_Joined_next.2.1 47 = .ok (.getfield 59, 3) := by decide +kernel
theorem d_Joined_next_50 : decode s_Joined_next.2.1 50 = .ok (.iload_n 2, 1) := by decide +kernel
theorem d_Joined_next_51 : decode s_Joined_next.2.1 51 = .ok (.iload_n 1, 1) := by decide +kernel
theorem d_Joined_next_52 : decode s_Joined_next.2.1 52 = .ok (.iconst 4, 1) := by decide +kernel
theorem d_Joined_next_53 : decode s_Joined_next.2.1 53 = .ok (.irem, 1) := by decide +kernel
theorem d_Joined_next_54 : decode s_Joined_next.2.1 54 = .ok (.invokevirtual 101, 3) := by decide +kernel
theorem d_Joined_next_57 : decode s_Joined_next.2.1 57 = .ok (.iadd, 1) := by decide +kernel
theorem d_Joined_next_58 : decode s_Joined_next.2.1 58 = .ok (.iaload, 1) := by decide +kernel
theorem d_Joined_next_59 : decode s_Joined_next.2.1 59 = .ok (.iadd, 1) := by decide +kernel
theorem d_Joined_next_60 : decode s_Joined_next.2.1 60 = .ok (.istore_n 3, 1) := by decide +kernel
theorem d_Joined_next_61 : decode s_Joined_next.2.1 61 = .ok (.aload_n 0, 1) := by decide +kernel
theorem d_Joined_next_62 : decode s_Joined_next.2.1 62 = .ok (.iload_n 3, 1) := by decide +kernel
theorem d_Joined_next_63 : decode s_Joined_next.2.1 63 = .ok (.invokevirtual 88, 3) := by decide +kernel
theorem d_Joined_next_66 : decode s_Joined_next.2.1 66 = .ok (.ifCond .eq 7, 3) := by decide +kernel
theorem d_Joined_next_69 : decode s_Joined_next.2.1 69 = .ok (.iconst (-1), 1) := by decide +kernel
theorem d_Joined_next_70 : decode s_Joined_next.2.1 70 = .ok (.goto 4, 3) := by decide +kernel
theorem d_Joined_next_73 : decode s_Joined_next.2.1 73 = .ok (.iload_n 3, 1) := by decide +kernel
theorem d_Joined_next_74 : decode s_Joined_next.2.1 74 = .ok (.ireturn, 1) := by decide +kernel
theorem d_Joined_follow_0 : decode s_Joined_follow.2.1 0 = .ok (.iload_n 2, 1) := by decide +kernel
theorem d_Joined_follow_1 : decode s_Joined_follow.2.1 1 = .ok (.iconst (-1), 1) := by decide +kernel
theorem d_Joined_follow_2 : decode s_Joined_follow.2.1 2 = .ok (.if_icmp .ne 4, 3) := by decide +kernel
theorem d_Joined_follow_5 : decode s_Joined_follow.2.1 5 = .ok (.return_, 1) := by decide +kernel
theorem d_Joined_follow_6 : decode s_Joined_follow.2.1 6 = .ok (.aload_n 0, 1) := by decide +kernel
theorem d_Joined_follow_7 : decode s_Joined_follow.2.1 7 = .ok (.getfield 35, 3) := by decide +kernel
theorem d_Joined_follow_10 : decode s_Joined_follow.2.1 10 = .ok (.iload_n 2, 1) := by decide +kernel
theorem d_Joined_follow_11 : decode s_Joined_follow.2.1 11 = .ok (.iaload, 1) := by decide +kernel
theorem d_Joined_follow_12 : decode s_Joined_follow.2.1 12 = .ok (.iconst (-1), 1) := by decide +kernel
theorem d_Joined_follow_13 : decode s_Joined_follow.2.1 13 = .ok (.if_icmp .ne 11, 3) := by decide +kernel
theorem d_Joined_follow_16 : decode s_Joined_follow.2.1 16 = .ok (.aload_n 0, 1) := by decide +kernel
theorem d_Joined_follow_17 : decode s_Joined_follow.2.1 17 = .ok (.iload_n 2, 1) := by decide +kernel
theorem d_Joined_follow_18 : decode s_Joined_follow.2.1 18 = .ok (.invokevirtual 105, 3) := by decide +kernel
theorem d_Joined_follow_21 : decode s_Joined_follow.2.1 21 = .ok (.goto 34, 3) := by decide +kernel
theorem d_Joined_follow_24 : decode s_Joined_follow.2.1 24 = .ok (.aload_n 0, 1) := by decide +kernel
theorem d_Joined_follow_25 : decode s_Joined_follow.2.1 25 = .ok (.getfield 25, 3) := by decide +kernel
theorem d_Joined_follow_28 : decode s_Joined_follow.2.1 28 = .ok (.iload_n 2, 1) := by decide +kernel
theorem d_Joined_follow_29 : decode s_Joined_follow.2.1 29 = .ok (.iaload, 1) := by decide +kernel
theorem d_Joined_follow_30 : decode s_Joined_follow.2.1 30 = .ok (.iconst (-1), 1) := by decide +kernel
theorem d_Joined_follow_31 : decode s_Joined_follow.2.1 31 = .ok (.if_icmp .ne 24, 3) := by decide +kernel
theorem d_Joined_follow_34 : decode s_Joined_follow.2.1 34 = .ok (.aload_n 0, 1) := by decide +kernel
theorem d_Joined_follow_35 : decode s_Joined_follow.2.1 35 = .ok (.getfield 38, 3) := by decide +kernel
theorem d_Joined_follow_38 : decode s_Joined_follow.2.1 38 = .ok (.iload_n 1, 1) := by decide +kernel
theorem d_Joined_follow_39 : decode s_Joined_follow.2.1 39 = .ok (.aload_n 0, 1) := by decide +kernel
theorem d_Joined_follow_40 : decode s_Joined_follow.2.1 40 = .ok (.getfield 38, 3) := by decide +kernel
theorem d_Joined_follow_43 : decode s_Joined_follow.2.1 43 = .ok (.iload_n 1, 1) := by decide +kernel
theorem d_Joined_follow_44 : decode s_Joined_follow.2.1 44 = .ok (.iaload, 1) := by decide +kernel
theorem d_Joined_follow_45 : decode s_Joined_follow.2.1 45 = .ok (.aload_n 0, 1) := by decide +kernel
theorem d_Joined_follow_46 : decode s_Joined_follow.2.1 46 = .ok (.getfield 35, 3) := by decide +kernel
theorem d_Joined_follow_49 : decode s_Joined_follow.2.1 49 = .ok (.iload_n 2, 1) := by decide +kernel
theorem d_Joined_follow_50 : decode s_Joined_follow.2.1 50 = .ok (.iaload, 1) := by decide +kernel
theorem d_Joined_follow_51 : decode s_Joined_follow.2.1 51 = .ok (.invokestatic 122, 3) := by decide +kernel
theorem d_Joined_follow_54 : decode s_Joined_follow.2.1 54 = .ok (.iastore, 1) := by decide +kernel
theorem d_Joined_follow_55 : decode s_Joined_follow.2.1 55 = .ok (.return_, 1) := by decide +kernel
theorem d_Joined_close_0 : decode s_Joined_close.2.1 0 = .ok (.aload_n 0, 1) := by decide +kernel
theorem d_Joined_close_1 : decode s_Joined_close.2.1 1 = .ok (.getfield 29, 3) := by decide +kernel
theorem d_Joined_close_4 : decode s_Joined_close.2.1 4 = .ok (.aload_n 0, 1) := by decide +kernel
theorem d_Joined_close_5 : decode s_Joined_close.2.1 5 = .ok (.getfield 22, 3) := by decide +kernel
theorem d_Joined_close_8 : decode s_Joined_close.2.1 8 = .ok (.iaload, 1) := by decide +kernel
theorem d_Joined_close_9 : decode s_Joined_close.2.1 9 = .ok (.istore_n 2, 1) := by decide +kernel
theorem d_Joined_close_10 : decode s_Joined_close.2.1 10 = .ok (.iconst (-1), 1) := by decide +kernel
theorem d_Joined_close_11 : decode s_Joined_close.2.1 11 = .ok (.istore_n 3, 1) := by decide +kernel
theorem d_Joined_close_12 : decode s_Joined_close.2.1 12 = .ok (.aload_n 0, 1) := by decide +kernel
theorem d_Joined_close_13 : decode s_Joined_close.2.1 13 = .ok (.getfield 53, 3) := by decide +kernel
theorem d_Joined_close_16 : decode s_Joined_close.2.1 16 = .ok (.ifCond .le 51, 3) := by decide +kernel
theorem d_Joined_close_19 : decode s_Joined_close.2.1 19 = .ok (.iload_n 3, 1) := by decide +kernel
theorem d_Joined_close_20 : decode s_Joined_close.2.1 20 = .ok (.iload_n 1, 1) := by decide +kernel
theorem d_Joined_close_21 : decode s_Joined_close.2.1 21 = .ok (.if_icmp .eq 46, 3) := by decide +kernel
theorem d_Joined_close_24 : decode s_Joined_close.2.1 24 = .ok (.aload_n 0, 1) := by decide +kernel
theorem d_Joined_close_25 : decode s_Joined_close.2.1 25 = .ok (.dup, 1) := by decide +kernel
theorem d_Joined_close_26 : decode s_Joined_close.2.1 26 = .ok (.getfield 53, 3) := by decide +kernel
theorem d_Joined_close_29 : decode s_Joined_close.2.1 29 = .ok (.iconst 1, 1) := by decide +kernel
theorem d_Joined_close_30 : decode s_Joined_close.2.1 30 = .ok (.isub, 1) := by decide +kernel
theorem d_Joined_close_31 : decode s_Joined_close.2.1 31 = .ok (.putfield 53, 3) := by decide +kernel
theorem d_Joined_close_34 : decode s_Joined_close.2.1 34 = .ok (.aload_n 0, 1) := by decide +kernel
theorem d_Joined_close_35 : decode s_Joined_close.2.1 35 = .ok (.getfield 44, 3) := by decide +kernel
theorem d_Joined_close_38 : decode s_Joined_close.2.1 38 = .ok (.aload_n 0, 1) := by decide +kernel
theorem d_Joined_close_39 : decode s_Joined_close.2.1 39 = .ok (.getfield 53, 3) := by decide +kernel
theorem d_Joined_close_42 : decode s_Joined_close.2.1 42 = .ok (.iaload, 1) := by decide +kernel
theorem d_Joined_close_43 : decode s_Joined_close.2.1 43 = .ok (.istore_n 3, 1) := by decide +kernel
theorem d_Joined_close_44 : decode s_Joined_close.2.1 44 = .ok (.aload_n 0, 1) := by decide +kernel
theorem d_Joined_close_45 : decode s_Joined_close.2.1 45 = .ok (.getfield 25, 3) := by decide +kernel
theorem d_Joined_close_48 : decode s_Joined_close.2.1 48 = .ok (.iload_n 3, 1) := by decide +kernel
theorem d_Joined_close_49 : decode s_Joined_close.2.1 49 = .ok (.aload_n 0, 1) := by decide +kernel
theorem d_Joined_close_50 : decode s_Joined_close.2.1 50 = .ok (.getfield 22, 3) := by decide +kernel
theorem d_Joined_close_53 : decode s_Joined_close.2.1 53 = .ok (.iastore, 1) := by decide +kernel
theorem d_Joined_close_54 : decode s_Joined_close.2.1 54 = .ok (.aload_n 0, 1) := by decide +kernel
theorem d_Joined_close_55 : decode s_Joined_close.2.1 55 = .ok (.getfield 32, 3) := by decide +kernel
theorem d_Joined_close_58 : decode s_Joined_close.2.1 58 = .ok (.iload_n 2, 1) := by decide +kernel
theorem d_Joined_close_59 : decode s_Joined_close.2.1 59 = .ok (.iload_n 3, 1) := by decide +kernel
theorem d_Joined_close_60 : decode s_Joined_close.2.1 60 = .ok (.iastore, 1) := by decide +kernel
theorem d_Joined_close_61 : decode s_Joined_close.2.1 61 = .ok (.iinc 2 1, 3) := by decide +kernel
theorem d_Joined_close_64 : decode s_Joined_close.2.1 64 = .ok (.goto (-52), 3) := by decide +kernel
theorem d_Joined_close_67 : decode s_Joined_close.2.1 67 = .ok (.aload_n 0, 1) := by decide +kernel
theorem d_Joined_close_68 : decode s_Joined_close.2.1 68 = .ok (.dup, 1) := by decide +kernel
theorem d_Joined_close_69 : decode s_Joined_close.2.1 69 = .ok (.getfield 22, 3) := by decide +kernel
theorem d_Joined_close_72 : decode s_Joined_close.2.1 72 = .ok (.iconst 1, 1) := by decide +kernel
theorem d_Joined_close_73 : decode s_Joined_close.2.1 73 = .ok (.iadd, 1) := by decide +kernel
theorem d_Joined_close_74 : decode s_Joined_close.2.1 74 = .ok (.putfield 22, 3) := by decide +kernel
theorem d_Joined_close_77 : decode s_Joined_close.2.1 77 = .ok (.aload_n 0, 1) := by decide +kernel
theorem d_Joined_close_78 : decode s_Joined_close.2.1 78 = .ok (.getfield 29, 3) := by decide +kernel
theorem d_Joined_close_81 : decode s_Joined_close.2.1 81 = .ok (.aload_n 0, 1) := by decide +kernel
theorem d_Joined_close_82 : decode s_Joined_close.2.1 82 = .ok (.getfield 22, 3) := by decide +kernel
theorem d_Joined_close_85 : decode s_Joined_close.2.1 85 = .ok (.iload_n 2, 1) := by decide +kernel
theorem d_Joined_close_86 : decode s_Joined_close.2.1 86 = .ok (.iastore, 1) := by decide +kernel
theorem d_Joined_close_87 : decode s_Joined_close.2.1 87 = .ok (.return_, 1) := by decide +kernel
theorem d_Joined_leave_0 : decode s_Joined_leave.2.1 0 = .ok (.aload_n 0, 1) := by decide +kernel
theorem d_Joined_leave_1 : decode s_Joined_leave.2.1 1 = .ok (.dup, 1) := by decide +kernel
theorem d_Joined_leave_2 : decode s_Joined_leave.2.1 2 = .ok (.getfield 56, 3) := by decide +kernel
theorem d_Joined_leave_5 : decode s_Joined_leave.2.1 5 = .ok (.iconst 1, 1) := by decide +kernel
theorem d_Joined_leave_6 : decode s_Joined_leave.2.1 6 = .ok (.isub, 1) := by decide +kernel
theorem d_Joined_leave_7 : decode s_Joined_leave.2.1 7 = .ok (.putfield 56, 3) := by decide +kernel
theorem d_Joined_leave_10 : decode s_Joined_leave.2.1 10 = .ok (.aload_n 0, 1) := by decide +kernel
theorem d_Joined_leave_11 : decode s_Joined_leave.2.1 11 = .ok (.getfield 56, 3) := by decide +kernel
theorem d_Joined_leave_14 : decode s_Joined_leave.2.1 14 = .ok (.ifCond .le 36, 3) := by decide +kernel
theorem d_Joined_leave_17 : decode s_Joined_leave.2.1 17 = .ok (.aload_n 0, 1) := by decide +kernel
theorem d_Joined_leave_18 : decode s_Joined_leave.2.1 18 = .ok (.getfield 47, 3) := by decide +kernel
theorem d_Joined_leave_21 : decode s_Joined_leave.2.1 21 = .ok (.aload_n 0, 1) := by decide +kernel
theorem d_Joined_leave_22 : decode s_Joined_leave.2.1 22 = .ok (.getfield 56, 3) := by decide +kernel
theorem d_Joined_leave_25 : decode s_Joined_leave.2.1 25 = .ok (.iconst 1, 1) := by decide +kernel
theorem d_Joined_leave_26 : decode s_Joined_leave.2.1 26 = .ok (.isub, 1) := by decide +kernel
theorem d_Joined_leave_27 : decode s_Joined_leave.2.1 27 = .ok (.iaload, 1) := by decide +kernel
theorem d_Joined_leave_28 : decode s_Joined_leave.2.1 28 = .ok (.istore_n 2, 1) := by decide +kernel
theorem d_Joined_leave_29 : decode s_Joined_leave.2.1 29 = .ok (.aload_n 0, 1) := by decide +kernel
theorem d_Joined_leave_30 : decode s_Joined_leave.2.1 30 = .ok (.getfield 38, 3) := by decide +kernel
theorem d_Joined_leave_33 : decode s_Joined_leave.2.1 33 = .ok (.iload_n 2, 1) := by decide +kernel
theorem d_Joined_leave_34 : decode s_Joined_leave.2.1 34 = .ok (.aload_n 0, 1) := by decide +kernel
theorem d_Joined_leave_35 : decode s_Joined_leave.2.1 35 = .ok (.getfield 38, 3) := by decide +kernel
theorem d_Joined_leave_38 : decode s_Joined_leave.2.1 38 = .ok (.iload_n 2, 1) := by decide +kernel
theorem d_Joined_leave_39 : decode s_Joined_leave.2.1 39 = .ok (.iaload, 1) := by decide +kernel
theorem d_Joined_leave_40 : decode s_Joined_leave.2.1 40 = .ok (.aload_n 0, 1) := by decide +kernel
theorem d_Joined_leave_41 : decode s_Joined_leave.2.1 41 = .ok (.getfield 38, 3) := by decide +kernel
theorem d_Joined_leave_44 : decode s_Joined_leave.2.1 44 = .ok (.iload_n 1, 1) := by decide +kernel
theorem d_Joined_leave_45 : decode s_Joined_leave.2.1 45 = .ok (.iaload, 1) := by decide +kernel
theorem d_Joined_leave_46 : decode s_Joined_leave.2.1 46 = .ok (.invokestatic 122, 3) := by decide +kernel
theorem d_Joined_leave_49 : decode s_Joined_leave.2.1 49 = .ok (.iastore, 1) := by decide +kernel
theorem d_Joined_leave_50 : decode s_Joined_leave.2.1 50 = .ok (.aload_n 0, 1) := by decide +kernel
theorem d_Joined_leave_51 : decode s_Joined_leave.2.1 51 = .ok (.getfield 38, 3) := by decide +kernel
theorem d_Joined_leave_54 : decode s_Joined_leave.2.1 54 = .ok (.iload_n 1, 1) := by decide +kernel
theorem d_Joined_leave_55 : decode s_Joined_leave.2.1 55 = .ok (.iaload, 1) := by decide +kernel
theorem d_Joined_leave_56 : decode s_Joined_leave.2.1 56 = .ok (.aload_n 0, 1) := by decide +kernel
theorem d_Joined_leave_57 : decode s_Joined_leave.2.1 57 = .ok (.getfield 35, 3) := by decide +kernel
theorem d_Joined_leave_60 : decode s_Joined_leave.2.1 60 = .ok (.iload_n 1, 1) := by decide +kernel
theorem d_Joined_leave_61 : decode s_Joined_leave.2.1 61 = .ok (.iaload, 1) := by decide +kernel
theorem d_Joined_leave_62 : decode s_Joined_leave.2.1 62 = .ok (.if_icmp .ne 8, 3) := by decide +kernel
theorem d_Joined_leave_65 : decode s_Joined_leave.2.1 65 = .ok (.aload_n 0, 1) := by decide +kernel
theorem d_Joined_leave_66 : decode s_Joined_leave.2.1 66 = .ok (.iload_n 1, 1) := by decide +kernel
theorem d_Joined_leave_67 : decode s_Joined_leave.2.1 67 = .ok (.invokevirtual 127, 3) := by decide +kernel
theorem d_Joined_leave_70 : decode s_Joined_leave.2.1 70 = .ok (.return_, 1) := by decide +kernel
theorem d_Joined_goThrough_0 : decode s_Joined_goThrough.2.1 0 = .ok (.aload_n 0, 1) := by decide +kernel
theorem d_Joined_goThrough_1 : decode s_Joined_goThrough.2.1 1 = .ok (.iload_n 1, 1) := by decide +kernel
theorem d_Joined_goThrough_2 : decode s_Joined_goThrough.2.1 2 = .ok (.invokevirtual 105, 3) := by decide +kernel
theorem d_Joined_goThrough_5 : decode s_Joined_goThrough.2.1 5 = .ok (.iconst 0, 1) := by decide +kernel
theorem d_Joined_goThrough_6 : decode s_Joined_goThrough.2.1 6 = .ok (.istore_n 2, 1) := by decide +kernel
theorem d_Joined_goThrough_7 : decode s_Joined_goThrough.2.1 7 = .ok (.iload_n 2, 1) := by decide +kernel
theorem d_Joined_goThrough_8 : decode s_Joined_goThrough.2.1 8 = .ok (.ldc 108, 2) := by decide +kernel
theorem d_Joined_goThrough_10 : decode s_Joined_goThrough.2.1 10 = .ok (.if_icmp .ge 84, 3) := by decide +kernel
theorem d_Joined_goThrough_13 : decode s_Joined_goThrough.2.1 13 = .ok (.aload_n 0, 1) := by decide +kernel
theorem d_Joined_goThrough_14 : decode s_Joined_goThrough.2.1 14 = .ok (.getfield 56, 3) := by decide +kernel
theorem d_Joined_goThrough_17 : decode s_Joined_goThrough.2.1 17 = .ok (.ifCond .le 77, 3) := by decide +kernel
theorem d_Joined_goThrough_20 : decode s_Joined_goThrough.2.1 20 = .ok (.aload_n 0, 1) := by decide +kernel
theorem d_Joined_goThrough_21 : decode s_Joined_goThrough.2.1 21 = .ok (.getfield 47, 3) := by decide +kernel
theorem d_Joined_goThrough_24 : decode s_Joined_goThrough.2.1 24 = .ok (.aload_n 0, 1) := by decide +kernel
theorem d_Joined_goThrough_25 : decode s_Joined_goThrough.2.1 25 = .ok (.getfield 56, 3) := by decide +kernel
theorem d_Joined_goThrough_28 : decode s_Joined_goThrough.2.1 28 = .ok (.iconst 1, 1) := by decide +kernel
theorem d_Joined_goThrough_29 : decode s_Joined_goThrough.2.1 29 = .ok (.isub, 1) := by decide +kernel
theorem d_Joined_goThrough_30 : decode s_Joined_goThrough.2.1 30 = .ok (.iaload, 1) := by decide +kernel
theorem d_Joined_goThrough_31 : decode s_Joined_goThrough.2.1 31 = .ok (.istore_n 3, 1) := by decide +kernel
theorem d_Joined_goThrough_32 : decode s_Joined_goThrough.2.1 32 = .ok (.aload_n 0, 1) := by decide +kernel
theorem d_Joined_goThrough_33 : decode s_Joined_goThrough.2.1 33 = .ok (.getfield 41, 3) := by decide +kernel
theorem d_Joined_goThrough_36 : decode s_Joined_goThrough.2.1 36 = .ok (.iload_n 3, 1) := by decide +kernel
theorem d_Joined_goThrough_37 : decode s_Joined_goThrough.2.1 37 = .ok (.iaload, 1) := by decide +kernel
theorem d_Joined_goThrough_38 : decode s_Joined_goThrough.2.1 38 = .ok (.istore 4, 2) := by decide +kernel
theorem d_Joined_goThrough_40 : decode s_Joined_goThrough.2.1 40 = .ok (.iload 4, 2) := by decide +kernel
theorem d_Joined_goThrough_42 : decode s_Joined_goThrough.2.1 42 = .ok (.aload_n 0, 1) := by decide +kernel
theorem d_Joined_goThrough_43 : decode s_Joined_goThrough.2.1 43 = .ok (.getfield 59, 3) := by decide +kernel
theorem d_Joined_goThrough_46 : decode s_Joined_goThrough.2.1 46 = .ok (.getfield 109, 3) := by decide +kernel
theorem d_Joined_goThrough_49 : decode s_Joined_goThrough.2.1 49 = .ok (.iload_n 3, 1) := by decide +kernel
theorem d_Joined_goThrough_50 : decode s_Joined_goThrough.2.1 50 = .ok (.iconst 4, 1) := by decide +kernel
theorem d_Joined_goThrough_51 : decode s_Joined_goThrough.2.1 51 = .ok (.idiv, 1) := by decide +kernel
theorem d_Joined_goThrough_52 : decode s_Joined_goThrough.2.1 52 = .ok (.iconst 1, 1) := by decide +kernel
theorem d_Joined_goThrough_53 : decode s_Joined_goThrough.2.1 53 = .ok (.iadd, 1) := by decide +kernel
theorem d_Joined_goThrough_54 : decode s_Joined_goThrough.2.1 54 = .ok (.iaload, 1) := by decide +kernel
theorem d_Joined_goThrough_55 : decode s_Joined_goThrough.2.1 55 = .ok (.if_icmp .ge 28, 3) := by decide +kernel
theorem d_Joined_goThrough_58 : decode s_Joined_goThrough.2.1 58 = .ok (.aload_n 0, 1) := by decide +kernel
theorem d_Joined_goThrough_59 : decode s_Joined_goThrough.2.1 59 = .ok (.getfield 41, 3) := by decide +kernel
theorem d_Joined_goThrough_62 : decode s_Joined_goThrough.2.1 62 = .ok (.iload_n 3, 1) := by decide +kernel
theorem d_Joined_goThrough_63 : decode s_Joined_goThrough.2.1 63 = .ok (.iload 4, 2) := by decide +kernel
theorem d_Joined_goThrough_65 : decode s_Joined_goThrough.2.1 65 = .ok (.iconst 1, 1) := by decide +kernel
theorem d_Joined_goThrough_66 : decode s_Joined_goThrough.2.1 66 = .ok (.iadd, 1) := by decide +kernel
theorem d_Joined_goThrough_67 : decode s_Joined_goThrough.2.1 67 = .ok (.iastore, 1) := by decide +kernel
theorem d_Joined_goThrough_68 : decode s_Joined_goThrough.2.1 68 = .ok (.aload_n 0, 1) := by decide +kernel
theorem d_Joined_goThrough_69 : decode s_Joined_goThrough.2.1 69 = .ok (.iload_n 3, 1) := by decide +kernel
theorem d_Joined_goThrough_70 : decode s_Joined_goThrough.2.1 70 = .ok (.aload_n 0, 1) := by decide +kernel
theorem d_Joined_goThrough_71 : decode s_Joined_goThrough.2.1 71 = .ok (.iload_n 3, 1) := by decide +kernel
theorem d_Joined_goThrough_72 : decode s_Joined_goThrough.2.1 72 = .ok (.iload 4, 2) := by decide +kernel
theorem d_Joined_goThrough_74 : decode s_Joined_goThrough.2.1 74 = .ok (.invokevirtual 112, 3) := by decide +kernel
theorem d_Joined_goThrough_77 : decode s_Joined_goThrough.2.1 77 = .ok (.invokevirtual 115, 3) := by decide +kernel
theorem d_Joined_goThrough_80 : decode s_Joined_goThrough.2.1 80 = .ok (.goto 8, 3) := by decide +kernel
theorem d_Joined_goThrough_83 : decode s_Joined_goThrough.2.1 83 = .ok (.aload_n 0, 1) := by decide +kernel
theorem d_Joined_goThrough_84 : decode s_Joined_goThrough.2.1 84 = .ok (.iload_n 3, 1) := by decide +kernel
theorem d_Joined_goThrough_85 : decode s_Joined_goThrough.2.1 85 = .ok (.invokevirtual 119, 3) := by decide +kernel
theorem d_Joined_goThrough_88 : decode s_Joined_goThrough.2.1 88 = .ok (.iinc 2 1, 3) := by decide +kernel
theorem d_Joined_goThrough_91 : decode s_Joined_goThrough.2.1 91 = .ok (.goto (-84), 3) := by decide +kernel
theorem d_Joined_goThrough_94 : decode s_Joined_goThrough.2.1 94 = .ok (.return_, 1) := by decide +kernel
theorem d_Joined_join_0 : decode s_Joined_join.2.1 0 = .ok (.aload_n 0, 1) := by decide +kernel
theorem d_Joined_join_1 : decode s_Joined_join.2.1 1 = .ok (.iload_n 1, 1) := by decide +kernel
theorem d_Joined_join_2 : decode s_Joined_join.2.1 2 = .ok (.putfield 9, 3) := by decide +kernel
theorem d_Joined_join_5 : decode s_Joined_join.2.1 5 = .ok (.aload_n 0, 1) := by decide +kernel
theorem d_Joined_join_6 : decode s_Joined_join.2.1 6 = .ok (.iload_n 2, 1) := by decide +kernel
theorem d_Joined_join_7 : decode s_Joined_join.2.1 7 = .ok (.putfield 15, 3) := by decide +kernel
theorem d_Joined_join_10 : decode s_Joined_join.2.1 10 = .ok (.aload_n 0, 1) := by decide +kernel
theorem d_Joined_join_11 : decode s_Joined_join.2.1 11 = .ok (.iload_n 3, 1) := by decide +kernel
theorem d_Joined_join_12 : decode s_Joined_join.2.1 12 = .ok (.putfield 19, 3) := by decide +kernel
theorem d_Joined_join_15 : decode s_Joined_join.2.1 15 = .ok (.aload_n 0, 1) := by decide +kernel
theorem d_Joined_join_16 : decode s_Joined_join.2.1 16 = .ok (.iconst 0, 1) := by decide +kernel
theorem d_Joined_join_17 : decode s_Joined_join.2.1 17 = .ok (.putfield 22, 3) := by decide +kernel
theorem d_Joined_join_20 : decode s_Joined_join.2.1 20 = .ok (.aload_n 0, 1) := by decide +kernel
theorem d_Joined_join_21 : decode s_Joined_join.2.1 21 = .ok (.iconst 0, 1) := by decide +kernel
theorem d_Joined_join_22 : decode s_Joined_join.2.1 22 = .ok (.putfield 50, 3) := by decide +kernel
theorem d_Joined_join_25 : decode s_Joined_join.2.1 25 = .ok (.aload_n 0, 1) := by decide +kernel
theorem d_Joined_join_26 : decode s_Joined_join.2.1 26 = .ok (.iconst 0, 1) := by decide +kernel
theorem d_Joined_join_27 : decode s_Joined_join.2.1 27 = .ok (.putfield 53, 3) := by decide +kernel
theorem d_Joined_join_30 : decode s_Joined_join.2.1 30 = .ok (.aload_n 0, 1) := by decide +kernel
theorem d_Joined_join_31 : decode s_Joined_join.2.1 31 = .ok (.iconst 0, 1) := by decide +kernel
theorem d_Joined_join_32 : decode s_Joined_join.2.1 32 = .ok (.putfield 56, 3) := by decide +kernel
theorem d_Joined_join_35 : decode s_Joined_join.2.1 35 = .ok (.aload_n 0, 1) := by decide +kernel
theorem d_Joined_join_36 : decode s_Joined_join.2.1 36 = .ok (.getfield 29, 3) := by decide +kernel
theorem d_Joined_join_39 : decode s_Joined_join.2.1 39 = .ok (.iconst 0, 1) := by decide +kernel
theorem d_Joined_join_40 : decode s_Joined_join.2.1 40 = .ok (.iconst 0, 1) := by decide +kernel
theorem d_Joined_join_41 : decode s_Joined_join.2.1 41 = .ok (.iastore, 1) := by decide +kernel
theorem d_Joined_join_42 : decode s_Joined_join.2.1 42 = .ok (.aload_n 0, 1) := by decide +kernel
theorem d_Joined_join_43 : decode s_Joined_join.2.1 43 = .ok (.getfield 25, 3) := by decide +kernel
theorem d_Joined_join_46 : decode s_Joined_join.2.1 46 = .ok (.iconst (-1), 1) := by decide +kernel
theorem d_Joined_join_47 : decode s_Joined_join.2.1 47 = .ok (.invokestatic 63, 3) := by decide +kernel
theorem d_Joined_join_50 : decode s_Joined_join.2.1 50 = .ok (.aload_n 0, 1) := by decide +kernel
theorem d_Joined_join_51 : decode s_Joined_join.2.1 51 = .ok (.getfield 35, 3) := by decide +kernel
theorem d_Joined_join_54 : decode s_Joined_join.2.1 54 = .ok (.iconst (-1), 1) := by decide +kernel
theorem d_Joined_join_55 : decode s_Joined_join.2.1 55 = .ok (.invokestatic 63, 3) := by decide +kernel
theorem d_Joined_join_58 : decode s_Joined_join.2.1 58 = .ok (.iconst 0, 1) := by decide +kernel
theorem d_Joined_join_59 : decode s_Joined_join.2.1 59 = .ok (.istore 4, 2) := by decide +kernel
theorem d_Joined_join_61 : decode s_Joined_join.2.1 61 = .ok (.iload 4, 2) := by decide +kernel
theorem d_Joined_join_63 : decode s_Joined_join.2.1 63 = .ok (.aload_n 0, 1) := by decide +kernel
theorem d_Joined_join_64 : decode s_Joined_join.2.1 64 = .ok (.getfield 59, 3) := by decide +kernel
theorem d_Joined_join_67 : decode s_Joined_join.2.1 67 = .ok (.getfield 69, 3) := by decide +kernel
theorem d_Joined_join_70 : decode s_Joined_join.2.1 70 = .ok (.iconst 4, 1) := by decide +kernel
theorem d_Joined_join_71 : decode s_Joined_join.2.1 71 = .ok (.imul, 1) := by decide +kernel
theorem d_Joined_join_72 : decode s_Joined_join.2.1 72 = .ok (.if_icmp .ge 35, 3) := by decide +kernel
theorem d_Joined_join_75 : decode s_Joined_join.2.1 75 = .ok (.aload_n 0, 1) := by decide +kernel
theorem d_Joined_join_76 : decode s_Joined_join.2.1 76 = .ok (.getfield 35, 3) := by decide +kernel
theorem d_Joined_join_79 : decode s_Joined_join.2.1 79 = .ok (.iload 4, 2) := by decide +kernel
theorem d_Joined_join_81 : decode s_Joined_join.2.1 81 = .ok (.iaload, 1) := by decide +kernel
theorem d_Joined_join_82 : decode s_Joined_join.2.1 82 = .ok (.iconst (-1), 1) := by decide +kernel
theorem d_Joined_join_83 : decode s_Joined_join.2.1 83 = .ok (.if_icmp .ne 18, 3) := by decide +kernel
theorem d_Joined_join_86 : decode s_Joined_join.2.1 86 = .ok (.aload_n 0, 1) := by decide +kernel
theorem d_Joined_join_87 : decode s_Joined_join.2.1 87 = .ok (.iload 4, 2) := by decide +kernel
theorem d_Joined_join_89 : decode s_Joined_join.2.1 89 = .ok (.invokevirtual 74, 3) := by decide +kernel
theorem d_Joined_join_92 : decode s_Joined_join.2.1 92 = .ok (.ifCond .eq 9, 3) := by decide +kernel
theorem d_Joined_join_95 : decode s_Joined_join.2.1 95 = .ok (.aload_n 0, 1) := by decide +kernel
theorem d_Joined_join_96 : decode s_Joined_join.2.1 96 = .ok (.iload 4, 2) := by decide +kernel
theorem d_Joined_join_98 : decode s_Joined_join.2.1 98 = .ok (.invokevirtual 78, 3) := by decide +kernel
theorem d_Joined_join_101 : decode s_Joined_join.2.1 101 = .ok (.iinc 4 1, 3) := by decide +kernel
theorem d_Joined_join_104 : decode s_Joined_join.2.1 104 = .ok (.goto (-43), 3) := by decide +kernel
theorem d_Joined_join_107 : decode s_Joined_join.2.1 107 = .ok (.return_, 1) := by decide +kernel
theorem d_Study_findParts_0 : decode s_Study_findParts.2.1 0 = .ok (.aload_n 0, 1) := by decide +kernel
theorem d_Study_findParts_1 : decode s_Study_findParts.2.1 1 = .ok (.getfield 62, 3) := by decide +kernel
theorem d_Study_findParts_4 : decode s_Study_findParts.2.1 4 = .ok (.iconst 0, 1) := by decide +kernel
theorem d_Study_findParts_5 : decode s_Study_findParts.2.1 5 = .ok (.iconst (-1), 1) := by decide +kernel
theorem d_Study_findParts_6 : decode s_Study_findParts.2.1 6 = .ok (.iconst (-1), 1) := by decide +kernel
theorem d_Study_findParts_7 : decode s_Study_findParts.2.1 7 = .ok (.invokevirtual 93, 3) := by decide +kernel
theorem d_Study_findParts_10 : decode s_Study_findParts.2.1 10 = .ok (.aload_n 0, 1) := by decide +kernel
theorem d_Study_findParts_11 : decode s_Study_findParts.2.1 11 = .ok (.getfield 29, 3) := by decide +kernel
theorem d_Study_findParts_14 : decode s_Study_findParts.2.1 14 = .ok (.iconst (-1), 1) := by decide +kernel
theorem d_Study_findParts_15 : decode s_Study_findParts.2.1 15 = .ok (.invokestatic 97, 3) := by decide +kernel
theorem d_Study_findParts_18 : decode s_Study_findParts.2.1 18 = .ok (.aload_n 0, 1) := by decide +kernel
theorem d_Study_findParts_19 : decode s_Study_findParts.2.1 19 = .ok (.iconst 0, 1) := by decide +kernel
theorem d_Study_findParts_20 : decode s_Study_findParts.2.1 20 = .ok (.putfield 9, 3) := by decide +kernel
theorem d_Study_findParts_23 : decode s_Study_findParts.2.1 23 = .ok (.iconst 0, 1) := by decide +kernel
theorem d_Study_findParts_24 : decode s_Study_findParts.2.1 24 = .ok (.istore_n 1, 1) := by decide +kernel
theorem d_Study_findParts_25 : decode s_Study_findParts.2.1 25 = .ok (.iload_n 1, 1) := by decide +kernel
theorem d_Study_findParts_26 : decode s_Study_findParts.2.1 26 = .ok (.aload_n 0, 1) := by decide +kernel
theorem d_Study_findParts_27 : decode s_Study_findParts.2.1 27 = .ok (.getfield 53, 3) := by decide +kernel
theorem d_Study_findParts_30 : decode s_Study_findParts.2.1 30 = .ok (.getfield 103, 3) := by decide +kernel
theorem d_Study_findParts_33 : decode s_Study_findParts.2.1 33 = .ok (.if_icmp .ge 108, 3) := by decide +kernel
theorem d_Study_findParts_36 : decode s_Study_findParts.2.1 36 = .ok (.aload_n 0, 1) := by decide +kernel
theorem d_Study_findParts_37 : decode s_Study_findParts.2.1 37 = .ok (.getfield 62, 3) := by decide +kernel
theorem d_Study_findParts_40 : decode s_Study_findParts.2.1 40 = .ok (.getfield 108, 3) := by decide +kernel
theorem d_Study_findParts_43 : decode s_Study_findParts.2.1 43 = .ok (.iload_n 1, 1) := by decide +kernel
theorem d_Study_findParts_44 : decode s_Study_findParts.2.1 44 = .ok (.iconst 4, 1) := by decide +kernel
theorem d_Study_findParts_45 : decode s_Study_findParts.2.1 45 = .ok (.imul, 1) := by decide +kernel
theorem d_Study_findParts_46 : decode s_Study_findParts.2.1 46 = .ok (.iaload, 1) := by decide +kernel
theorem d_Study_findParts_47 : decode s_Study_findParts.2.1 47 = .ok (.istore_n 2, 1) := by decide +kernel
theorem d_Study_findParts_48 : decode s_Study_findParts.2.1 48 = .ok (.aload_n 0, 1) := by decide +kernel
theorem d_Study_findParts_49 : decode s_Study_findParts.2.1 49 = .ok (.getfield 29, 3) := by decide +kernel
theorem d_Study_findParts_52 : decode s_Study_findParts.2.1 52 = .ok (.iload_n 2, 1) := by decide +kernel
theorem d_Study_findParts_53 : decode s_Study_findParts.2.1 53 = .ok (.iaload, 1) := by decide +kernel
theorem d_Study_findParts_54 : decode s_Study_findParts.2.1 54 = .ok (.iconst (-1), 1) := by decide +kernel
theorem d_Study_findParts_55 : decode s_Study_findParts.2.1 55 = .ok (.if_icmp .ne 53, 3) := by decide +kernel
theorem d_Study_findParts_58 : decode s_Study_findParts.2.1 58 = .ok (.aload_n 0, 1) := by decide +kernel
theorem d_Study_findParts_59 : decode s_Study_findParts.2.1 59 = .ok (.getfield 29, 3) := by decide +kernel
theorem d_Study_findParts_62 : decode s_Study_findParts.2.1 62 = .ok (.iload_n 2, 1) := by decide +kernel
theorem d_Study_findParts_63 : decode s_Study_findParts.2.1 63 = .ok (.aload_n 0, 1) := by decide +kernel
theorem d_Study_findParts_64 : decode s_Study_findParts.2.1 64 = .ok (.getfield 9, 3) := by decide +kernel
theorem d_Study_findParts_67 : decode s_Study_findParts.2.1 67 = .ok (.iastore, 1) := by decide +kernel
theorem d_Study_findParts_68 : decode s_Study_findParts.2.1 68 = .ok (.aload_n 0, 1) := by decide +kernel
theorem d_Study_findParts_69 : decode s_Study_findParts.2.1 69 = .ok (.getfield 22, 3) := by decide +kernel
theorem d_Study_findParts_72 : decode s_Study_findParts.2.1 72 = .ok (.aload_n 0, 1) := by decide +kernel
theorem d_Study_findParts_73 : decode s_Study_findParts.2.1 73 = .ok (.getfield 9, 3) := by decide +kernel
theorem d_Study_findParts_76 : decode s_Study_findParts.2.1 76 = .ok (.iload_n 1, 1) := by decide +kernel
theorem d_Study_findParts_77 : decode s_Study_findParts.2.1 77 = .ok (.iastore, 1) := by decide +kernel
theorem d_Study_findParts_78 : decode s_Study_findParts.2.1 78 = .ok (.aload_n 0, 1) := by decide +kernel
theorem d_Study_findParts_79 : decode s_Study_findParts.2.1 79 = .ok (.getfield 19, 3) := by decide +kernel
theorem d_Study_findParts_82 : decode s_Study_findParts.2.1 82 = .ok (.aload_n 0, 1) := by decide +kernel
theorem d_Study_findParts_83 : decode s_Study_findParts.2.1 83 = .ok (.getfield 9, 3) := by decide +kernel
theorem d_Study_findParts_86 : decode s_Study_findParts.2.1 86 = .ok (.iconst 0, 1) := by decide +kernel
theorem d_Study_findParts_87 : decode s_Study_findParts.2.1 87 = .ok (.iastore, 1) := by decide +kernel
theorem d_Study_findParts_88 : decode s_Study_findParts.2.1 88 = .ok (.aload_n 0, 1) := by decide +kernel
theorem d_Study_findParts_89 : decode s_Study_findParts.2.1 89 = .ok (.getfield 25, 3) := by decide +kernel
theorem d_Study_findParts_92 : decode s_Study_findParts.2.1 92 = .ok (.aload_n 0, 1) := by decide +kernel
theorem d_Study_findParts_93 : decode s_Study_findParts.2.1 93 = .ok (.getfield 9, 3) := by decide +kernel
theorem d_Study_findParts_96 : decode s_Study_findParts.2.1 96 = .ok (.iconst 1, 1) := by decide +kernel
theorem d_Study_findParts_97 : decode s_Study_findParts.2.1 97 = .ok (.bastore, 1) := by decide +kernel
theorem d_Study_findParts_98 : decode s_Study_findParts.2.1 98 = .ok (.aload_n 0, 1) := by decide +kernel
theorem d_Study_findParts_99 : decode s_Study_findParts.2.1 99 = .ok (.dup, 1) := by decide +kernel
theorem d_Study_findParts_100 : decode s_Study_findParts.2.1 100 = .ok (.getfield 9, 3) := by decide +kernel
theorem d_Study_findParts_103 : decode s_Study_findParts.2.1 103 = .ok (.iconst 1, 1) := by decide +kernel
theorem d_Study_findParts_104 : decode s_Study_findParts.2.1 104 = .ok (.iadd, 1) := by decide +kernel
theorem d_Study_findParts_105 : decode s_Study_findParts.2.1 105 = .ok (.putfield 9, 3) := by decide +kernel
theorem d_Study_findParts_108 : decode s_Study_findParts.2.1 108 = .ok (.aload_n 0, 1) := by decide +kernel
theorem d_Study_findParts_109 : decode s_Study_findParts.2.1 109 = .ok (.getfield 15, 3) := by decide +kernel
theorem d_Study_findParts_112 : decode s_Study_findParts.2.1 112 = .ok (.iload_n 1, 1) := by decide +kernel
theorem d_Study_findParts_113 : decode s_Study_findParts.2.1 113 = .ok (.aload_n 0, 1) := by decide +kernel
theorem d_Study_findParts_114 : decode s_Study_findParts.2.1 114 = .ok (.getfield 29, 3) := by decide +kernel
theorem d_Study_findParts_117 : decode s_Study_findParts.2.1 117 = .ok (.iload_n 2, 1) := by decide +kernel
theorem d_Study_findParts_118 : decode s_Study_findParts.2.1 118 = .ok (.iaload, 1) := by decide +kernel
theorem d_Study_findParts_119 : decode s_Study_findParts.2.1 119 = .ok (.iastore, 1) := by decide +kernel
theorem d_Study_findParts_120 : decode s_Study_findParts.2.1 120 = .ok (.aload_n 0, 1) := by decide +kernel
theorem d_Study_findParts_121 : decode s_Study_findParts.2.1 121 = .ok (.getfield 19, 3) := by decide +kernel
theorem d_Study_findParts_124 : decode s_Study_findParts.2.1 124 = .ok (.aload_n 0, 1) := by decide +kernel
theorem d_Study_findParts_125 : decode s_Study_findParts.2.1 125 = .ok (.getfield 15, 3) := by decide +kernel
theorem d_Study_findParts_128 : decode s_Study_findParts.2.1 128 = .ok (.iload_n 1, 1) := by decide +kernel
theorem d_Study_findParts_129 : decode s_Study_findParts.2.1 129 = .ok (.iaload, 1) := by decide +kernel
theorem d_Study_findParts_130 : decode s_Study_findParts.2.1 130 = .ok (.dup2, 1) := by decide +kernel
theorem d_Study_findParts_131 : decode s_Study_findParts.2.1 131 = .ok (.iaload, 1) := by decide +kernel
theorem d_Study_findParts_132 : decode s_Study_findParts.2.1 132 = .ok (.iconst 1, 1) := by decide +kernel
theorem d_Study_findParts_133 : decode s_Study_findParts.2.1 133 = .ok (.iadd, 1) := by decide +kernel
theorem d_Study_findParts_134 : decode s_Study_findParts.2.1 134 = .ok (.iastore, 1) := by decide +kernel
theorem d_Study_findParts_135 : decode s_Study_findParts.2.1 135 = .ok (.iinc 1 1, 3) := by decide +kernel
theorem d_Study_findParts_138 : decode s_Study_findParts.2.1 138 = .ok (.goto (-113), 3) := by decide +kernel
theorem d_Study_findParts_141 : decode s_Study_findParts.2.1 141 = .ok (.iconst 0, 1) := by decide +kernel
theorem d_Study_findParts_142 : decode s_Study_findParts.2.1 142 = .ok (.istore_n 1, 1) := by decide +kernel
theorem d_Study_findParts_143 : decode s_Study_findParts.2.1 143 = .ok (.iload_n 1, 1) := by decide +kernel
theorem d_Study_findParts_144 : decode s_Study_findParts.2.1 144 = .ok (.aload_n 0, 1) := by decide +kernel
theorem d_Study_findParts_145 : decode s_Study_findParts.2.1 145 = .ok (.getfield 53, 3) := by decide +kernel
theorem d_Study_findParts_148 : decode s_Study_findParts.2.1 148 = .ok (.getfield 103, 3) := by decide +kernel
theorem d_Study_findParts_151 : decode s_Study_findParts.2.1 151 = .ok (.if_icmp .ge 74, 3) := by decide +kernel
theorem d_Study_findParts_154 : decode s_Study_findParts.2.1 154 = .ok (.aload_n 0, 1) := by decide +kernel
theorem d_Study_findParts_155 : decode s_Study_findParts.2.1 155 = .ok (.getfield 53, 3) := by decide +kernel
theorem d_Study_findParts_158 : decode s_Study_findParts.2.1 158 = .ok (.getfield 111, 3) := by decide +kernel
theorem d_Study_findParts_161 : decode s_Study_findParts.2.1 161 = .ok (.iload_n 1, 1) := by decide +kernel
theorem d_Study_findParts_162 : decode s_Study_findParts.2.1 162 = .ok (.iaload, 1) := by decide +kernel
theorem d_Study_findParts_163 : decode s_Study_findParts.2.1 163 = .ok (.istore_n 2, 1) := by decide +kernel
theorem d_Study_findParts_164 : decode s_Study_findParts.2.1 164 = .ok (.iload_n 2, 1) := by decide +kernel
theorem d_Study_findParts_165 : decode s_Study_findParts.2.1 165 = .ok (.aload_n 0, 1) := by decide +kernel
theorem d_Study_findParts_166 : decode s_Study_findParts.2.1 166 = .ok (.getfield 53, 3) := by decide +kernel
theorem d_Study_findParts_169 : decode s_Study_findParts.2.1 169 = .ok (.getfield 111, 3) := by decide +kernel
theorem d_Study_findParts_172 : decode s_Study_findParts.2.1 172 = .ok (.iload_n 1, 1) := by decide +kernel
theorem d_Study_findParts_173 : decode s_Study_findParts.2.1 173 = .ok (.iconst 1, 1) := by decide +kernel
theorem d_Study_findParts_174 : decode s_Study_findParts.2.1 174 = .ok (.iadd, 1) := by decide +kernel
theorem d_Study_findParts_175 : decode s_Study_findParts.2.1 175 = .ok (.iaload, 1) := by decide +kernel
theorem d_Study_findParts_176 : decode s_Study_findParts.2.1 176 = .ok (.if_icmp .ge 43, 3) := by decide +kernel
theorem d_Study_findParts_179 : decode s_Study_findParts.2.1 179 = .ok (.aload_n 0, 1) := by decide +kernel
theorem d_Study_findParts_180 : decode s_Study_findParts.2.1 180 = .ok (.getfield 15, 3) := by decide +kernel
theorem d_Study_findParts_183 : decode s_Study_findParts.2.1 183 = .ok (.aload_n 0, 1) := by decide +kernel
theorem d_Study_findParts_184 : decode s_Study_findParts.2.1 184 = .ok (.getfield 53, 3) := by decide +kernel
theorem d_Study_findParts_187 : decode s_Study_findParts.2.1 187 = .ok (.iload_n 2, 1) := by decide +kernel
theorem d_Study_findParts_188 : decode s_Study_findParts.2.1 188 = .ok (.invokevirtual 114, 3) := by decide +kernel
theorem d_Study_findParts_191 : decode s_Study_findParts.2.1 191 = .ok (.iaload, 1) := by decide +kernel
theorem d_Study_findParts_192 : decode s_Study_findParts.2.1 192 = .ok (.aload_n 0, 1) := by decide +kernel
theorem d_Study_findParts_193 : decode s_Study_findParts.2.1 193 = .ok (.getfield 15, 3) := by decide +kernel
theorem d_Study_findParts_196 : decode s_Study_findParts.2.1 196 = .ok (.iload_n 1, 1) := by decide +kernel
theorem d_Study_findParts_197 : decode s_Study_findParts.2.1 197 = .ok (.iaload, 1) := by decide +kernel
theorem d_Study_findParts_198 : decode s_Study_findParts.2.1 198 = .ok (.if_icmp .eq 15, 3) := by decide +kernel
theorem d_Study_findParts_201 : decode s_Study_findParts.2.1 201 = .ok (.aload_n 0, 1) := by decide +kernel
theorem d_Study_findParts_202 : decode s_Study_findParts.2.1 202 = .ok (.getfield 25, 3) := by decide +kernel
theorem d_Study_findParts_205 : decode s_Study_findParts.2.1 205 = .ok (.aload_n 0, 1) := by decide +kernel
theorem d_Study_findParts_206 : decode s_Study_findParts.2.1 206 = .ok (.getfield 15, 3) := by decide +kernel
theorem d_Study_findParts_209 : decode s_Study_findParts.2.1 209 = .ok (.iload_n 1, 1) := by decide +kernel
theorem d_Study_findParts_210 : decode s_Study_findParts.2.1 210 = .ok (.iaload, 1) := by decide +kernel
theorem d_Study_findParts_211 : decode s_Study_findParts.2.1 211 = .ok (.iconst 0, 1) := by decide +kernel
theorem d_Study_findParts_212 : decode s_Study_findParts.2.1 212 = .ok (.bastore, 1) := by decide +kernel
theorem d_Study_findParts_213 : decode s_Study_findParts.2.1 213 = .ok (.iinc 2 1, 3) := by decide +kernel
theorem d_Study_findParts_216 : decode s_Study_findParts.2.1 216 = .ok (.goto (-52), 3) := by decide +kernel
theorem d_Study_findParts_219 : decode s_Study_findParts.2.1 219 = .ok (.iinc 1 1, 3) := by decide +kernel
theorem d_Study_findParts_222 : decode s_Study_findParts.2.1 222 = .ok (.goto (-79), 3) := by decide +kernel
theorem d_Study_findParts_225 : decode s_Study_findParts.2.1 225 = .ok (.return_, 1) := by decide +kernel
theorem d_Study_clear_0 : decode s_Study_clear.2.1 0 = .ok (.iconst 0, 1) := by decide +kernel
theorem d_Study_clear_1 : decode s_Study_clear.2.1 1 = .ok (.istore_n 1, 1) := by decide +kernel
theorem d_Study_clear_2 : decode s_Study_clear.2.1 2 = .ok (.iload_n 1, 1) := by decide +kernel
theorem d_Study_clear_3 : decode s_Study_clear.2.1 3 = .ok (.aload_n 0, 1) := by decide +kernel
theorem d_Study_clear_4 : decode s_Study_clear.2.1 4 = .ok (.arraylength, 1) := by decide +kernel
theorem d_Study_clear_5 : decode s_Study_clear.2.1 5 = .ok (.if_icmp .ge 13, 3) := by decide +kernel
theorem d_Study_clear_8 : decode s_Study_clear.2.1 8 = .ok (.aload_n 0, 1) := by decide +kernel
theorem d_Study_clear_9 : decode s_Study_clear.2.1 9 = .ok (.iload_n 1, 1) := by decide +kernel
theorem d_Study_clear_10 : decode s_Study_clear.2.1 10 = .ok (.iconst 0, 1) := by decide +kernel
theorem d_Study_clear_11 : decode s_Study_clear.2.1 11 = .ok (.bastore, 1) := by decide +kernel
theorem d_Study_clear_12 : decode s_Study_clear.2.1 12 = .ok (.iinc 1 1, 3) := by decide +kernel
theorem d_Study_clear_15 : decode s_Study_clear.2.1 15 = .ok (.goto (-13), 3) := by decide +kernel
theorem d_Study_clear_18 : decode s_Study_clear.2.1 18 = .ok (.return_, 1) := by decide +kernel
theorem d_Study_isAgentIn_0 : decode s_Study_isAgentIn.2.1 0 = .ok (.iload_n 1, 1) := by decide +kernel
theorem d_Study_isAgentIn_1 : decode s_Study_isAgentIn.2.1 1 = .ok (.iconst 4, 1) := by decide +kernel
theorem d_Study_isAgentIn_2 : decode s_Study_isAgentIn.2.1 2 = .ok (.irem, 1) := by decide +kernel
theorem d_Study_isAgentIn_3 : decode s_Study_isAgentIn.2.1 3 = .ok (.aload_n 0, 1) := by decide +kernel
theorem d_Study_isAgentIn_4 : decode s_Study_isAgentIn.2.1 4 = .ok (.getfield 53, 3) := by decide +kernel
theorem d_Study_isAgentIn_7 : decode s_Study_isAgentIn.2.1 7 = .ok (.getfield 144, 3) := by decide +kernel
theorem d_Study_isAgentIn_10 : decode s_Study_isAgentIn.2.1 10 = .ok (.if_icmp .ge 24, 3) := by decide +kernel
theorem d_Study_isAgentIn_13 : decode s_Study_isAgentIn.2.1 13 = .ok (.aload_n 0, 1) := by decide +kernel
theorem d_Study_isAgentIn_14 : decode s_Study_isAgentIn.2.1 14 = .ok (.getfield 53, 3) := by decide +kernel
theorem d_Study_isAgentIn_17 : decode s_Study_isAgentIn.2.1 17 = .ok (.getfield 147, 3) := by decide +kernel
theorem d_Study_isAgentIn_20 : decode s_Study_isAgentIn.2.1 20 = .ok (.iload_n 1, 1) := by decide +kernel
theorem d_Study_isAgentIn_21 : decode s_Study_isAgentIn.2.1 21 = .ok (.iaload, 1) := by decide +kernel
theorem d_Study_isAgentIn_22 : decode s_Study_isAgentIn.2.1 22 = .ok (.iconst 0, 1) := by decide +kernel
theorem d_Study_isAgentIn_23 : decode s_Study_isAgentIn.2.1 23 = .ok (.invokestatic 150, 3) := by decide +kernel
theorem d_Study_isAgentIn_26 : decode s_Study_isAgentIn.2.1 26 = .ok (.iload_n 2, 1) := by decide +kernel
theorem d_Study_isAgentIn_27 : decode s_Study_isAgentIn.2.1 27 = .ok (.if_icmp .ne 7, 3) := by decide +kernel
theorem d_Study_isAgentIn_30 : decode s_Study_isAgentIn.2.1 30 = .ok (.iconst 1, 1) := by decide +kernel
theorem d_Study_isAgentIn_31 : decode s_Study_isAgentIn.2.1 31 = .ok (.goto 4, 3) := by decide +kernel
theorem d_Study_isAgentIn_34 : decode s_Study_isAgentIn.2.1 34 = .ok (.iconst 0, 1) := by decide +kernel
theorem d_Study_isAgentIn_35 : decode s_Study_isAgentIn.2.1 35 = .ok (.ireturn, 1) := by decide +kernel
theorem d_Joined_leadsToMarked_0 : decode s_Joined_leadsToMarked.2.1 0 = .ok (.iload_n 1, 1) := by decide +kernel
theorem d_Joined_leadsToMarked_1 : decode s_Joined_leadsToMarked.2.1 1 = .ok (.iconst 4, 1) := by decide +kernel
theorem d_Joined_leadsToMarked_2 : decode s_Joined_leadsToMarked.2.1 2 = .ok (.idiv, 1) := by decide +kernel
theorem d_Joined_leadsToMarked_3 : decode s_Joined_leadsToMarked.2.1 3 = .ok (.istore_n 3, 1) := by decide +kernel
theorem d_Joined_leadsToMarked_4 : decode s_Joined_leadsToMarked.2.1 4 = .ok (.aload_n 0, 1) := by decide +kernel
theorem d_Joined_leadsToMarked_5 : decode s_Joined_leadsToMarked.2.1 5 = .ok (.getfield 59, 3) := by decide +kernel
theorem d_Joined_leadsToMarked_8 : decode s_Joined_leadsToMarked.2.1 8 = .ok (.getfield 109, 3) := by decide +kernel
theorem d_Joined_leadsToMarked_11 : decode s_Joined_leadsToMarked.2.1 11 = .ok (.iload_n 3, 1) := by decide +kernel
theorem d_Joined_leadsToMarked_12 : decode s_Joined_leadsToMarked.2.1 12 = .ok (.iaload, 1) := by decide +kernel
theorem d_Joined_leadsToMarked_13 : decode s_Joined_leadsToMarked.2.1 13 = .ok (.istore 4, 2) := by decide +kernel
theorem d_Joined_leadsToMarked_15 : decode s_Joined_leadsToMarked.2.1 15 = .ok (.iload 4, 2) := by decide +kernel
theorem d_Joined_leadsToMarked_17 : decode s_Joined_leadsToMarked.2.1 17 = .ok (.aload_n 0, 1) := by decide +kernel
theorem d_Joined_leadsToMarked_18 : decode s_Joined_leadsToMarked.2.1 18 = .ok (.getfield 59, 3) := by decide +kernel
theorem d_Joined_leadsToMarked_21 : decode s_Joined_leadsToMarked.2.1 21 = .ok (.getfield 109, 3) := by decide +kernel
theorem d_Joined_leadsToMarked_24 : decode s_Joined_leadsToMarked.2.1 24 = .ok (.iload_n 3, 1) := by decide +kernel
theorem d_Joined_leadsToMarked_25 : decode s_Joined_leadsToMarked.2.1 25 = .ok (.iconst 1, 1) := by decide +kernel
theorem d_Joined_leadsToMarked_26 : decode s_Joined_leadsToMarked.2.1 26 = .ok (.iadd, 1) := by decide +kernel
theorem d_Joined_leadsToMarked_27 : decode s_Joined_leadsToMarked.2.1 27 = .ok (.iaload, 1) := by decide +kernel
theorem d_Joined_leadsToMarked_28 : decode s_Joined_leadsToMarked.2.1 28 = .ok (.if_icmp .ge 33, 3) := by decide +kernel
theorem d_Joined_leadsToMarked_31 : decode s_Joined_leadsToMarked.2.1 31 = .ok (.aload_n 0, 1) := by decide +kernel
theorem d_Joined_leadsToMarked_32 : decode s_Joined_leadsToMarked.2.1 32 = .ok (.iload_n 1, 1) := by decide +kernel
theorem d_Joined_leadsToMarked_33 : decode s_Joined_leadsToMarked.2.1 33 = .ok (.iload 4, 2) := by decide +kernel
theorem d_Joined_leadsToMarked_35 : decode s_Joined_leadsToMarked.2.1 35 = .ok (.invokevirtual 112, 3) := by decide +kernel
theorem d_Joined_leadsToMarked_38 : decode s_Joined_leadsToMarked.2.1 38 = .ok (.istore 5, 2) := by decide +kernel
theorem d_Joined_leadsToMarked_40 : decode s_Joined_leadsToMarked.2.1 40 = .ok (.iload 5, 2) := by decide +kernel
theorem d_Joined_leadsToMarked_42 : decode s_Joined_leadsToMarked.2.1 42 = .ok (.iconst (-1), 1) := by decide +kernel
theorem d_Joined_leadsToMarked_43 : decode s_Joined_leadsToMarked.2.1 43 = .ok (.if_icmp .eq 12, 3) := by decide +kernel
theorem d_Joined_leadsToMarked_46 : decode s_Joined_leadsToMarked.2.1 46 = .ok (.aload_n 2, 1) := by decide +kernel
theorem d_Joined_leadsToMarked_47 : decode s_Joined_leadsToMarked.2.1 47 = .ok (.iload 5, 2) := by decide +kernel
theorem d_Joined_leadsToMarked_49 : decode s_Joined_leadsToMarked.2.1 49 = .ok (.baload, 1) := by decide +kernel
theorem d_Joined_leadsToMarked_50 : decode s_Joined_leadsToMarked.2.1 50 = .ok (.ifCond .eq 5, 3) := by decide +kernel
theorem d_Joined_leadsToMarked_53 : decode s_Joined_leadsToMarked.2.1 53 = .ok (.iconst 1, 1) := by decide +kernel
theorem d_Joined_leadsToMarked_54 : decode s_Joined_leadsToMarked.2.1 54 = .ok (.ireturn, 1) := by decide +kernel
theorem d_Joined_leadsToMarked_55 : decode s_Joined_leadsToMarked.2.1 55 = .ok (.iinc 4 1, 3) := by decide +kernel
theorem d_Joined_leadsToMarked_58 : decode s_Joined_leadsToMarked.2.1 58 = .ok (.goto (-43), 3) := by decide +kernel
theorem d_Joined_leadsToMarked_61 : decode s_Joined_leadsToMarked.2.1 61 = .ok (.iconst 0, 1) := by decide +kernel
theorem d_Joined_leadsToMarked_62 : decode s_Joined_leadsToMarked.2.1 62 = .ok (.ireturn, 1) := by decide +kernel
theorem d_Joined_spread_0 : decode s_Joined_spread.2.1 0 = .ok (.iconst 0, 1) := by decide +kernel
theorem d_Joined_spread_1 : decode s_Joined_spread.2.1 1 = .ok (.istore_n 2, 1) := by decide +kernel
theorem d_Joined_spread_2 : decode s_Joined_spread.2.1 2 = .ok (.iload_n 2, 1) := by decide +kernel
theorem d_Joined_spread_3 : decode s_Joined_spread.2.1 3 = .ok (.aload_n 0, 1) := by decide +kernel
theorem d_Joined_spread_4 : decode s_Joined_spread.2.1 4 = .ok (.getfield 22, 3) := by decide +kernel
theorem d_Joined_spread_7 : decode s_Joined_spread.2.1 7 = .ok (.if_icmp .ge 115, 3) := by decide +kernel
theorem d_Joined_spread_10 : decode s_Joined_spread.2.1 10 = .ok (.iconst 0, 1) := by decide +kernel
theorem d_Joined_spread_11 : decode s_Joined_spread.2.1 11 = .ok (.istore_n 3, 1) := by decide +kernel
theorem d_Joined_spread_12 : decode s_Joined_spread.2.1 12 = .ok (.aload_n 0, 1) := by decide +kernel
theorem d_Joined_spread_13 : decode s_Joined_spread.2.1 13 = .ok (.getfield 29, 3) := by decide +kernel
theorem d_Joined_spread_16 : decode s_Joined_spread.2.1 16 = .ok (.iload_n 2, 1) := by decide +kernel
theorem d_Joined_spread_17 : decode s_Joined_spread.2.1 17 = .ok (.iaload, 1) := by decide +kernel
theorem d_Joined_spread_18 : decode s_Joined_spread.2.1 18 = .ok (.istore 4, 2) := by decide +kernel
theorem d_Joined_spread_20 : decode s_Joined_spread.2.1 20 = .ok (.iload 4, 2) := by decide +kernel
theorem d_Joined_spread_22 : decode s_Joined_spread.2.1 22 = .ok (.aload_n 0, 1) := by decide +kernel
theorem d_Joined_spread_23 : decode s_Joined_spread.2.1 23 = .ok (.getfield 29, 3) := by decide +kernel
theorem d_Joined_spread_26 : decode s_Joined_spread.2.1 26 = .ok (.iload_n 2, 1) := by decide +kernel
theorem d_Joined_spread_27 : decode s_Joined_spread.2.1 27 = .ok (.iconst 1, 1) := by decide +kernel
theorem d_Joined_spread_28 : decode s_Joined_spread.2.1 28 = .ok (.iadd, 1) := by decide +kernel
theorem d_Joined_spread_29 : decode s_Joined_spread.2.1 29 = .ok (.iaload, 1) := by decide +kernel
theorem d_Joined_spread_30 : decode s_Joined_spread.2.1 30 = .ok (.if_icmp .ge 46, 3) := by decide +kernel
theorem d_Joined_spread_33 : decode s_Joined_spread.2.1 33 = .ok (.iload_n 3, 1) := by decide +kernel
theorem d_Joined_spread_34 : decode s_Joined_spread.2.1 34 = .ok (.ifCond .ne 42, 3) := by decide +kernel
theorem d_Joined_spread_37 : decode s_Joined_spread.2.1 37 = .ok (.aload_n 1, 1) := by decide +kernel
theorem d_Joined_spread_38 : decode s_Joined_spread.2.1 38 = .ok (.aload_n 0, 1) := by decide +kernel
theorem d_Joined_spread_39 : decode s_Joined_spread.2.1 39 = .ok (.getfield 32, 3) := by decide +kernel
theorem d_Joined_spread_42 : decode s_Joined_spread.2.1 42 = .ok (.iload 4, 2) := by decide +kernel
theorem d_Joined_spread_44 : decode s_Joined_spread.2.1 44 = .ok (.iaload, 1) := by decide +kernel
theorem d_Joined_spread_45 : decode s_Joined_spread.2.1 45 = .ok (.baload, 1) := by decide +kernel
theorem d_Joined_spread_46 : decode s_Joined_spread.2.1 46 = .ok (.ifCond .ne 18, 3) := by decide +kernel
theorem d_Joined_spread_49 : decode s_Joined_spread.2.1 49 = .ok (.aload_n 0, 1) := by decide +kernel
theorem d_Joined_spread_50 : decode s_Joined_spread.2.1 50 = .ok (.aload_n 0, 1) := by decide +kernel
theorem d_Joined_spread_51 : decode s_Joined_spread.2.1 51 = .ok (.getfield 32, 3) := by decide +kernel
theorem d_Joined_spread_54 : decode s_Joined_spread.2.1 54 = .ok (.iload 4, 2) := by decide +kernel
theorem d_Joined_spread_56 : decode s_Joined_spread.2.1 56 = .ok (.iaload, 1) := by decide +kernel
theorem d_Joined_spread_57 : decode s_Joined_spread.2.1 57 = .ok (.aload_n 1, 1) := by decide +kernel
theorem d_Joined_spread_58 : decode s_Joined_spread.2.1 58 = .ok (.invokevirtual 130, 3) := by decide +kernel
theorem d_Joined_spread_61 : decode s_Joined_spread.2.1 61 = .ok (.ifCond .eq 7, 3) := by decide +kernel
theorem d_Joined_spread_64 : decode s_Joined_spread.2.1 64 = .ok (.iconst 1, 1) := by decide +kernel
theorem d_Joined_spread_65 : decode s_Joined_spread.2.1 65 = .ok (.goto 4, 3) := by decide +kernel
theorem d_Joined_spread_68 : decode s_Joined_spread.2.1 68 = .ok (.iconst 0, 1) := by decide +kernel
theorem d_Joined_spread_69 : decode s_Joined_spread.2.1 69 = .ok (.istore_n 3, 1) := by decide +kernel
theorem d_Joined_spread_70 : decode s_Joined_spread.2.1 70 = .ok (.iinc 4 1, 3) := by decide +kernel
theorem d_Joined_spread_73 : decode s_Joined_spread.2.1 73 = .ok (.goto (-53), 3) := by decide +kernel
theorem d_Joined_spread_76 : decode s_Joined_spread.2.1 76 = .ok (.aload_n 0, 1) := by decide +kernel
theorem d_Joined_spread_77 : decode s_Joined_spread.2.1 77 = .ok (.getfield 29, 3) := by decide +kernel
theorem d_Joined_spread_80 : decode s_Joined_spread.2.1 80 = .ok (.iload_n 2, 1) := by decide +kernel
theorem d_Joined_spread_81 : decode s_Joined_spread.2.1 81 = .ok (.iaload, 1) := by decide +kernel
theorem d_Joined_spread_82 : decode s_Joined_spread.2.1 82 = .ok (.istore 4, 2) := by decide +kernel
theorem d_Joined_spread_84 : decode s_Joined_spread.2.1 84 = .ok (.iload 4, 2) := by decide +kernel
theorem d_Joined_spread_86 : decode s_Joined_spread.2.1 86 = .ok (.aload_n 0, 1) := by decide +kernel
theorem d_Joined_spread_87 : decode s_Joined_spread.2.1 87 = .ok (.getfield 29, 3) := by decide +kernel
theorem d_Joined_spread_90 : decode s_Joined_spread.2.1 90 = .ok (.iload_n 2, 1) := by decide +kernel
theorem d_Joined_spread_91 : decode s_Joined_spread.2.1 91 = .ok (.iconst 1, 1) := by decide +kernel
theorem d_Joined_spread_92 : decode s_Joined_spread.2.1 92 = .ok (.iadd, 1) := by decide +kernel
theorem d_Joined_spread_93 : decode s_Joined_spread.2.1 93 = .ok (.iaload, 1) := by decide +kernel
theorem d_Joined_spread_94 : decode s_Joined_spread.2.1 94 = .ok (.if_icmp .ge 22, 3) := by decide +kernel
theorem d_Joined_spread_97 : decode s_Joined_spread.2.1 97 = .ok (.aload_n 1, 1) := by decide +kernel
theorem d_Joined_spread_98 : decode s_Joined_spread.2.1 98 = .ok (.aload_n 0, 1) := by decide +kernel
theorem d_Joined_spread_99 : decode s_Joined_spread.2.1 99 = .ok (.getfield 32, 3) := by decide +kernel
theorem d_Joined_spread_102 : decode s_Joined_spread.2.1 102 = .ok (.iload 4, 2) := by decide +kernel
theorem d_Joined_spread_104 : decode s_Joined_spread.2.1 104 = .ok (.iaload, 1) := by decide +kernel
theorem d_Joined_spread_105 : decode s_Joined_spread.2.1 105 = .ok (.dup2, 1) := by decide +kernel
theorem d_Joined_spread_106 : decode s_Joined_spread.2.1 106 = .ok (.baload, 1) := by decide +kernel
theorem d_Joined_spread_107 : decode s_Joined_spread.2.1 107 = .ok (.iload_n 3, 1) := by decide +kernel
theorem d_Joined_spread_108 : decode s_Joined_spread.2.1 108 = .ok (.ior, 1) := by decide +kernel
theorem d_Joined_spread_109 : decode s_Joined_spread.2.1 109 = .ok (.bastore, 1) := by decide +kernel
theorem d_Joined_spread_110 : decode s_Joined_spread.2.1 110 = .ok (.iinc 4 1, 3) := by decide +kernel
theorem d_Joined_spread_113 : decode s_Joined_spread.2.1 113 = .ok (.goto (-29), 3) := by decide +kernel
theorem d_Joined_spread_116 : decode s_Joined_spread.2.1 116 = .ok (.iinc 2 1, 3) := by decide +kernel
theorem d_Joined_spread_119 : decode s_Joined_spread.2.1 119 = .ok (.goto (-117), 3) := by decide +kernel
theorem d_Joined_spread_122 : decode s_Joined_spread.2.1 122 = .ok (.return_, 1) := by decide +kernel
theorem d_Study_markHoping_0 : decode s_Study_markHoping.2.1 0 = .ok (.aload_n 0, 1) := by decide +kernel
theorem d_Study_markHoping_1 : decode s_Study_markHoping.2.1 1 = .ok (.getfield 38, 3) := by decide +kernel
theorem d_Study_markHoping_4 : decode s_Study_markHoping.2.1 4 = .ok (.invokestatic 73, 3) := by decide +kernel
theorem d_Study_markHoping_7 : decode s_Study_markHoping.2.1 7 = .ok (.iconst 0, 1) := by decide +kernel
theorem d_Study_markHoping_8 : decode s_Study_markHoping.2.1 8 = .ok (.istore_n 2, 1) := by decide +kernel
theorem d_Study_markHoping_9 : decode s_Study_markHoping.2.1 9 = .ok (.iload_n 2, 1) := by decide +kernel
theorem d_Study_markHoping_10 : decode s_Study_markHoping.2.1 10 = .ok (.aload_n 0, 1) := by decide +kernel
theorem d_Study_markHoping_11 : decode s_Study_markHoping.2.1 11 = .ok (.getfield 53, 3) := by decide +kernel
theorem d_Study_markHoping_14 : decode s_Study_markHoping.2.1 14 = .ok (.getfield 103, 3) := by decide +kernel
theorem d_Study_markHoping_17 : decode s_Study_markHoping.2.1 17 = .ok (.iconst 4, 1) := by decide +kernel
theorem d_Study_markHoping_18 : decode s_Study_markHoping.2.1 18 = .ok (.imul, 1) := by decide +kernel
theorem d_Study_markHoping_19 : decode s_Study_markHoping.2.1 19 = .ok (.if_icmp .ge 27, 3) := by decide +kernel
theorem d_Study_markHoping_22 : decode s_Study_markHoping.2.1 22 = .ok (.aload_n 0, 1) := by decide +kernel
theorem d_Study_markHoping_23 : decode s_Study_markHoping.2.1 23 = .ok (.getfield 38, 3) := by decide +kernel
theorem d_Study_markHoping_26 : decode s_Study_markHoping.2.1 26 = .ok (.iload_n 2, 1) := by decide +kernel
theorem d_Study_markHoping_27 : decode s_Study_markHoping.2.1 27 = .ok (.aload_n 0, 1) := by decide +kernel
theorem d_Study_markHoping_28 : decode s_Study_markHoping.2.1 28 = .ok (.iload_n 2, 1) := by decide +kernel
theorem d_Study_markHoping_29 : decode s_Study_markHoping.2.1 29 = .ok (.aload_n 0, 1) := by decide +kernel
theorem d_Study_markHoping_30 : decode s_Study_markHoping.2.1 30 = .ok (.getfield 66, 3) := by decide +kernel
theorem d_Study_markHoping_33 : decode s_Study_markHoping.2.1 33 = .ok (.getfield 118, 3) := by decide +kernel
theorem d_Study_markHoping_36 : decode s_Study_markHoping.2.1 36 = .ok (.invokevirtual 121, 3) := by decide +kernel
theorem d_Study_markHoping_39 : decode s_Study_markHoping.2.1 39 = .ok (.bastore, 1) := by decide +kernel
theorem d_Study_markHoping_40 : decode s_Study_markHoping.2.1 40 = .ok (.iinc 2 1, 3) := by decide +kernel
theorem d_Study_markHoping_43 : decode s_Study_markHoping.2.1 43 = .ok (.goto (-34), 3) := by decide +kernel
theorem d_Study_markHoping_46 : decode s_Study_markHoping.2.1 46 = .ok (.aload_n 0, 1) := by decide +kernel
theorem d_Study_markHoping_47 : decode s_Study_markHoping.2.1 47 = .ok (.getfield 62, 3) := by decide +kernel
theorem d_Study_markHoping_50 : decode s_Study_markHoping.2.1 50 = .ok (.iconst 1, 1) := by decide +kernel
theorem d_Study_markHoping_51 : decode s_Study_markHoping.2.1 51 = .ok (.iload_n 1, 1) := by decide +kernel
theorem d_Study_markHoping_52 : decode s_Study_markHoping.2.1 52 = .ok (.iconst (-1), 1) := by decide +kernel
theorem d_Study_markHoping_53 : decode s_Study_markHoping.2.1 53 = .ok (.invokevirtual 93, 3) := by decide +kernel
theorem d_Study_markHoping_56 : decode s_Study_markHoping.2.1 56 = .ok (.aload_n 0, 1) := by decide +kernel
theorem d_Study_markHoping_57 : decode s_Study_markHoping.2.1 57 = .ok (.getfield 62, 3) := by decide +kernel
theorem d_Study_markHoping_60 : decode s_Study_markHoping.2.1 60 = .ok (.aload_n 0, 1) := by decide +kernel
theorem d_Study_markHoping_61 : decode s_Study_markHoping.2.1 61 = .ok (.getfield 38, 3) := by decide +kernel
theorem d_Study_markHoping_64 : decode s_Study_markHoping.2.1 64 = .ok (.invokevirtual 125, 3) := by decide +kernel
theorem d_Study_markHoping_67 : decode s_Study_markHoping.2.1 67 = .ok (.return_, 1) := by decide +kernel
theorem d_Study_firstLike_0 : decode s_Study_firstLike.2.1 0 = .ok (.iload_n 1, 1) := by decide +kernel
theorem d_Study_firstLike_1 : decode s_Study_firstLike.2.1 1 = .ok (.iload_n 1, 1) := by decide +kernel
theorem d_Study_firstLike_2 : decode s_Study_firstLike.2.1 2 = .ok (.iconst 4, 1) := by decide +kernel
theorem d_Study_firstLike_3 : decode s_Study_firstLike.2.1 3 = .ok (.irem, 1) := by decide +kernel
theorem d_Study_firstLike_4 : decode s_Study_firstLike.2.1 4 = .ok (.isub, 1) := by decide +kernel
theorem d_Study_firstLike_5 : decode s_Study_firstLike.2.1 5 = .ok (.aload_n 0, 1) := by decide +kernel
theorem d_Study_firstLike_6 : decode s_Study_firstLike.2.1 6 = .ok (.getfield 53, 3) := by decide +kernel
theorem d_Study_firstLike_9 : decode s_Study_firstLike.2.1 9 = .ok (.getfield 154, 3) := by decide +kernel
theorem d_Study_firstLike_12 : decode s_Study_firstLike.2.1 12 = .ok (.iload_n 1, 1) := by decide +kernel
theorem d_Study_firstLike_13 : decode s_Study_firstLike.2.1 13 = .ok (.iaload, 1) := by decide +kernel
theorem d_Study_firstLike_14 : decode s_Study_firstLike.2.1 14 = .ok (.iadd, 1) := by decide +kernel
theorem d_Study_firstLike_15 : decode s_Study_firstLike.2.1 15 = .ok (.ireturn, 1) := by decide +kernel
theorem d_Study_tellWanting_0 : decode s_Study_tellWanting.2.1 0 = .ok (.iconst 0, 1) := by decide +kernel
theorem d_Study_tellWanting_1 : decode s_Study_tellWanting.2.1 1 = .ok (.istore_n 3, 1) := by decide +kernel
theorem d_Study_tellWanting_2 : decode s_Study_tellWanting.2.1 2 = .ok (.iload_n 3, 1) := by decide +kernel
theorem d_Study_tellWanting_3 : decode s_Study_tellWanting.2.1 3 = .ok (.aload_n 0, 1) := by decide +kernel
theorem d_Study_tellWanting_4 : decode s_Study_tellWanting.2.1 4 = .ok (.getfield 53, 3) := by decide +kernel
theorem d_Study_tellWanting_7 : decode s_Study_tellWanting.2.1 7 = .ok (.getfield 103, 3) := by decide +kernel
theorem d_Study_tellWanting_10 : decode s_Study_tellWanting.2.1 10 = .ok (.iconst 4, 1) := by decide +kernel
theorem d_Study_tellWanting_11 : decode s_Study_tellWanting.2.1 11 = .ok (.imul, 1) := by decide +kernel
theorem d_Study_tellWanting_12 : decode s_Study_tellWanting.2.1 12 = .ok (.if_icmp .ge 46, 3) := by decide +kernel
theorem d_Study_tellWanting_15 : decode s_Study_tellWanting.2.1 15 = .ok (.aload_n 0, 1) := by decide +kernel
theorem d_Study_tellWanting_16 : decode s_Study_tellWanting.2.1 16 = .ok (.iload_n 3, 1) := by decide +kernel
theorem d_Study_tellWanting_17 : decode s_Study_tellWanting.2.1 17 = .ok (.aload_n 0, 1) := by decide +kernel
theorem d_Study_tellWanting_18 : decode s_Study_tellWanting.2.1 18 = .ok (.getfield 66, 3) := by decide +kernel
theorem d_Study_tellWanting_21 : decode s_Study_tellWanting.2.1 21 = .ok (.getfield 77, 3) := by decide +kernel
theorem d_Study_tellWanting_24 : decode s_Study_tellWanting.2.1 24 = .ok (.invokevirtual 121, 3) := by decide +kernel
theorem d_Study_tellWanting_27 : decode s_Study_tellWanting.2.1 27 = .ok (.ifCond .eq 25, 3) := by decide +kernel
theorem d_Study_tellWanting_30 : decode s_Study_tellWanting.2.1 30 = .ok (.aload_n 1, 1) := by decide +kernel
theorem d_Study_tellWanting_31 : decode s_Study_tellWanting.2.1 31 = .ok (.iload_n 3, 1) := by decide +kernel
theorem d_Study_tellWanting_32 : decode s_Study_tellWanting.2.1 32 = .ok (.aload_n 0, 1) := by decide +kernel
theorem d_Study_tellWanting_33 : decode s_Study_tellWanting.2.1 33 = .ok (.getfield 38, 3) := by decide +kernel
theorem d_Study_tellWanting_36 : decode s_Study_tellWanting.2.1 36 = .ok (.aload_n 0, 1) := by decide +kernel
theorem d_Study_tellWanting_37 : decode s_Study_tellWanting.2.1 37 = .ok (.iload_n 3, 1) := by decide +kernel
theorem d_Study_tellWanting_38 : decode s_Study_tellWanting.2.1 38 = .ok (.invokevirtual 141, 3) := by decide +kernel
theorem d_Study_tellWanting_41 : decode s_Study_tellWanting.2.1 41 = .ok (.baload, 1) := by decide +kernel
theorem d_Study_tellWanting_42 : decode s_Study_tellWanting.2.1 42 = .ok (.iload_n 2, 1) := by decide +kernel
theorem d_Study_tellWanting_43 : decode s_Study_tellWanting.2.1 43 = .ok (.if_icmp .ne 7, 3) := by decide +kernel
theorem d_Study_tellWanting_46 : decode s_Study_tellWanting.2.1 46 = .ok (.iconst 1, 1) := by decide +kernel
theorem d_Study_tellWanting_47 : decode s_Study_tellWanting.2.1 47 = .ok (.goto 4, 3) := by decide +kernel
theorem d_Study_tellWanting_50 : decode s_Study_tellWanting.2.1 50 = .ok (.iconst 0, 1) := by decide +kernel
theorem d_Study_tellWanting_51 : decode s_Study_tellWanting.2.1 51 = .ok (.bastore, 1) := by decide +kernel
theorem d_Study_tellWanting_52 : decode s_Study_tellWanting.2.1 52 = .ok (.iinc 3 1, 3) := by decide +kernel
theorem d_Study_tellWanting_55 : decode s_Study_tellWanting.2.1 55 = .ok (.goto (-53), 3) := by decide +kernel
theorem d_Study_tellWanting_58 : decode s_Study_tellWanting.2.1 58 = .ok (.return_, 1) := by decide +kernel
theorem d_Atlas_mover_0 : decode s_Atlas_mover.2.1 0 = .ok (.aload_n 0, 1) := by decide +kernel
theorem d_Atlas_mover_1 : decode s_Atlas_mover.2.1 1 = .ok (.getfield 56, 3) := by decide +kernel
theorem d_Atlas_mover_4 : decode s_Atlas_mover.2.1 4 = .ok (.iload_n 1, 1) := by decide +kernel
theorem d_Atlas_mover_5 : decode s_Atlas_mover.2.1 5 = .ok (.iaload, 1) := by decide +kernel
theorem d_Atlas_mover_6 : decode s_Atlas_mover.2.1 6 = .ok (.bipush 8, 2) := by decide +kernel
theorem d_Atlas_mover_8 : decode s_Atlas_mover.2.1 8 = .ok (.ishr, 1) := by decide +kernel
theorem d_Atlas_mover_9 : decode s_Atlas_mover.2.1 9 = .ok (.iconst 3, 1) := by decide +kernel
theorem d_Atlas_mover_10 : decode s_Atlas_mover.2.1 10 = .ok (.iand, 1) := by decide +kernel
theorem d_Atlas_mover_11 : decode s_Atlas_mover.2.1 11 = .ok (.ireturn, 1) := by decide +kernel
theorem d_Joined_isRing_0 : decode s_Joined_isRing.2.1 0 = .ok (.iconst 0, 1) := by decide +kernel
theorem d_Joined_isRing_1 : decode s_Joined_isRing.2.1 1 = .ok (.istore_n 3, 1) := by decide +kernel
theorem d_Joined_isRing_2 : decode s_Joined_isRing.2.1 2 = .ok (.iconst 0, 1) := by decide +kernel
theorem d_Joined_isRing_3 : decode s_Joined_isRing.2.1 3 = .ok (.istore 4, 2) := by decide +kernel
theorem d_Joined_isRing_5 : decode s_Joined_isRing.2.1 5 = .ok (.iconst 0, 1) := by decide +kernel
theorem d_Joined_isRing_6 : decode s_Joined_isRing.2.1 6 = .ok (.istore 5, 2) := by decide +kernel
theorem d_Joined_isRing_8 : decode s_Joined_isRing.2.1 8 = .ok (.aload_n 0, 1) := by decide +kernel
theorem d_Joined_isRing_9 : decode s_Joined_isRing.2.1 9 = .ok (.getfield 29, 3) := by decide +kernel
theorem d_Joined_isRing_12 : decode s_Joined_isRing.2.1 12 = .ok (.iload_n 1, 1) := by decide +kernel
theorem d_Joined_isRing_13 : decode s_Joined_isRing.2.1 13 = .ok (.iaload, 1) := by decide +kernel
theorem d_Joined_isRing_14 : decode s_Joined_isRing.2.1 14 = .ok (.istore 6, 2) := by decide +kernel
theorem d_Joined_isRing_16 : decode s_Joined_isRing.2.1 16 = .ok (.iload 6, 2) := by decide +kernel
theorem d_Joined_isRing_18 : decode s_Joined_isRing.2.1 18 = .ok (.aload_n 0, 1) := by decide +kernel
theorem d_Joined_isRing_19 : decode s_Joined_isRing.2.1 19 = .ok (.getfield 29, 3) := by decide +kernel
theorem d_Joined_isRing_22 : decode s_Joined_isRing.2.1 22 = .ok (.iload_n 1, 1) := by decide +kernel
theorem d_Joined_isRing_23 : decode s_Joined_isRing.2.1 23 = .ok (.iconst 1, 1) := by decide +kernel
theorem d_Joined_isRing_24 : decode s_Joined_isRing.2.1 24 = .ok (.iadd, 1) := by decide +kernel
theorem d_Joined_isRing_25 : decode s_Joined_isRing.2.1 25 = .ok (.iaload, 1) := by decide +kernel
theorem d_Joined_isRing_26 : decode s_Joined_isRing.2.1 26 = .ok (.if_icmp .ge 175, 3) := by decide +kernel
theorem d_Joined_isRing_29 : decode s_Joined_isRing.2.1 29 = .ok (.aload_n 0, 1) := by decide +kernel
theorem d_Joined_isRing_30 : decode s_Joined_isRing.2.1 30 = .ok (.getfield 32, 3) := by decide +kernel
theorem d_Joined_isRing_33 : decode s_Joined_isRing.2.1 33 = .ok (.iload 6, 2) := by decide +kernel
theorem d_Joined_isRing_35 : decode s_Joined_isRing.2.1 35 = .ok (.iaload, 1) := by decide +kernel
theorem d_Joined_isRing_36 : decode s_Joined_isRing.2.1 36 = .ok (.istore 7, 2) := by decide +kernel
theorem d_Joined_isRing_38 : decode s_Joined_isRing.2.1 38 = .ok (.iload 7, 2) := by decide +kernel
theorem d_Joined_isRing_40 : decode s_Joined_isRing.2.1 40 = .ok (.iconst 4, 1) := by decide +kernel
theorem d_Joined_isRing_41 : decode s_Joined_isRing.2.1 41 = .ok (.idiv, 1) := by decide +kernel
theorem d_Joined_isRing_42 : decode s_Joined_isRing.2.1 42 = .ok (.istore 8, 2) := by decide +kernel
theorem d_Joined_isRing_44 : decode s_Joined_isRing.2.1 44 = .ok (.aload_n 0, 1) := by decide +kernel
theorem d_Joined_isRing_45 : decode s_Joined_isRing.2.1 45 = .ok (.getfield 59, 3) := by decide +kernel
theorem d_Joined_isRing_48 : decode s_Joined_isRing.2.1 48 = .ok (.getfield 109, 3) := by decide +kernel
theorem d_Joined_isRing_51 : decode s_Joined_isRing.2.1 51 = .ok (.iload 8, 2) := by decide +kernel
theorem d_Joined_isRing_53 : decode s_Joined_isRing.2.1 53 = .ok (.iaload, 1) := by decide +kernel
theorem d_Joined_isRing_54 : decode s_Joined_isRing.2.1 54 = .ok (.istore 9, 2) := by decide +kernel
theorem d_Joined_isRing_56 : decode s_Joined_isRing.2.1 56 = .ok (.iload 9, 2) := by decide +kernel
theorem d_Joined_isRing_58 : decode s_Joined_isRing.2.1 58 = .ok (.aload_n 0, 1) := by decide +kernel
theorem d_Joined_isRing_59 : decode s_Joined_isRing.2.1 59 = .ok (.getfield 59, 3) := by decide +kernel
theorem d_Joined_isRing_62 : decode s_Joined_isRing.2.1 62 = .ok (.getfield 109, 3) := by decide +kernel
theorem d_Joined_isRing_65 : decode s_Joined_isRing.2.1 65 = .ok (.iload 8, 2) := by decide +kernel
theorem d_Joined_isRing_67 : decode s_Joined_isRing.2.1 67 = .ok (.iconst 1, 1) := by decide +kernel
theorem d_Joined_isRing_68 : decode s_Joined_isRing.2.1 68 = .ok (.iadd, 1) := by decide +kernel
theorem d_Joined_isRing_69 : decode s_Joined_isRing.2.1 69 = .ok (.iaload, 1) := by decide +kernel
theorem d_Joined_isRing_70 : decode s_Joined_isRing.2.1 70 = .ok (.if_icmp .ge 125, 3) := by decide +kernel
theorem d_Joined_isRing_73 : decode s_Joined_isRing.2.1 73 = .ok (.aload_n 0, 1) := by decide +kernel
theorem d_Joined_isRing_74 : decode s_Joined_isRing.2.1 74 = .ok (.iload 7, 2) := by decide +kernel
theorem d_Joined_isRing_76 : decode s_Joined_isRing.2.1 76 = .ok (.iload 9, 2) := by decide +kernel
theorem d_Joined_isRing_78 : decode s_Joined_isRing.2.1 78 = .ok (.invokevirtual 112, 3) := by decide +kernel
theorem d_Joined_isRing_81 : decode s_Joined_isRing.2.1 81 = .ok (.istore 10, 2) := by decide +kernel
theorem d_Joined_isRing_83 : decode s_Joined_isRing.2.1 83 = .ok (.iload 10, 2) := by decide +kernel
theorem d_Joined_isRing_85 : decode s_Joined_isRing.2.1 85 = .ok (.iconst (-1), 1) := by decide +kernel
theorem d_Joined_isRing_86 : decode s_Joined_isRing.2.1 86 = .ok (.if_icmp .eq 18, 3) := by decide +kernel
theorem d_Joined_isRing_89 : decode s_Joined_isRing.2.1 89 = .ok (.aload_n 0, 1) := by decide +kernel
theorem d_Joined_isRing_90 : decode s_Joined_isRing.2.1 90 = .ok (.getfield 25, 3) := by decide +kernel
theorem d_Joined_isRing_93 : decode s_Joined_isRing.2.1 93 = .ok (.iload 10, 2) := by decide +kernel
theorem d_Joined_isRing_95 : decode s_Joined_isRing.2.1 95 = .ok (.iaload, 1) := by decide +kernel
theorem d_Joined_isRing_96 : decode s_Joined_isRing.2.1 96 = .ok (.iload_n 1, 1) := by decide +kernel
theorem d_Joined_isRing_97 : decode s_Joined_isRing.2.1 97 = .ok (.if_icmp .ne 7, 3) := by decide +kernel
theorem d_Joined_isRing_100 : decode s_Joined_isRing.2.1 100 = .ok (.iconst 1, 1) := by decide +kernel
theorem d_Joined_isRing_101 : decode s_Joined_isRing.2.1 101 = .ok (.goto 4, 3) := by decide +kernel
theorem d_Joined_isRing_104 : decode s_Joined_isRing.2.1 104 = .ok (.iconst 0, 1) := by decide +kernel
theorem d_Joined_isRing_105 : decode s_Joined_isRing.2.1 105 = .ok (.istore 11, 2) := by decide +kernel
theorem d_Joined_isRing_107 : decode s_Joined_isRing.2.1 107 = .ok (.iload_n 3, 1) := by decide +kernel
theorem d_Joined_isRing_108 : decode s_Joined_isRing.2.1 108 = .ok (.iload 11, 2) := by decide +kernel
theorem d_Joined_isRing_110 : decode s_Joined_isRing.2.1 110 = .ok (.ior, 1) := by decide +kernel
theorem d_Joined_isRing_111 : decode s_Joined_isRing.2.1 111 = .ok (.istore_n 3, 1) := by decide +kernel
theorem d_Joined_isRing_112 : decode s_Joined_isRing.2.1 112 = .ok (.aload_n 0, 1) := by decide +kernel
theorem d_Joined_isRing_113 : decode s_Joined_isRing.2.1 113 = .ok (.getfield 59, 3) := by decide +kernel
theorem d_Joined_isRing_116 : decode s_Joined_isRing.2.1 116 = .ok (.iload 9, 2) := by decide +kernel
theorem d_Joined_isRing_118 : decode s_Joined_isRing.2.1 118 = .ok (.invokevirtual 134, 3) := by decide +kernel
theorem d_Joined_isRing_121 : decode s_Joined_isRing.2.1 121 = .ok (.iload 7, 2) := by decide +kernel
theorem d_Joined_isRing_123 : decode s_Joined_isRing.2.1 123 = .ok (.iconst 4, 1) := by decide +kernel
theorem d_Joined_isRing_124 : decode s_Joined_isRing.2.1 124 = .ok (.irem, 1) := by decide +kernel
theorem d_Joined_isRing_125 : decode s_Joined_isRing.2.1 125 = .ok (.if_icmp .ne 64, 3) := by decide +kernel
theorem d_Joined_isRing_128 : decode s_Joined_isRing.2.1 128 = .ok (.aload_n 2, 1) := by decide +kernel
theorem d_Joined_isRing_129 : decode s_Joined_isRing.2.1 129 = .ok (.getfield 137, 3) := by decide +kernel
theorem d_Joined_isRing_132 : decode s_Joined_isRing.2.1 132 = .ok (.aload_n 0, 1) := by decide +kernel
theorem d_Joined_isRing_133 : decode s_Joined_isRing.2.1 133 = .ok (.getfield 59, 3) := by decide +kernel
theorem d_Joined_isRing_136 : decode s_Joined_isRing.2.1 136 = .ok (.iload 9, 2) := by decide +kernel
theorem d_Joined_isRing_138 : decode s_Joined_isRing.2.1 138 = .ok (.invokevirtual 94, 3) := by decide +kernel
theorem d_Joined_isRing_141 : decode s_Joined_isRing.2.1 141 = .ok (.aaload, 1) := by decide +kernel
theorem d_Joined_isRing_142 : decode s_Joined_isRing.2.1 142 = .ok (.getfield 143, 3) := by decide +kernel
theorem d_Joined_isRing_145 : decode s_Joined_isRing.2.1 145 = .ok (.ifCond .ne 44, 3) := by decide +kernel
theorem d_Joined_isRing_148 : decode s_Joined_isRing.2.1 148 = .ok (.iload 4, 2) := by decide +kernel
theorem d_Joined_isRing_150 : decode s_Joined_isRing.2.1 150 = .ok (.iconst 1, 1) := by decide +kernel
theorem d_Joined_isRing_151 : decode s_Joined_isRing.2.1 151 = .ok (.aload_n 0, 1) := by decide +kernel
theorem d_Joined_isRing_152 : decode s_Joined_isRing.2.1 152 = .ok (.getfield 59, 3) := by decide +kernel
theorem d_Joined_isRing_155 : decode s_Joined_isRing.2.1 155 = .ok (.iload 9, 2) := by decide +kernel
theorem d_Joined_isRing_157 : decode s_Joined_isRing.2.1 157 = .ok (.invokevirtual 94, 3) := by decide +kernel
theorem d_Joined_isRing_160 : decode s_Joined_isRing.2.1 160 = .ok (.ishl, 1) := by decide +kernel
theorem d_Joined_isRing_161 : decode s_Joined_isRing.2.1 161 = .ok (.ior, 1) := by decide +kernel
theorem d_Joined_isRing_162 : decode s_Joined_isRing.2.1 162 = .ok (.istore 4, 2) := by decide +kernel
theorem d_Joined_isRing_164 : decode s_Joined_isRing.2.1 164 = .ok (.iload 5, 2) := by decide +kernel
theorem d_Joined_isRing_166 : decode s_Joined_isRing.2.1 166 = .ok (.iload 11, 2) := by decide +kernel
theorem d_Joined_isRing_168 : decode s_Joined_isRing.2.1 168 = .ok (.ifCond .eq 17, 3) := by decide +kernel
theorem d_Joined_isRing_171 : decode s_Joined_isRing.2.1 171 = .ok (.iconst 1, 1) := by decide +kernel
theorem d_Joined_isRing_172 : decode s_Joined_isRing.2.1 172 = .ok (.aload_n 0, 1) := by decide +kernel
theorem d_Joined_isRing_173 : decode s_Joined_isRing.2.1 173 = .ok (.getfield 59, 3) := by decide +kernel
theorem d_Joined_isRing_176 : decode s_Joined_isRing.2.1 176 = .ok (.iload 9, 2) := by decide +kernel
theorem d_Joined_isRing_178 : decode s_Joined_isRing.2.1 178 = .ok (.invokevirtual 94, 3) := by decide +kernel
theorem d_Joined_isRing_181 : decode s_Joined_isRing.2.1 181 = .ok (.ishl, 1) := by decide +kernel
theorem d_Joined_isRing_182 : decode s_Joined_isRing.2.1 182 = .ok (.goto 4, 3) := by decide +kernel
theorem d_Joined_isRing_185 : decode s_Joined_isRing.2.1 185 = .ok (.iconst 0, 1) := by decide +kernel
theorem d_Joined_isRing_186 : decode s_Joined_isRing.2.1 186 = .ok (.ior, 1) := by decide +kernel
theorem d_Joined_isRing_187 : decode s_Joined_isRing.2.1 187 = .ok (.istore 5, 2) := by decide +kernel
theorem d_Joined_isRing_189 : decode s_Joined_isRing.2.1 189 = .ok (.iinc 9 1, 3) := by decide +kernel
theorem d_Joined_isRing_192 : decode s_Joined_isRing.2.1 192 = .ok (.goto (-136), 3) := by decide +kernel
theorem d_Joined_isRing_195 : decode s_Joined_isRing.2.1 195 = .ok (.iinc 6 1, 3) := by decide +kernel
theorem d_Joined_isRing_198 : decode s_Joined_isRing.2.1 198 = .ok (.goto (-182), 3) := by decide +kernel
theorem d_Joined_isRing_201 : decode s_Joined_isRing.2.1 201 = .ok (.iload_n 3, 1) := by decide +kernel
theorem d_Joined_isRing_202 : decode s_Joined_isRing.2.1 202 = .ok (.ifCond .eq 14, 3) := by decide +kernel
theorem d_Joined_isRing_205 : decode s_Joined_isRing.2.1 205 = .ok (.iload 4, 2) := by decide +kernel
theorem d_Joined_isRing_207 : decode s_Joined_isRing.2.1 207 = .ok (.iload 5, 2) := by decide +kernel
theorem d_Joined_isRing_209 : decode s_Joined_isRing.2.1 209 = .ok (.if_icmp .ne 7, 3) := by decide +kernel
theorem d_Joined_isRing_212 : decode s_Joined_isRing.2.1 212 = .ok (.iconst 1, 1) := by decide +kernel
theorem d_Joined_isRing_213 : decode s_Joined_isRing.2.1 213 = .ok (.goto 4, 3) := by decide +kernel
theorem d_Joined_isRing_216 : decode s_Joined_isRing.2.1 216 = .ok (.iconst 0, 1) := by decide +kernel
theorem d_Joined_isRing_217 : decode s_Joined_isRing.2.1 217 = .ok (.ireturn, 1) := by decide +kernel
theorem d_Study_markRings_0 : decode s_Study_markRings.2.1 0 = .ok (.aload_n 0, 1) := by decide +kernel
theorem d_Study_markRings_1 : decode s_Study_markRings.2.1 1 = .ok (.getfield 38, 3) := by decide +kernel
theorem d_Study_markRings_4 : decode s_Study_markRings.2.1 4 = .ok (.invokestatic 73, 3) := by decide +kernel
theorem d_Study_markRings_7 : decode s_Study_markRings.2.1 7 = .ok (.aload_n 0, 1) := by decide +kernel
theorem d_Study_markRings_8 : decode s_Study_markRings.2.1 8 = .ok (.getfield 62, 3) := by decide +kernel
theorem d_Study_markRings_11 : decode s_Study_markRings.2.1 11 = .ok (.iconst 1, 1) := by decide +kernel
theorem d_Study_markRings_12 : decode s_Study_markRings.2.1 12 = .ok (.iconst (-1), 1) := by decide +kernel
theorem d_Study_markRings_13 : decode s_Study_markRings.2.1 13 = .ok (.aload_n 0, 1) := by decide +kernel
theorem d_Study_markRings_14 : decode s_Study_markRings.2.1 14 = .ok (.getfield 66, 3) := by decide +kernel
theorem d_Study_markRings_17 : decode s_Study_markRings.2.1 17 = .ok (.getfield 118, 3) := by decide +kernel
theorem d_Study_markRings_20 : decode s_Study_markRings.2.1 20 = .ok (.invokevirtual 93, 3) := by decide +kernel
theorem d_Study_markRings_23 : decode s_Study_markRings.2.1 23 = .ok (.iconst 0, 1) := by decide +kernel
theorem d_Study_markRings_24 : decode s_Study_markRings.2.1 24 = .ok (.istore_n 1, 1) := by decide +kernel
theorem d_Study_markRings_25 : decode s_Study_markRings.2.1 25 = .ok (.iload_n 1, 1) := by decide +kernel
theorem d_Study_markRings_26 : decode s_Study_markRings.2.1 26 = .ok (.aload_n 0, 1) := by decide +kernel
theorem d_Study_markRings_27 : decode s_Study_markRings.2.1 27 = .ok (.getfield 62, 3) := by decide +kernel
theorem d_Study_markRings_30 : decode s_Study_markRings.2.1 30 = .ok (.getfield 128, 3) := by decide +kernel
theorem d_Study_markRings_33 : decode s_Study_markRings.2.1 33 = .ok (.if_icmp .ge 70, 3) := by decide +kernel
theorem d_Study_markRings_36 : decode s_Study_markRings.2.1 36 = .ok (.aload_n 0, 1) := by decide +kernel
theorem d_Study_markRings_37 : decode s_Study_markRings.2.1 37 = .ok (.getfield 62, 3) := by decide +kernel
theorem d_Study_markRings_40 : decode s_Study_markRings.2.1 40 = .ok (.iload_n 1, 1) := by decide +kernel
theorem d_Study_markRings_41 : decode s_Study_markRings.2.1 41 = .ok (.aload_n 0, 1) := by decide +kernel
theorem d_Study_markRings_42 : decode s_Study_markRings.2.1 42 = .ok (.getfield 66, 3) := by decide +kernel
theorem d_Study_markRings_45 : decode s_Study_markRings.2.1 45 = .ok (.invokevirtual 131, 3) := by decide +kernel
theorem d_Study_markRings_48 : decode s_Study_markRings.2.1 48 = .ok (.ifCond .eq 49, 3) := by decide +kernel
theorem d_Study_markRings_51 : decode s_Study_markRings.2.1 51 = .ok (.aload_n 0, 1) := by decide +kernel
theorem d_Study_markRings_52 : decode s_Study_markRings.2.1 52 = .ok (.getfield 62, 3) := by decide +kernel
theorem d_Study_markRings_55 : decode s_Study_markRings.2.1 55 = .ok (.getfield 135, 3) := by decide +kernel
theorem d_Study_markRings_58 : decode s_Study_markRings.2.1 58 = .ok (.iload_n 1, 1) := by decide +kernel
theorem d_Study_markRings_59 : decode s_Study_markRings.2.1 59 = .ok (.iaload, 1) := by decide +kernel
theorem d_Study_markRings_60 : decode s_Study_markRings.2.1 60 = .ok (.istore_n 2, 1) := by decide +kernel
theorem d_Study_markRings_61 : decode s_Study_markRings.2.1 61 = .ok (.iload_n 2, 1) := by decide +kernel
theorem d_Study_markRings_62 : decode s_Study_markRings.2.1 62 = .ok (.aload_n 0, 1) := by decide +kernel
theorem d_Study_markRings_63 : decode s_Study_markRings.2.1 63 = .ok (.getfield 62, 3) := by decide +kernel
theorem d_Study_markRings_66 : decode s_Study_markRings.2.1 66 = .ok (.getfield 135, 3) := by decide +kernel
theorem d_Study_markRings_69 : decode s_Study_markRings.2.1 69 = .ok (.iload_n 1, 1) := by decide +kernel
theorem d_Study_markRings_70 : decode s_Study_markRings.2.1 70 = .ok (.iconst 1, 1) := by decide +kernel
theorem d_Study_markRings_71 : decode s_Study_markRings.2.1 71 = .ok (.iadd, 1) := by decide +kernel
theorem d_Study_markRings_72 : decode s_Study_markRings.2.1 72 = .ok (.iaload, 1) := by decide +kernel
theorem d_Study_markRings_73 : decode s_Study_markRings.2.1 73 = .ok (.if_icmp .ge 24, 3) := by decide +kernel
theorem d_Study_markRings_76 : decode s_Study_markRings.2.1 76 = .ok (.aload_n 0, 1) := by decide +kernel
theorem d_Study_markRings_77 : decode s_Study_markRings.2.1 77 = .ok (.getfield 38, 3) := by decide +kernel
theorem d_Study_markRings_80 : decode s_Study_markRings.2.1 80 = .ok (.aload_n 0, 1) := by decide +kernel
theorem d_Study_markRings_81 : decode s_Study_markRings.2.1 81 = .ok (.getfield 62, 3) := by decide +kernel
theorem d_Study_markRings_84 : decode s_Study_markRings.2.1 84 = .ok (.getfield 138, 3) := by decide +kernel
theorem d_Study_markRings_87 : decode s_Study_markRings.2.1 87 = .ok (.iload_n 2, 1) := by decide +kernel
theorem d_Study_markRings_88 : decode s_Study_markRings.2.1 88 = .ok (.iaload, 1) := by decide +kernel
theorem d_Study_markRings_89 : decode s_Study_markRings.2.1 89 = .ok (.iconst 1, 1) := by decide +kernel
theorem d_Study_markRings_90 : decode s_Study_markRings.2.1 90 = .ok (.bastore, 1) := by decide +kernel
theorem d_Study_markRings_91 : decode s_Study_markRings.2.1 91 = .ok (.iinc 2 1, 3) := by decide +kernel
theorem d_Study_markRings_94 : decode s_Study_markRings.2.1 94 = .ok (.goto (-33), 3) := by decide +kernel
theorem d_Study_markRings_97 : decode s_Study_markRings.2.1 97 = .ok (.iinc 1 1, 3) := by decide +kernel
theorem d_Study_markRings_100 : decode s_Study_markRings.2.1 100 = .ok (.goto (-75), 3) := by decide +kernel
theorem d_Study_markRings_103 : decode s_Study_markRings.2.1 103 = .ok (.aload_n 0, 1) := by decide +kernel
theorem d_Study_markRings_104 : decode s_Study_markRings.2.1 104 = .ok (.getfield 62, 3) := by decide +kernel
theorem d_Study_markRings_107 : decode s_Study_markRings.2.1 107 = .ok (.aload_n 0, 1) := by decide +kernel
theorem d_Study_markRings_108 : decode s_Study_markRings.2.1 108 = .ok (.getfield 38, 3) := by decide +kernel
theorem d_Study_markRings_111 : decode s_Study_markRings.2.1 111 = .ok (.invokevirtual 125, 3) := by decide +kernel
theorem d_Study_markRings_114 : decode s_Study_markRings.2.1 114 = .ok (.return_, 1) := by decide +kernel
theorem d_Study_begin_0 : decode s_Study_begin.2.1 0 = .ok (.aload_n 0, 1) := by decide +kernel
theorem d_Study_begin_1 : decode s_Study_begin.2.1 1 = .ok (.aload_n 1, 1) := by decide +kernel
theorem d_Study_begin_2 : decode s_Study_begin.2.1 2 = .ok (.putfield 66, 3) := by decide +kernel
theorem d_Study_begin_5 : decode s_Study_begin.2.1 5 = .ok (.aload_n 0, 1) := by decide +kernel
theorem d_Study_begin_6 : decode s_Study_begin.2.1 6 = .ok (.invokevirtual 70, 3) := by decide +kernel
theorem d_Study_begin_9 : decode s_Study_begin.2.1 9 = .ok (.aload_n 0, 1) := by decide +kernel
theorem d_Study_begin_10 : decode s_Study_begin.2.1 10 = .ok (.getfield 32, 3) := by decide +kernel
theorem d_Study_begin_13 : decode s_Study_begin.2.1 13 = .ok (.invokestatic 73, 3) := by decide +kernel
theorem d_Study_begin_16 : decode s_Study_begin.2.1 16 = .ok (.aload_n 0, 1) := by decide +kernel
theorem d_Study_begin_17 : decode s_Study_begin.2.1 17 = .ok (.getfield 35, 3) := by decide +kernel
theorem d_Study_begin_20 : decode s_Study_begin.2.1 20 = .ok (.invokestatic 73, 3) := by decide +kernel
theorem d_Study_begin_23 : decode s_Study_begin.2.1 23 = .ok (.aload_n 0, 1) := by decide +kernel
theorem d_Study_begin_24 : decode s_Study_begin.2.1 24 = .ok (.getfield 66, 3) := by decide +kernel
theorem d_Study_begin_27 : decode s_Study_begin.2.1 27 = .ok (.getfield 77, 3) := by decide +kernel
theorem d_Study_begin_30 : decode s_Study_begin.2.1 30 = .ok (.iconst (-1), 1) := by decide +kernel
theorem d_Study_begin_31 : decode s_Study_begin.2.1 31 = .ok (.if_icmp .eq 30, 3) := by decide +kernel
theorem d_Study_begin_34 : decode s_Study_begin.2.1 34 = .ok (.aload_n 0, 1) := by decide +kernel
theorem d_Study_begin_35 : decode s_Study_begin.2.1 35 = .ok (.iconst (-1), 1) := by decide +kernel
theorem d_Study_begin_36 : decode s_Study_begin.2.1 36 = .ok (.invokevirtual 82, 3) := by decide +kernel
theorem d_Study_begin_39 : decode s_Study_begin.2.1 39 = .ok (.aload_n 0, 1) := by decide +kernel
theorem d_Study_begin_40 : decode s_Study_begin.2.1 40 = .ok (.aload_n 0, 1) := by decide +kernel
theorem d_Study_begin_41 : decode s_Study_begin.2.1 41 = .ok (.getfield 32, 3) := by decide +kernel
theorem d_Study_begin_44 : decode s_Study_begin.2.1 44 = .ok (.iconst 0, 1) := by decide +kernel
theorem d_Study_begin_45 : decode s_Study_begin.2.1 45 = .ok (.invokevirtual 86, 3) := by decide +kernel
theorem d_Study_begin_48 : decode s_Study_begin.2.1 48 = .ok (.aload_n 0, 1) := by decide +kernel
theorem d_Study_begin_49 : decode s_Study_begin.2.1 49 = .ok (.invokevirtual 90, 3) := by decide +kernel
theorem d_Study_begin_52 : decode s_Study_begin.2.1 52 = .ok (.aload_n 0, 1) := by decide +kernel
theorem d_Study_begin_53 : decode s_Study_begin.2.1 53 = .ok (.aload_n 0, 1) := by decide +kernel
theorem d_Study_begin_54 : decode s_Study_begin.2.1 54 = .ok (.getfield 35, 3) := by decide +kernel
theorem d_Study_begin_57 : decode s_Study_begin.2.1 57 = .ok (.iconst 1, 1) := by decide +kernel
theorem d_Study_begin_58 : decode s_Study_begin.2.1 58 = .ok (.invokevirtual 86, 3) := by decide +kernel
theorem d_Study_begin_61 : decode s_Study_begin.2.1 61 = .ok (.iconst 0, 1) := by decide +kernel
theorem d_Study_begin_62 : decode s_Study_begin.2.1 62 = .ok (.istore_n 2, 1) := by decide +kernel
theorem d_Study_begin_63 : decode s_Study_begin.2.1 63 = .ok (.iload_n 2, 1) := by decide +kernel
theorem d_Study_begin_64 : decode s_Study_begin.2.1 64 = .ok (.bipush 16, 2) := by decide +kernel
theorem d_Study_begin_66 : decode s_Study_begin.2.1 66 = .ok (.if_icmp .ge 16, 3) := by decide +kernel
theorem d_Study_begin_69 : decode s_Study_begin.2.1 69 = .ok (.aload_n 0, 1) := by decide +kernel
theorem d_Study_begin_70 : decode s_Study_begin.2.1 70 = .ok (.getfield 47, 3) := by decide +kernel
theorem d_Study_begin_73 : decode s_Study_begin.2.1 73 = .ok (.iload_n 2, 1) := by decide +kernel
theorem d_Study_begin_74 : decode s_Study_begin.2.1 74 = .ok (.iconst 0, 1) := by decide +kernel
theorem d_Study_begin_75 : decode s_Study_begin.2.1 75 = .ok (.bastore, 1) := by decide +kernel
theorem d_Study_begin_76 : decode s_Study_begin.2.1 76 = .ok (.iinc 2 1, 3) := by decide +kernel
theorem d_Study_begin_79 : decode s_Study_begin.2.1 79 = .ok (.goto (-16), 3) := by decide +kernel
theorem d_Study_begin_82 : decode s_Study_begin.2.1 82 = .ok (.return_, 1) := by decide +kernel
theorem d_Sight_forget_0 : decode s_Sight_forget.2.1 0 = .ok (.aload_n 0, 1) := by decide +kernel
theorem d_Sight_forget_1 : decode s_Sight_forget.2.1 1 = .ok (.iconst 0, 1) := by decide +kernel
theorem d_Sight_forget_2 : decode s_Sight_forget.2.1 2 = .ok (.putfield 18, 3) := by decide +kernel
theorem d_Sight_forget_5 : decode s_Sight_forget.2.1 5 = .ok (.aload_n 0, 1) := by decide +kernel
theorem d_Sight_forget_6 : decode s_Sight_forget.2.1 6 = .ok (.iconst 0, 1) := by decide +kernel
theorem d_Sight_forget_7 : decode s_Sight_forget.2.1 7 = .ok (.putfield 22, 3) := by decide +kernel
theorem d_Sight_forget_10 : decode s_Sight_forget.2.1 10 = .ok (.aload_n 0, 1) := by decide +kernel
theorem d_Sight_forget_11 : decode s_Sight_forget.2.1 11 = .ok (.iconst (-1), 1) := by decide +kernel
theorem d_Sight_forget_12 : decode s_Sight_forget.2.1 12 = .ok (.putfield 38, 3) := by decide +kernel
theorem d_Sight_forget_15 : decode s_Sight_forget.2.1 15 = .ok (.return_, 1) := by decide +kernel
theorem d_PA_table_0 : decode s_PA_table.2.1 0 = .ok (.aload_n 0, 1) := by decide +kernel
theorem d_PA_table_1 : decode s_PA_table.2.1 1 = .ok (.getfield 64, 3) := by decide +kernel
theorem d_PA_table_4 : decode s_PA_table.2.1 4 = .ok (.aload_n 0, 1) := by decide +kernel
theorem d_PA_table_5 : decode s_PA_table.2.1 5 = .ok (.getfield 12, 3) := by decide +kernel
theorem d_PA_table_8 : decode s_PA_table.2.1 8 = .ok (.invokevirtual 111, 3) := by decide +kernel
theorem d_PA_table_11 : decode s_PA_table.2.1 11 = .ok (.istore_n 1, 1) := by decide +kernel
theorem d_PA_table_12 : decode s_PA_table.2.1 12 = .ok (.iload_n 1, 1) := by decide +kernel
theorem d_PA_table_13 : decode s_PA_table.2.1 13 = .ok (.iconst (-1), 1) := by decide +kernel
theorem d_PA_table_14 : decode s_PA_table.2.1 14 = .ok (.if_icmp .eq 39, 3) := by decide +kernel
theorem d_PA_table_17 : decode s_PA_table.2.1 17 = .ok (.aload_n 0, 1) := by decide +kernel
theorem d_PA_table_18 : decode s_PA_table.2.1 18 = .ok (.getfield 25, 3) := by decide +kernel
theorem d_PA_table_21 : decode s_PA_table.2.1 21 = .ok (.aload_n 0, 1) := by decide +kernel
theorem d_PA_table_22 : decode s_PA_table.2.1 22 = .ok (.getfield 64, 3) := by decide +kernel
theorem d_PA_table_25 : decode s_PA_table.2.1 25 = .ok (.getfield 115, 3) := by decide +kernel
theorem d_PA_table_28 : decode s_PA_table.2.1 28 = .ok (.invokevirtual 118, 3) := by decide +kernel
theorem d_PA_table_31 : decode s_PA_table.2.1 31 = .ok (.ifCond .ne 22, 3) := by decide +kernel
theorem d_PA_table_34 : decode s_PA_table.2.1 34 = .ok (.aload_n 0, 1) := by decide +kernel
theorem d_PA_table_35 : decode s_PA_table.2.1 35 = .ok (.getfield 64, 3) := by decide +kernel
theorem d_PA_table_38 : decode s_PA_table.2.1 38 = .ok (.bipush 6, 2) := by decide +kernel
theorem d_PA_table_40 : decode s_PA_table.2.1 40 = .ok (.aload_n 0, 1) := by decide +kernel
theorem d_PA_table_41 : decode s_PA_table.2.1 41 = .ok (.getfield 12, 3) := by decide +kernel
theorem d_PA_table_44 : decode s_PA_table.2.1 44 = .ok (.invokevirtual 96, 3) := by decide +kernel
theorem d_PA_table_47 : decode s_PA_table.2.1 47 = .ok (.invokevirtual 122, 3) := by decide +kernel
theorem d_PA_table_50 : decode s_PA_table.2.1 50 = .ok (.pop, 1) := by decide +kernel
theorem d_PA_table_51 : decode s_PA_table.2.1 51 = .ok (.iconst (-1), 1) := by decide +kernel
theorem d_PA_table_52 : decode s_PA_table.2.1 52 = .ok (.istore_n 1, 1) := by decide +kernel
theorem d_PA_table_53 : decode s_PA_table.2.1 53 = .ok (.aload_n 0, 1) := by decide +kernel
theorem d_PA_table_54 : decode s_PA_table.2.1 54 = .ok (.getfield 12, 3) := by decide +kernel
theorem d_PA_table_57 : decode s_PA_table.2.1 57 = .ok (.iconst 0, 1) := by decide +kernel
theorem d_PA_table_58 : decode s_PA_table.2.1 58 = .ok (.invokevirtual 108, 3) := by decide +kernel
theorem d_PA_table_61 : decode s_PA_table.2.1 61 = .ok (.iload_n 1, 1) := by decide +kernel
theorem d_PA_table_62 : decode s_PA_table.2.1 62 = .ok (.iconst (-1), 1) := by decide +kernel
theorem d_PA_table_63 : decode s_PA_table.2.1 63 = .ok (.if_icmp .ne 9, 3) := by decide +kernel
theorem d_PA_table_66 : decode s_PA_table.2.1 66 = .ok (.aload_n 0, 1) := by decide +kernel
theorem d_PA_table_67 : decode s_PA_table.2.1 67 = .ok (.iconst 1, 1) := by decide +kernel
theorem d_PA_table_68 : decode s_PA_table.2.1 68 = .ok (.invokevirtual 100, 3) := by decide +kernel
theorem d_PA_table_71 : decode s_PA_table.2.1 71 = .ok (.ireturn, 1) := by decide +kernel
theorem d_PA_table_72 : decode s_PA_table.2.1 72 = .ok (.aload_n 0, 1) := by decide +kernel
theorem d_PA_table_73 : decode s_PA_table.2.1 73 = .ok (.getfield 71, 3) := by decide +kernel
theorem d_PA_table_76 : decode s_PA_table.2.1 76 = .ok (.astore_n 2, 1) := by decide +kernel
theorem d_PA_table_77 : decode s_PA_table.2.1 77 = .ok (.aload_n 0, 1) := by decide +kernel
theorem d_PA_table_78 : decode s_PA_table.2.1 78 = .ok (.aload_n 0, 1) := by decide +kernel
theorem d_PA_table_79 : decode s_PA_table.2.1 79 = .ok (.getfield 64, 3) := by decide +kernel
theorem d_PA_table_82 : decode s_PA_table.2.1 82 = .ok (.getfield 115, 3) := by decide +kernel
theorem d_PA_table_85 : decode s_PA_table.2.1 85 = .ok (.putfield 71, 3) := by decide +kernel
theorem d_PA_table_88 : decode s_PA_table.2.1 88 = .ok (.aload_n 0, 1) := by decide +kernel
theorem d_PA_table_89 : decode s_PA_table.2.1 89 = .ok (.getfield 64, 3) := by decide +kernel
theorem d_PA_table_92 : decode s_PA_table.2.1 92 = .ok (.aload_n 2, 1) := by decide +kernel
theorem d_PA_table_93 : decode s_PA_table.2.1 93 = .ok (.putfield 115, 3) := by decide +kernel
theorem d_PA_table_96 : decode s_PA_table.2.1 96 = .ok (.aload_n 0, 1) := by decide +kernel
theorem d_PA_table_97 : decode s_PA_table.2.1 97 = .ok (.iconst 1, 1) := by decide +kernel
theorem d_PA_table_98 : decode s_PA_table.2.1 98 = .ok (.putfield 84, 3) := by decide +kernel
theorem d_PA_table_101 : decode s_PA_table.2.1 101 = .ok (.aload_n 0, 1) := by decide +kernel
theorem d_PA_table_102 : decode s_PA_table.2.1 102 = .ok (.getfield 32, 3) := by decide +kernel
theorem d_PA_table_105 : decode s_PA_table.2.1 105 = .ok (.aload_n 0, 1) := by decide +kernel
theorem d_PA_table_106 : decode s_PA_table.2.1 106 = .ok (.getfield 25, 3) := by decide +kernel
theorem d_PA_table_109 : decode s_PA_table.2.1 109 = .ok (.aload_n 0, 1) := by decide +kernel
theorem d_PA_table_110 : decode s_PA_table.2.1 110 = .ok (.getfield 71, 3) := by decide +kernel
theorem d_PA_table_113 : decode s_PA_table.2.1 113 = .ok (.invokevirtual 125, 3) := by decide +kernel
theorem d_PA_table_116 : decode s_PA_table.2.1 116 = .ok (.aload_n 0, 1) := by decide +kernel
theorem d_PA_table_117 : decode s_PA_table.2.1 117 = .ok (.getfield 80, 3) := by decide +kernel
theorem d_PA_table_120 : decode s_PA_table.2.1 120 = .ok (.aload_n 0, 1) := by decide +kernel
theorem d_PA_table_121 : decode s_PA_table.2.1 121 = .ok (.getfield 71, 3) := by decide +kernel
theorem d_PA_table_124 : decode s_PA_table.2.1 124 = .ok (.invokevirtual 129, 3) := by decide +kernel
theorem d_PA_table_127 : decode s_PA_table.2.1 127 = .ok (.aload_n 0, 1) := by decide +kernel
theorem d_PA_table_128 : decode s_PA_table.2.1 128 = .ok (.getfield 39, 3) := by decide +kernel
theorem d_PA_table_131 : decode s_PA_table.2.1 131 = .ok (.invokevirtual 133, 3) := by decide +kernel
theorem d_PA_table_134 : decode s_PA_table.2.1 134 = .ok (.aload_n 0, 1) := by decide +kernel
theorem d_PA_table_135 : decode s_PA_table.2.1 135 = .ok (.getfield 46, 3) := by decide +kernel
theorem d_PA_table_138 : decode s_PA_table.2.1 138 = .ok (.aload_n 0, 1) := by decide +kernel
theorem d_PA_table_139 : decode s_PA_table.2.1 139 = .ok (.getfield 71, 3) := by decide +kernel
theorem d_PA_table_142 : decode s_PA_table.2.1 142 = .ok (.invokevirtual 136, 3) := by decide +kernel
theorem d_PA_table_145 : decode s_PA_table.2.1 145 = .ok (.aload_n 0, 1) := by decide +kernel
theorem d_PA_table_146 : decode s_PA_table.2.1 146 = .ok (.iconst 0, 1) := by decide +kernel
theorem d_PA_table_147 : decode s_PA_table.2.1 147 = .ok (.putfield 88, 3) := by decide +kernel
theorem d_PA_table_150 : decode s_PA_table.2.1 150 = .ok (.iload_n 1, 1) := by decide +kernel
theorem d_PA_table_151 : decode s_PA_table.2.1 151 = .ok (.ireturn, 1) := by decide +kernel
theorem d_PA_fault_0 : decode s_PA_fault.2.1 0 = .ok (.iload_n 1, 1) := by decide +kernel
theorem d_PA_fault_1 : decode s_PA_fault.2.1 1 = .ok (.ifCond .ne 11, 3) := by decide +kernel
theorem d_PA_fault_4 : decode s_PA_fault.2.1 4 = .ok (.aload_n 0, 1) := by decide +kernel
theorem d_PA_fault_5 : decode s_PA_fault.2.1 5 = .ok (.getfield 64, 3) := by decide +kernel
theorem d_PA_fault_8 : decode s_PA_fault.2.1 8 = .ok (.getfield 137, 3) := by decide +kernel
theorem d_PA_fault_11 : decode s_PA_fault.2.1 11 = .ok (.ireturn, 1) := by decide +kernel
theorem d_PA_fault_12 : decode s_PA_fault.2.1 12 = .ok (.iload_n 1, 1) := by decide +kernel
theorem d_PA_fault_13 : decode s_PA_fault.2.1 13 = .ok (.iconst 1, 1) := by decide +kernel
theorem d_PA_fault_14 : decode s_PA_fault.2.1 14 = .ok (.if_icmp .ne 13, 3) := by decide +kernel
theorem d_PA_fault_17 : decode s_PA_fault.2.1 17 = .ok (.aload_n 0, 1) := by decide +kernel
theorem d_PA_fault_18 : decode s_PA_fault.2.1 18 = .ok (.getfield 64, 3) := by decide +kernel
theorem d_PA_fault_21 : decode s_PA_fault.2.1 21 = .ok (.getfield 140, 3) := by decide +kernel
theorem d_PA_fault_24 : decode s_PA_fault.2.1 24 = .ok (.goto 4, 3) := by decide +kernel
theorem d_PA_fault_27 : decode s_PA_fault.2.1 27 = .ok (.iconst (-1), 1) := by decide +kernel
theorem d_PA_fault_28 : decode s_PA_fault.2.1 28 = .ok (.ireturn, 1) := by decide +kernel
theorem d_Atlas_allWorlds_0 : decode s_Atlas_allWorlds.2.1 0 = .ok (.iconst 0, 1) := by decide +kernel
theorem d_Atlas_allWorlds_1 : decode s_Atlas_allWorlds.2.1 1 = .ok (.istore_n 1, 1) := by decide +kernel
theorem d_Atlas_allWorlds_2 : decode s_Atlas_allWorlds.2.1 2 = .ok (.iconst 0, 1) := by decide +kernel
theorem d_Atlas_allWorlds_3 : decode s_Atlas_allWorlds.2.1 3 = .ok (.istore_n 2, 1) := by decide +kernel
theorem d_Atlas_allWorlds_4 : decode s_Atlas_allWorlds.2.1 4 = .ok (.iload_n 2, 1) := by decide +kernel
theorem d_Atlas_allWorlds_5 : decode s_Atlas_allWorlds.2.1 5 = .ok (.aload_n 0, 1) := by decide +kernel
theorem d_Atlas_allWorlds_6 : decode s_Atlas_allWorlds.2.1 6 = .ok (.getfield 9, 3) := by decide +kernel
theorem d_Atlas_allWorlds_9 : decode s_Atlas_allWorlds.2.1 9 = .ok (.if_icmp .ge 18, 3) := by decide +kernel
theorem d_Atlas_allWorlds_12 : decode s_Atlas_allWorlds.2.1 12 = .ok (.iload_n 1, 1) := by decide +kernel
theorem d_Atlas_allWorlds_13 : decode s_Atlas_allWorlds.2.1 13 = .ok (.aload_n 0, 1) := by decide +kernel
theorem d_Atlas_allWorlds_14 : decode s_Atlas_allWorlds.2.1 14 = .ok (.getfield 39, 3) := by decide +kernel
theorem d_Atlas_allWorlds_17 : decode s_Atlas_allWorlds.2.1 17 = .ok (.iload_n 2, 1) := by decide +kernel
theorem d_Atlas_allWorlds_18 : decode s_Atlas_allWorlds.2.1 18 = .ok (.iaload, 1) := by decide +kernel
theorem d_Atlas_allWorlds_19 : decode s_Atlas_allWorlds.2.1 19 = .ok (.iadd, 1) := by decide +kernel
theorem d_Atlas_allWorlds_20 : decode s_Atlas_allWorlds.2.1 20 = .ok (.istore_n 1, 1) := by decide +kernel
theorem d_Atlas_allWorlds_21 : decode s_Atlas_allWorlds.2.1 21 = .ok (.iinc 2 1, 3) := by decide +kernel
theorem d_Atlas_allWorlds_24 : decode s_Atlas_allWorlds.2.1 24 = .ok (.goto (-20), 3) := by decide +kernel
theorem d_Atlas_allWorlds_27 : decode s_Atlas_allWorlds.2.1 27 = .ok (.iload_n 1, 1) := by decide +kernel
theorem d_Atlas_allWorlds_28 : decode s_Atlas_allWorlds.2.1 28 = .ok (.ireturn, 1) := by decide +kernel
theorem d_Atlas_allMoves_0 : decode s_Atlas_allMoves.2.1 0 = .ok (.iconst 0, 1) := by decide +kernel
theorem d_Atlas_allMoves_1 : decode s_Atlas_allMoves.2.1 1 = .ok (.istore_n 2, 1) := by decide +kernel
theorem d_Atlas_allMoves_2 : decode s_Atlas_allMoves.2.1 2 = .ok (.iconst 0, 1) := by decide +kernel
theorem d_Atlas_allMoves_3 : decode s_Atlas_allMoves.2.1 3 = .ok (.istore_n 3, 1) := by decide +kernel
theorem d_Atlas_allMoves_4 : decode s_Atlas_allMoves.2.1 4 = .ok (.iload_n 3, 1) := by decide +kernel
theorem d_Atlas_allMoves_5 : decode s_Atlas_allMoves.2.1 5 = .ok (.aload_n 0, 1) := by decide +kernel
theorem d_Atlas_allMoves_6 : decode s_Atlas_allMoves.2.1 6 = .ok (.getfield 9, 3) := by decide +kernel
theorem d_Atlas_allMoves_9 : decode s_Atlas_allMoves.2.1 9 = .ok (.if_icmp .ge 64, 3) := by decide +kernel
theorem d_Atlas_allMoves_12 : decode s_Atlas_allMoves.2.1 12 = .ok (.aload_n 0, 1) := by decide +kernel
theorem d_Atlas_allMoves_13 : decode s_Atlas_allMoves.2.1 13 = .ok (.getfield 52, 3) := by decide +kernel
theorem d_Atlas_allMoves_16 : decode s_Atlas_allMoves.2.1 16 = .ok (.iload_n 3, 1) := by decide +kernel
theorem d_Atlas_allMoves_17 : decode s_Atlas_allMoves.2.1 17 = .ok (.iaload, 1) := by decide +kernel
theorem d_Atlas_allMoves_18 : decode s_Atlas_allMoves.2.1 18 = .ok (.istore 4, 2) := by decide +kernel
theorem d_Atlas_allMoves_20 : decode s_Atlas_allMoves.2.1 20 = .ok (.iload 4, 2) := by decide +kernel
theorem d_Atlas_allMoves_22 : decode s_Atlas_allMoves.2.1 22 = .ok (.aload_n 0, 1) := by decide +kernel
theorem d_Atlas_allMoves_23 : decode s_Atlas_allMoves.2.1 23 = .ok (.getfield 52, 3) := by decide +kernel
theorem d_Atlas_allMoves_26 : decode s_Atlas_allMoves.2.1 26 = .ok (.iload_n 3, 1) := by decide +kernel
theorem d_Atlas_allMoves_27 : decode s_Atlas_allMoves.2.1 27 = .ok (.iconst 1, 1) := by decide +kernel
theorem d_Atlas_allMoves_28 : decode s_Atlas_allMoves.2.1 28 = .ok (.iadd, 1) := by decide +kernel
theorem d_Atlas_allMoves_29 : decode s_Atlas_allMoves.2.1 29 = .ok (.iaload, 1) := by decide +kernel
theorem d_Atlas_allMoves_30 : decode s_Atlas_allMoves.2.1 30 = .ok (.if_icmp .ge 37, 3) := by decide +kernel
theorem d_Atlas_allMoves_33 : decode s_Atlas_allMoves.2.1 33 = .ok (.iload_n 2, 1) := by decide +kernel
theorem d_Atlas_allMoves_34 : decode s_Atlas_allMoves.2.1 34 = .ok (.iload_n 1, 1) := by decide +kernel
theorem d_Atlas_allMoves_35 : decode s_Atlas_allMoves.2.1 35 = .ok (.iconst (-1), 1) := by decide +kernel
theorem d_Atlas_allMoves_36 : decode s_Atlas_allMoves.2.1 36 = .ok (.if_icmp .eq 13, 3) := by decide +kernel
theorem d_Atlas_allMoves_39 : decode s_Atlas_allMoves.2.1 39 = .ok (.aload_n 0, 1) := by decide +kernel
theorem d_Atlas_allMoves_40 : decode s_Atlas_allMoves.2.1 40 = .ok (.iload 4, 2) := by decide +kernel
theorem d_Atlas_allMoves_42 : decode s_Atlas_allMoves.2.1 42 = .ok (.invokevirtual 147, 3) := by decide +kernel
theorem d_Atlas_allMoves_45 : decode s_Atlas_allMoves.2.1 45 = .ok (.iload_n 1, 1) := by decide +kernel
theorem d_Atlas_allMoves_46 : decode s_Atlas_allMoves.2.1 46 = .ok (.if_icmp .ne 12, 3) := by decide +kernel
theorem d_Atlas_allMoves_49 : decode s_Atlas_allMoves.2.1 49 = .ok (.aload_n 0, 1) := by decide +kernel
theorem d_Atlas_allMoves_50 : decode s_Atlas_allMoves.2.1 50 = .ok (.getfield 39, 3) := by decide +kernel
theorem d_Atlas_allMoves_53 : decode s_Atlas_allMoves.2.1 53 = .ok (.iload_n 3, 1) := by decide +kernel
theorem d_Atlas_allMoves_54 : decode s_Atlas_allMoves.2.1 54 = .ok (.iaload, 1) := by decide +kernel
theorem d_Atlas_allMoves_55 : decode s_Atlas_allMoves.2.1 55 = .ok (.goto 4, 3) := by decide +kernel
theorem d_Atlas_allMoves_58 : decode s_Atlas_allMoves.2.1 58 = .ok (.iconst 0, 1) := by decide +kernel
theorem d_Atlas_allMoves_59 : decode s_Atlas_allMoves.2.1 59 = .ok (.iadd, 1) := by decide +kernel
theorem d_Atlas_allMoves_60 : decode s_Atlas_allMoves.2.1 60 = .ok (.istore_n 2, 1) := by decide +kernel
theorem d_Atlas_allMoves_61 : decode s_Atlas_allMoves.2.1 61 = .ok (.iinc 4 1, 3) := by decide +kernel
theorem d_Atlas_allMoves_64 : decode s_Atlas_allMoves.2.1 64 = .ok (.goto (-44), 3) := by decide +kernel
theorem d_Atlas_allMoves_67 : decode s_Atlas_allMoves.2.1 67 = .ok (.iinc 3 1, 3) := by decide +kernel
theorem d_Atlas_allMoves_70 : decode s_Atlas_allMoves.2.1 70 = .ok (.goto (-66), 3) := by decide +kernel
theorem d_Atlas_allMoves_73 : decode s_Atlas_allMoves.2.1 73 = .ok (.iload_n 2, 1) := by decide +kernel
theorem d_Atlas_allMoves_74 : decode s_Atlas_allMoves.2.1 74 = .ok (.ireturn, 1) := by decide +kernel
theorem d_Atlas_allBad_0 : decode s_Atlas_allBad.2.1 0 = .ok (.iconst 0, 1) := by decide +kernel
theorem d_Atlas_allBad_1 : decode s_Atlas_allBad.2.1 1 = .ok (.istore_n 1, 1) := by decide +kernel
theorem d_Atlas_allBad_2 : decode s_Atlas_allBad.2.1 2 = .ok (.iconst 0, 1) := by decide +kernel
theorem d_Atlas_allBad_3 : decode s_Atlas_allBad.2.1 3 = .ok (.istore_n 2, 1) := by decide +kernel
theorem d_Atlas_allBad_4 : decode s_Atlas_allBad.2.1 4 = .ok (.iload_n 2, 1) := by decide +kernel
theorem d_Atlas_allBad_5 : decode s_Atlas_allBad.2.1 5 = .ok (.aload_n 0, 1) := by decide +kernel
theorem d_Atlas_allBad_6 : decode s_Atlas_allBad.2.1 6 = .ok (.getfield 9, 3) := by decide +kernel
theorem d_Atlas_allBad_9 : decode s_Atlas_allBad.2.1 9 = .ok (.if_icmp .ge 31, 3) := by decide +kernel
theorem d_Atlas_allBad_12 : decode s_Atlas_allBad.2.1 12 = .ok (.iload_n 1, 1) := by decide +kernel
theorem d_Atlas_allBad_13 : decode s_Atlas_allBad.2.1 13 = .ok (.aload_n 0, 1) := by decide +kernel
theorem d_Atlas_allBad_14 : decode s_Atlas_allBad.2.1 14 = .ok (.getfield 42, 3) := by decide +kernel
theorem d_Atlas_allBad_17 : decode s_Atlas_allBad.2.1 17 = .ok (.iload_n 2, 1) := by decide +kernel
theorem d_Atlas_allBad_18 : decode s_Atlas_allBad.2.1 18 = .ok (.baload, 1) := by decide +kernel
theorem d_Atlas_allBad_19 : decode s_Atlas_allBad.2.1 19 = .ok (.ifCond .eq 12, 3) := by decide +kernel
theorem d_Atlas_allBad_22 : decode s_Atlas_allBad.2.1 22 = .ok (.aload_n 0, 1) := by decide +kernel
theorem d_Atlas_allBad_23 : decode s_Atlas_allBad.2.1 23 = .ok (.getfield 39, 3) := by decide +kernel
theorem d_Atlas_allBad_26 : decode s_Atlas_allBad.2.1 26 = .ok (.iload_n 2, 1) := by decide +kernel
theorem d_Atlas_allBad_27 : decode s_Atlas_allBad.2.1 27 = .ok (.iaload, 1) := by decide +kernel
theorem d_Atlas_allBad_28 : decode s_Atlas_allBad.2.1 28 = .ok (.goto 4, 3) := by decide +kernel
theorem d_Atlas_allBad_31 : decode s_Atlas_allBad.2.1 31 = .ok (.iconst 0, 1) := by decide +kernel
theorem d_Atlas_allBad_32 : decode s_Atlas_allBad.2.1 32 = .ok (.iadd, 1) := by decide +kernel
theorem d_Atlas_allBad_33 : decode s_Atlas_allBad.2.1 33 = .ok (.istore_n 1, 1) := by decide +kernel
theorem d_Atlas_allBad_34 : decode s_Atlas_allBad.2.1 34 = .ok (.iinc 2 1, 3) := by decide +kernel
theorem d_Atlas_allBad_37 : decode s_Atlas_allBad.2.1 37 = .ok (.goto (-33), 3) := by decide +kernel
theorem d_Atlas_allBad_40 : decode s_Atlas_allBad.2.1 40 = .ok (.iload_n 1, 1) := by decide +kernel
theorem d_Atlas_allBad_41 : decode s_Atlas_allBad.2.1 41 = .ok (.ireturn, 1) := by decide +kernel
theorem d_Atlas_movesFrom_0 : decode s_Atlas_movesFrom.2.1 0 = .ok (.aload_n 0, 1) := by decide +kernel
theorem d_Atlas_movesFrom_1 : decode s_Atlas_movesFrom.2.1 1 = .ok (.getfield 52, 3) := by decide +kernel
theorem d_Atlas_movesFrom_4 : decode s_Atlas_movesFrom.2.1 4 = .ok (.iload_n 1, 1) := by decide +kernel
theorem d_Atlas_movesFrom_5 : decode s_Atlas_movesFrom.2.1 5 = .ok (.iconst 1, 1) := by decide +kernel
theorem d_Atlas_movesFrom_6 : decode s_Atlas_movesFrom.2.1 6 = .ok (.iadd, 1) := by decide +kernel
theorem d_Atlas_movesFrom_7 : decode s_Atlas_movesFrom.2.1 7 = .ok (.iaload, 1) := by decide +kernel
theorem d_Atlas_movesFrom_8 : decode s_Atlas_movesFrom.2.1 8 = .ok (.aload_n 0, 1) := by decide +kernel
theorem d_Atlas_movesFrom_9 : decode s_Atlas_movesFrom.2.1 9 = .ok (.getfield 52, 3) := by decide +kernel
theorem d_Atlas_movesFrom_12 : decode s_Atlas_movesFrom.2.1 12 = .ok (.iload_n 1, 1) := by decide +kernel
theorem d_Atlas_movesFrom_13 : decode s_Atlas_movesFrom.2.1 13 = .ok (.iaload, 1) := by decide +kernel
theorem d_Atlas_movesFrom_14 : decode s_Atlas_movesFrom.2.1 14 = .ok (.isub, 1) := by decide +kernel
theorem d_Atlas_movesFrom_15 : decode s_Atlas_movesFrom.2.1 15 = .ok (.ireturn, 1) := by decide +kernel
theorem d_Atlas_allStuck_0 : decode s_Atlas_allStuck.2.1 0 = .ok (.iconst 0, 1) := by decide +kernel
theorem d_Atlas_allStuck_1 : decode s_Atlas_allStuck.2.1 1 = .ok (.istore_n 1, 1) := by decide +kernel
theorem d_Atlas_allStuck_2 : decode s_Atlas_allStuck.2.1 2 = .ok (.iconst 0, 1) := by decide +kernel
theorem d_Atlas_allStuck_3 : decode s_Atlas_allStuck.2.1 3 = .ok (.istore_n 2, 1) := by decide +kernel
theorem d_Atlas_allStuck_4 : decode s_Atlas_allStuck.2.1 4 = .ok (.iload_n 2, 1) := by decide +kernel
theorem d_Atlas_allStuck_5 : decode s_Atlas_allStuck.2.1 5 = .ok (.aload_n 0, 1) := by decide +kernel
theorem d_Atlas_allStuck_6 : decode s_Atlas_allStuck.2.1 6 = .ok (.getfield 9, 3) := by decide +kernel
theorem d_Atlas_allStuck_9 : decode s_Atlas_allStuck.2.1 9 = .ok (.if_icmp .ge 30, 3) := by decide +kernel
theorem d_Atlas_allStuck_12 : decode s_Atlas_allStuck.2.1 12 = .ok (.iload_n 1, 1) := by decide +kernel
theorem d_Atlas_allStuck_13 : decode s_Atlas_allStuck.2.1 13 = .ok (.aload_n 0, 1) := by decide +kernel
theorem d_Atlas_allStuck_14 : decode s_Atlas_allStuck.2.1 14 = .ok (.iload_n 2, 1) := by decide +kernel
theorem d_Atlas_allStuck_15 : decode s_Atlas_allStuck.2.1 15 = .ok (.invokevirtual 157, 3) := by decide +kernel
theorem d_Atlas_allStuck_18 : decode s_Atlas_allStuck.2.1 18 = .ok (.ifCond .ne 12, 3) := by decide +kernel
theorem d_Atlas_allStuck_21 : decode s_Atlas_allStuck.2.1 21 = .ok (.aload_n 0, 1) := by decide +kernel
theorem d_Atlas_allStuck_22 : decode s_Atlas_allStuck.2.1 22 = .ok (.getfield 39, 3) := by decide +kernel
theorem d_Atlas_allStuck_25 : decode s_Atlas_allStuck.2.1 25 = .ok (.iload_n 2, 1) := by decide +kernel
theorem d_Atlas_allStuck_26 : decode s_Atlas_allStuck.2.1 26 = .ok (.iaload, 1) := by decide +kernel
theorem d_Atlas_allStuck_27 : decode s_Atlas_allStuck.2.1 27 = .ok (.goto 4, 3) := by decide +kernel
theorem d_Atlas_allStuck_30 : decode s_Atlas_allStuck.2.1 30 = .ok (.iconst 0, 1) := by decide +kernel
theorem d_Atlas_allStuck_31 : decode s_Atlas_allStuck.2.1 31 = .ok (.iadd, 1) := by decide +kernel
theorem d_Atlas_allStuck_32 : decode s_Atlas_allStuck.2.1 32 = .ok (.istore_n 1, 1) := by decide +kernel
theorem d_Atlas_allStuck_33 : decode s_Atlas_allStuck.2.1 33 = .ok (.iinc 2 1, 3) := by decide +kernel
theorem d_Atlas_allStuck_36 : decode s_Atlas_allStuck.2.1 36 = .ok (.goto (-32), 3) := by decide +kernel
theorem d_Atlas_allStuck_39 : decode s_Atlas_allStuck.2.1 39 = .ok (.iload_n 1, 1) := by decide +kernel
theorem d_Atlas_allStuck_40 : decode s_Atlas_allStuck.2.1 40 = .ok (.ireturn, 1) := by decide +kernel
theorem d_PA_has_0 : decode s_PA_has.2.1 0 = .ok (.iload_n 1, 1) := by decide +kernel
theorem d_PA_has_1 : decode s_PA_has.2.1 1 = .ok (.ifCond .lt 9, 3) := by decide +kernel
theorem d_PA_has_4 : decode s_PA_has.2.1 4 = .ok (.iload_n 1, 1) := by decide +kernel
theorem d_PA_has_5 : decode s_PA_has.2.1 5 = .ok (.bipush 13, 2) := by decide +kernel
theorem d_PA_has_7 : decode s_PA_has.2.1 7 = .ok (.if_icmp .le 5, 3) := by decide +kernel
theorem d_PA_has_10 : decode s_PA_has.2.1 10 = .ok (.iconst (-1), 1) := by decide +kernel
theorem d_PA_has_11 : decode s_PA_has.2.1 11 = .ok (.ireturn, 1) := by decide +kernel
theorem d_PA_has_12 : decode s_PA_has.2.1 12 = .ok (.aload_n 0, 1) := by decide +kernel
theorem d_PA_has_13 : decode s_PA_has.2.1 13 = .ok (.getfield 84, 3) := by decide +kernel
theorem d_PA_has_16 : decode s_PA_has.2.1 16 = .ok (.ifCond .ne 5, 3) := by decide +kernel
theorem d_PA_has_19 : decode s_PA_has.2.1 19 = .ok (.iconst 0, 1) := by decide +kernel
theorem d_PA_has_20 : decode s_PA_has.2.1 20 = .ok (.ireturn, 1) := by decide +kernel
theorem d_PA_has_21 : decode s_PA_has.2.1 21 = .ok (.iload_n 1, 1) := by decide +kernel
theorem d_PA_has_22 : decode s_PA_has.2.1 22 = .ok (.tableswitch 184 0 12 #[66, 74, 84, 94, 104, 112, 120, 128, 146, 155, 163, 171, 179], 66) := by decide +kernel
theorem d_PA_has_88 : decode s_PA_has.2.1 88 = .ok (.aload_n 0, 1) := by decide +kernel
theorem d_PA_has_89 : decode s_PA_has.2.1 89 = .ok (.getfield 71, 3) := by decide +kernel
theorem d_PA_has_92 : decode s_PA_has.2.1 92 = .ok (.getfield 143, 3) := by decide +kernel
theorem d_PA_has_95 : decode s_PA_has.2.1 95 = .ok (.ireturn, 1) := by decide +kernel
theorem d_PA_has_96 : decode s_PA_has.2.1 96 = .ok (.aload_n 0, 1) := by decide +kernel
theorem d_PA_has_97 : decode s_PA_has.2.1 97 = .ok (.getfield 71, 3) := by decide +kernel
theorem d_PA_has_100 : decode s_PA_has.2.1 100 = .ok (.getfield 146, 3) := by decide +kernel
theorem d_PA_has_103 : decode s_PA_has.2.1 103 = .ok (.iconst 0, 1) := by decide +kernel
theorem d_PA_has_104 : decode s_PA_has.2.1 104 = .ok (.iaload, 1) := by decide +kernel
theorem d_PA_has_105 : decode s_PA_has.2.1 105 = .ok (.ireturn, 1) := by decide +kernel
theorem d_PA_has_106 : decode s_PA_has.2.1 106 = .ok (.aload_n 0, 1) := by decide +kernel
theorem d_PA_has_107 : decode s_PA_has.2.1 107 = .ok (.getfield 71, 3) := by decide +kernel
theorem d_PA_has_110 : decode s_PA_has.2.1 110 = .ok (.getfield 146, 3) := by decide +kernel
theorem d_PA_has_113 : decode s_PA_has.2.1 113 = .ok (.iconst 1, 1) := by decide +kernel
theorem d_PA_has_114 : decode s_PA_has.2.1 114 = .ok (.iaload, 1) := by decide +kernel
theorem d_PA_has_115 : decode s_PA_has.2.1 115 = .ok (.ireturn, 1) := by decide +kernel
theorem d_PA_has_116 : decode s_PA_has.2.1 116 = .ok (.aload_n 0, 1) := by decide +kernel
theorem d_PA_has_117 : decode s_PA_has.2.1 117 = .ok (.getfield 71, 3) := by decide +kernel
theorem d_PA_has_120 : decode s_PA_has.2.1 120 = .ok (.getfield 146, 3) := by decide +kernel
theorem d_PA_has_123 : decode s_PA_has.2.1 123 = .ok (.iconst 2, 1) := by decide +kernel
theorem d_PA_has_124 : decode s_PA_has.2.1 124 = .ok (.iaload, 1) := by decide +kernel
theorem d_PA_has_125 : decode s_PA_has.2.1 125 = .ok (.ireturn, 1) := by decide +kernel
theorem d_PA_has_126 : decode s_PA_has.2.1 126 = .ok (.aload_n 0, 1) := by decide +kernel
theorem d_PA_has_127 : decode s_PA_has.2.1 127 = .ok (.getfield 71, 3) := by decide +kernel
theorem d_PA_has_130 : decode s_PA_has.2.1 130 = .ok (.getfield 149, 3) := by decide +kernel
theorem d_PA_has_133 : decode s_PA_has.2.1 133 = .ok (.ireturn, 1) := by decide +kernel
theorem d_PA_has_134 : decode s_PA_has.2.1 134 = .ok (.aload_n 0, 1) := by decide +kernel
theorem d_PA_has_135 : decode s_PA_has.2.1 135 = .ok (.getfield 32, 3) := by decide +kernel
theorem d_PA_has_138 : decode s_PA_has.2.1 138 = .ok (.getfield 152, 3) := by decide +kernel
theorem d_PA_has_141 : decode s_PA_has.2.1 141 = .ok (.ireturn, 1) := by decide +kernel
theorem d_PA_has_142 : decode s_PA_has.2.1 142 = .ok (.aload_n 0, 1) := by decide +kernel
theorem d_PA_has_143 : decode s_PA_has.2.1 143 = .ok (.getfield 32, 3) := by decide +kernel
theorem d_PA_has_146 : decode s_PA_has.2.1 146 = .ok (.invokevirtual 155, 3) := by decide +kernel
theorem d_PA_has_149 : decode s_PA_has.2.1 149 = .ok (.ireturn, 1) := by decide +kernel
theorem d_PA_has_150 : decode s_PA_has.2.1 150 = .ok (.aload_n 0, 1) := by decide +kernel
theorem d_PA_has_151 : decode s_PA_has.2.1 151 = .ok (.getfield 32, 3) := by decide +kernel
theorem d_PA_has_154 : decode s_PA_has.2.1 154 = .ok (.getfield 158, 3) := by decide +kernel
theorem d_PA_has_157 : decode s_PA_has.2.1 157 = .ok (.aload_n 0, 1) := by decide +kernel
theorem d_PA_has_158 : decode s_PA_has.2.1 158 = .ok (.getfield 32, 3) := by decide +kernel
theorem d_PA_has_161 : decode s_PA_has.2.1 161 = .ok (.getfield 152, 3) := by decide +kernel
theorem d_PA_has_164 : decode s_PA_has.2.1 164 = .ok (.iconst 1, 1) := by decide +kernel
theorem d_PA_has_165 : decode s_PA_has.2.1 165 = .ok (.isub, 1) := by decide +kernel
theorem d_PA_has_166 : decode s_PA_has.2.1 166 = .ok (.iaload, 1) := by decide +kernel
theorem d_PA_has_167 : decode s_PA_has.2.1 167 = .ok (.ireturn, 1) := by decide +kernel
theorem d_PA_has_168 : decode s_PA_has.2.1 168 = .ok (.aload_n 0, 1) := by decide +kernel
theorem d_PA_has_169 : decode s_PA_has.2.1 169 = .ok (.getfield 32, 3) := by decide +kernel
theorem d_PA_has_172 : decode s_PA_has.2.1 172 = .ok (.iconst (-1), 1) := by decide +kernel
theorem d_PA_has_173 : decode s_PA_has.2.1 173 = .ok (.invokevirtual 161, 3) := by decide +kernel
theorem d_PA_has_176 : decode s_PA_has.2.1 176 = .ok (.ireturn, 1) := by decide +kernel
theorem d_PA_has_177 : decode s_PA_has.2.1 177 = .ok (.aload_n 0, 1) := by decide +kernel
theorem d_PA_has_178 : decode s_PA_has.2.1 178 = .ok (.getfield 32, 3) := by decide +kernel
theorem d_PA_has_181 : decode s_PA_has.2.1 181 = .ok (.invokevirtual 164, 3) := by decide +kernel
theorem d_PA_has_184 : decode s_PA_has.2.1 184 = .ok (.ireturn, 1) := by decide +kernel
theorem d_PA_has_185 : decode s_PA_has.2.1 185 = .ok (.aload_n 0, 1) := by decide +kernel
theorem d_PA_has_186 : decode s_PA_has.2.1 186 = .ok (.getfield 32, 3) := by decide +kernel
theorem d_PA_has_189 : decode s_PA_has.2.1 189 = .ok (.invokevirtual 167, 3) := by decide +kernel
theorem d_PA_has_192 : decode s_PA_has.2.1 192 = .ok (.ireturn, 1) := by decide +kernel
theorem d_PA_has_193 : decode s_PA_has.2.1 193 = .ok (.aload_n 0, 1) := by decide +kernel
theorem d_PA_has_194 : decode s_PA_has.2.1 194 = .ok (.getfield 80, 3) := by decide +kernel
theorem d_PA_has_197 : decode s_PA_has.2.1 197 = .ok (.getfield 170, 3) := by decide +kernel
theorem d_PA_has_200 : decode s_PA_has.2.1 200 = .ok (.ireturn, 1) := by decide +kernel
theorem d_PA_has_201 : decode s_PA_has.2.1 201 = .ok (.aload_n 0, 1) := by decide +kernel
theorem d_PA_has_202 : decode s_PA_has.2.1 202 = .ok (.getfield 88, 3) := by decide +kernel
theorem d_PA_has_205 : decode s_PA_has.2.1 205 = .ok (.ireturn, 1) := by decide +kernel
theorem d_PA_has_206 : decode s_PA_has.2.1 206 = .ok (.aload_n 0, 1) := by decide +kernel
theorem d_PA_has_207 : decode s_PA_has.2.1 207 = .ok (.getfield 39, 3) := by decide +kernel
theorem d_PA_has_210 : decode s_PA_has.2.1 210 = .ok (.getfield 173, 3) := by decide +kernel
theorem d_PA_has_213 : decode s_PA_has.2.1 213 = .ok (.ireturn, 1) := by decide +kernel
theorem d_Table_name_0 : decode s_Table_name.2.1 0 = .ok (.iload_n 2, 1) := by decide +kernel
theorem d_Table_name_1 : decode s_Table_name.2.1 1 = .ok (.ifCond .lt 27, 3) := by decide +kernel
theorem d_Table_name_4 : decode s_Table_name.2.1 4 = .ok (.iload_n 2, 1) := by decide +kernel
theorem d_Table_name_5 : decode s_Table_name.2.1 5 = .ok (.aload_n 0, 1) := by decide +kernel
theorem d_Table_name_6 : decode s_Table_name.2.1 6 = .ok (.getfield 15, 3) := by decide +kernel
theorem d_Table_name_9 : decode s_Table_name.2.1 9 = .ok (.iload_n 1, 1) := by decide +kernel
theorem d_Table_name_10 : decode s_Table_name.2.1 10 = .ok (.iaload, 1) := by decide +kernel
theorem d_Table_name_11 : decode s_Table_name.2.1 11 = .ok (.if_icmp .ge 17, 3) := by decide +kernel
theorem d_Table_name_14 : decode s_Table_name.2.1 14 = .ok (.aload_n 0, 1) := by decide +kernel
theorem d_Table_name_15 : decode s_Table_name.2.1 15 = .ok (.getfield 19, 3) := by decide +kernel
theorem d_Table_name_18 : decode s_Table_name.2.1 18 = .ok (.iload_n 1, 1) := by decide +kernel
theorem d_Table_name_19 : decode s_Table_name.2.1 19 = .ok (.bipush 6, 2) := by decide +kernel
theorem d_Table_name_21 : decode s_Table_name.2.1 21 = .ok (.imul, 1) := by decide +kernel
theorem d_Table_name_22 : decode s_Table_name.2.1 22 = .ok (.iload_n 2, 1) := by decide +kernel
theorem d_Table_name_23 : decode s_Table_name.2.1 23 = .ok (.iadd, 1) := by decide +kernel
theorem d_Table_name_24 : decode s_Table_name.2.1 24 = .ok (.iaload, 1) := by decide +kernel
theorem d_Table_name_25 : decode s_Table_name.2.1 25 = .ok (.goto 4, 3) := by decide +kernel
theorem d_Table_name_28 : decode s_Table_name.2.1 28 = .ok (.iconst 0, 1) := by decide +kernel
theorem d_Table_name_29 : decode s_Table_name.2.1 29 = .ok (.ireturn, 1) := by decide +kernel
theorem d_PA_letterOf_0 : decode s_PA_letterOf.2.1 0 = .ok (.iload_n 0, 1) := by decide +kernel
theorem d_PA_letterOf_1 : decode s_PA_letterOf.2.1 1 = .ok (.iconst 5, 1) := by decide +kernel
theorem d_PA_letterOf_2 : decode s_PA_letterOf.2.1 2 = .ok (.iconst 5, 1) := by decide +kernel
theorem d_PA_letterOf_3 : decode s_PA_letterOf.2.1 3 = .ok (.iload_n 1, 1) := by decide +kernel
theorem d_PA_letterOf_4 : decode s_PA_letterOf.2.1 4 = .ok (.isub, 1) := by decide +kernel
theorem d_PA_letterOf_5 : decode s_PA_letterOf.2.1 5 = .ok (.imul, 1) := by decide +kernel
theorem d_PA_letterOf_6 : decode s_PA_letterOf.2.1 6 = .ok (.ishr, 1) := by decide +kernel
theorem d_PA_letterOf_7 : decode s_PA_letterOf.2.1 7 = .ok (.bipush 31, 2) := by decide +kernel
theorem d_PA_letterOf_9 : decode s_PA_letterOf.2.1 9 = .ok (.iand, 1) := by decide +kernel
theorem d_PA_letterOf_10 : decode s_PA_letterOf.2.1 10 = .ok (.ireturn, 1) := by decide +kernel
theorem d_PA_letter_0 : decode s_PA_letter.2.1 0 = .ok (.aload_n 0, 1) := by decide +kernel
theorem d_PA_letter_1 : decode s_PA_letter.2.1 1 = .ok (.getfield 84, 3) := by decide +kernel
theorem d_PA_letter_4 : decode s_PA_letter.2.1 4 = .ok (.ifCond .eq 22, 3) := by decide +kernel
theorem d_PA_letter_7 : decode s_PA_letter.2.1 7 = .ok (.iload_n 1, 1) := by decide +kernel
theorem d_PA_letter_8 : decode s_PA_letter.2.1 8 = .ok (.ifCond .lt 18, 3) := by decide +kernel
theorem d_PA_letter_11 : decode s_PA_letter.2.1 11 = .ok (.iload_n 1, 1) := by decide +kernel
theorem d_PA_letter_12 : decode s_PA_letter.2.1 12 = .ok (.iconst 3, 1) := by decide +kernel
theorem d_PA_letter_13 : decode s_PA_letter.2.1 13 = .ok (.if_icmp .ge 13, 3) := by decide +kernel
theorem d_PA_letter_16 : decode s_PA_letter.2.1 16 = .ok (.iload_n 3, 1) := by decide +kernel
theorem d_PA_letter_17 : decode s_PA_letter.2.1 17 = .ok (.ifCond .lt 9, 3) := by decide +kernel
theorem d_PA_letter_20 : decode s_PA_letter.2.1 20 = .ok (.iload_n 3, 1) := by decide +kernel
theorem d_PA_letter_21 : decode s_PA_letter.2.1 21 = .ok (.bipush 6, 2) := by decide +kernel
theorem d_PA_letter_23 : decode s_PA_letter.2.1 23 = .ok (.if_icmp .lt 5, 3) := by decide +kernel
theorem d_PA_letter_26 : decode s_PA_letter.2.1 26 = .ok (.iconst (-1), 1) := by decide +kernel
theorem d_PA_letter_27 : decode s_PA_letter.2.1 27 = .ok (.ireturn, 1) := by decide +kernel
theorem d_PA_letter_28 : decode s_PA_letter.2.1 28 = .ok (.iload_n 2, 1) := by decide +kernel
theorem d_PA_letter_29 : decode s_PA_letter.2.1 29 = .ok (.ifCond .lt 16, 3) := by decide +kernel
theorem d_PA_letter_32 : decode s_PA_letter.2.1 32 = .ok (.iload_n 2, 1) := by decide +kernel
theorem d_PA_letter_33 : decode s_PA_letter.2.1 33 = .ok (.aload_n 0, 1) := by decide +kernel
theorem d_PA_letter_34 : decode s_PA_letter.2.1 34 = .ok (.getfield 71, 3) := by decide +kernel
theorem d_PA_letter_37 : decode s_PA_letter.2.1 37 = .ok (.getfield 146, 3) := by decide +kernel
theorem d_PA_letter_40 : decode s_PA_letter.2.1 40 = .ok (.iload_n 1, 1) := by decide +kernel
theorem d_PA_letter_41 : decode s_PA_letter.2.1 41 = .ok (.iaload, 1) := by decide +kernel
theorem d_PA_letter_42 : decode s_PA_letter.2.1 42 = .ok (.if_icmp .lt 5, 3) := by decide +kernel
theorem d_PA_letter_45 : decode s_PA_letter.2.1 45 = .ok (.iconst (-1), 1) := by decide +kernel
theorem d_PA_letter_46 : decode s_PA_letter.2.1 46 = .ok (.ireturn, 1) := by decide +kernel
theorem d_PA_letter_47 : decode s_PA_letter.2.1 47 = .ok (.aload_n 0, 1) := by decide +kernel
theorem d_PA_letter_48 : decode s_PA_letter.2.1 48 = .ok (.getfield 71, 3) := by decide +kernel
theorem d_PA_letter_51 : decode s_PA_letter.2.1 51 = .ok (.iload_n 1, 1) := by decide +kernel
theorem d_PA_letter_52 : decode s_PA_letter.2.1 52 = .ok (.iload_n 2, 1) := by decide +kernel
theorem d_PA_letter_53 : decode s_PA_letter.2.1 53 = .ok (.invokevirtual 174, 3) := by decide +kernel
theorem d_PA_letter_56 : decode s_PA_letter.2.1 56 = .ok (.iload_n 3, 1) := by decide +kernel
theorem d_PA_letter_57 : decode s_PA_letter.2.1 57 = .ok (.invokestatic 178, 3) := by decide +kernel
theorem d_PA_letter_60 : decode s_PA_letter.2.1 60 = .ok (.ireturn, 1) := by decide +kernel
theorem d_PA_isRule_0 : decode s_PA_isRule.2.1 0 = .ok (.aload_n 0, 1) := by decide +kernel
theorem d_PA_isRule_1 : decode s_PA_isRule.2.1 1 = .ok (.getfield 84, 3) := by decide +kernel
theorem d_PA_isRule_4 : decode s_PA_isRule.2.1 4 = .ok (.ifCond .eq 22, 3) := by decide +kernel
theorem d_PA_isRule_7 : decode s_PA_isRule.2.1 7 = .ok (.iload_n 1, 1) := by decide +kernel
theorem d_PA_isRule_8 : decode s_PA_isRule.2.1 8 = .ok (.ifCond .lt 18, 3) := by decide +kernel
theorem d_PA_isRule_11 : decode s_PA_isRule.2.1 11 = .ok (.iload_n 1, 1) := by decide +kernel
theorem d_PA_isRule_12 : decode s_PA_isRule.2.1 12 = .ok (.aload_n 0, 1) := by decide +kernel
theorem d_PA_isRule_13 : decode s_PA_isRule.2.1 13 = .ok (.getfield 71, 3) := by decide +kernel
theorem d_PA_isRule_16 : decode s_PA_isRule.2.1 16 = .ok (.getfield 149, 3) := by decide +kernel
theorem d_PA_isRule_19 : decode s_PA_isRule.2.1 19 = .ok (.if_icmp .ge 7, 3) := by decide +kernel
theorem d_PA_isRule_22 : decode s_PA_isRule.2.1 22 = .ok (.iconst 1, 1) := by decide +kernel
theorem d_PA_isRule_23 : decode s_PA_isRule.2.1 23 = .ok (.goto 4, 3) := by decide +kernel
theorem d_PA_isRule_26 : decode s_PA_isRule.2.1 26 = .ok (.iconst 0, 1) := by decide +kernel
theorem d_PA_isRule_27 : decode s_PA_isRule.2.1 27 = .ok (.ireturn, 1) := by decide +kernel
theorem d_PA_asNumber_0 : decode s_PA_asNumber.2.1 0 = .ok (.iload_n 0, 1) := by decide +kernel
theorem d_PA_asNumber_1 : decode s_PA_asNumber.2.1 1 = .ok (.ifCond .eq 7, 3) := by decide +kernel
theorem d_PA_asNumber_4 : decode s_PA_asNumber.2.1 4 = .ok (.iconst 1, 1) := by decide +kernel
theorem d_PA_asNumber_5 : decode s_PA_asNumber.2.1 5 = .ok (.goto 4, 3) := by decide +kernel
theorem d_PA_asNumber_8 : decode s_PA_asNumber.2.1 8 = .ok (.iconst 0, 1) := by decide +kernel
theorem d_PA_asNumber_9 : decode s_PA_asNumber.2.1 9 = .ok (.ireturn, 1) := by decide +kernel
theorem d_Row_told_0 : decode s_Row_told.2.1 0 = .ok (.iload_n 1, 1) := by decide +kernel
theorem d_Row_told_1 : decode s_Row_told.2.1 1 = .ok (.tableswitch 93 0 7 #[47, 55, 60, 65, 70, 75, 80, 85], 47) := by decide +kernel
theorem d_Row_told_48 : decode s_Row_told.2.1 48 = .ok (.aload_n 0, 1) := by decide +kernel
theorem d_Row_told_49 : decode s_Row_told.2.1 49 = .ok (.getfield 9, 3) := by decide +kernel
theorem d_Row_told_52 : decode s_Row_told.2.1 52 = .ok (.invokestatic 37, 3) := by decide +kernel
theorem d_Row_told_55 : decode s_Row_told.2.1 55 = .ok (.ireturn, 1) := by decide +kernel
theorem d_Row_told_56 : decode s_Row_told.2.1 56 = .ok (.aload_n 0, 1) := by decide +kernel
theorem d_Row_told_57 : decode s_Row_told.2.1 57 = .ok (.getfield 15, 3) := by decide +kernel
theorem d_Row_told_60 : decode s_Row_told.2.1 60 = .ok (.ireturn, 1) := by decide +kernel
theorem d_Row_told_61 : decode s_Row_told.2.1 61 = .ok (.aload_n 0, 1) := by decide +kernel
theorem d_Row_told_62 : decode s_Row_told.2.1 62 = .ok (.getfield 19, 3) := by decide +kernel
theorem d_Row_told_65 : decode s_Row_told.2.1 65 = .ok (.ireturn, 1) := by decide +kernel
theorem d_Row_told_66 : decode s_Row_told.2.1 66 = .ok (.aload_n 0, 1) := by decide +kernel
theorem d_Row_told_67 : decode s_Row_told.2.1 67 = .ok (.getfield 22, 3) := by decide +kernel
theorem d_Row_told_70 : decode s_Row_told.2.1 70 = .ok (.ireturn, 1) := by decide +kernel
theorem d_Row_told_71 : decode s_Row_told.2.1 71 = .ok (.aload_n 0, 1) := by decide +kernel
theorem d_Row_told_72 : decode s_Row_told.2.1 72 = .ok (.getfield 25, 3) := by decide +kernel
theorem d_Row_told_75 : decode s_Row_told.2.1 75 = .ok (.ireturn, 1) := by decide +kernel
theorem d_Row_told_76 : decode s_Row_told.2.1 76 = .ok (.aload_n 0, 1) := by decide +kernel
theorem d_Row_told_77 : decode s_Row_told.2.1 77 = .ok (.getfield 28, 3) := by decide +kernel
theorem d_Row_told_80 : decode s_Row_told.2.1 80 = .ok (.ireturn, 1) := by decide +kernel
theorem d_Row_told_81 : decode s_Row_told.2.1 81 = .ok (.aload_n 0, 1) := by decide +kernel
theorem d_Row_told_82 : decode s_Row_told.2.1 82 = .ok (.getfield 31, 3) := by decide +kernel
theorem d_Row_told_85 : decode s_Row_told.2.1 85 = .ok (.ireturn, 1) := by decide +kernel
theorem d_Row_told_86 : decode s_Row_told.2.1 86 = .ok (.aload_n 0, 1) := by decide +kernel
theorem d_Row_told_87 : decode s_Row_told.2.1 87 = .ok (.getfield 34, 3) := by decide +kernel
theorem d_Row_told_90 : decode s_Row_told.2.1 90 = .ok (.invokestatic 37, 3) := by decide +kernel
theorem d_Row_told_93 : decode s_Row_told.2.1 93 = .ok (.ireturn, 1) := by decide +kernel
theorem d_Row_told_94 : decode s_Row_told.2.1 94 = .ok (.iconst (-1), 1) := by decide +kernel
theorem d_Row_told_95 : decode s_Row_told.2.1 95 = .ok (.ireturn, 1) := by decide +kernel
theorem d_PA_rule_0 : decode s_PA_rule.2.1 0 = .ok (.aload_n 0, 1) := by decide +kernel
theorem d_PA_rule_1 : decode s_PA_rule.2.1 1 = .ok (.iload_n 1, 1) := by decide +kernel
theorem d_PA_rule_2 : decode s_PA_rule.2.1 2 = .ok (.invokevirtual 181, 3) := by decide +kernel
theorem d_PA_rule_5 : decode s_PA_rule.2.1 5 = .ok (.ifCond .eq 19, 3) := by decide +kernel
theorem d_PA_rule_8 : decode s_PA_rule.2.1 8 = .ok (.aload_n 0, 1) := by decide +kernel
theorem d_PA_rule_9 : decode s_PA_rule.2.1 9 = .ok (.getfield 71, 3) := by decide +kernel
theorem d_PA_rule_12 : decode s_PA_rule.2.1 12 = .ok (.getfield 185, 3) := by decide +kernel
theorem d_PA_rule_15 : decode s_PA_rule.2.1 15 = .ok (.iload_n 1, 1) := by decide +kernel
theorem d_PA_rule_16 : decode s_PA_rule.2.1 16 = .ok (.aaload, 1) := by decide +kernel
theorem d_PA_rule_17 : decode s_PA_rule.2.1 17 = .ok (.iload_n 2, 1) := by decide +kernel
theorem d_PA_rule_18 : decode s_PA_rule.2.1 18 = .ok (.invokevirtual 189, 3) := by decide +kernel
theorem d_PA_rule_21 : decode s_PA_rule.2.1 21 = .ok (.goto 4, 3) := by decide +kernel
theorem d_PA_rule_24 : decode s_PA_rule.2.1 24 = .ok (.iconst (-1), 1) := by decide +kernel
theorem d_PA_rule_25 : decode s_PA_rule.2.1 25 = .ok (.ireturn, 1) := by decide +kernel
theorem d_PA_isWorld_0 : decode s_PA_isWorld.2.1 0 = .ok (.aload_n 0, 1) := by decide +kernel
theorem d_PA_isWorld_1 : decode s_PA_isWorld.2.1 1 = .ok (.getfield 84, 3) := by decide +kernel
theorem d_PA_isWorld_4 : decode s_PA_isWorld.2.1 4 = .ok (.ifCond .eq 22, 3) := by decide +kernel
theorem d_PA_isWorld_7 : decode s_PA_isWorld.2.1 7 = .ok (.iload_n 1, 1) := by decide +kernel
theorem d_PA_isWorld_8 : decode s_PA_isWorld.2.1 8 = .ok (.ifCond .lt 18, 3) := by decide +kernel
theorem d_PA_isWorld_11 : decode s_PA_isWorld.2.1 11 = .ok (.iload_n 1, 1) := by decide +kernel
theorem d_PA_isWorld_12 : decode s_PA_isWorld.2.1 12 = .ok (.aload_n 0, 1) := by decide +kernel
theorem d_PA_isWorld_13 : decode s_PA_isWorld.2.1 13 = .ok (.getfield 32, 3) := by decide +kernel
theorem d_PA_isWorld_16 : decode s_PA_isWorld.2.1 16 = .ok (.getfield 152, 3) := by decide +kernel
theorem d_PA_isWorld_19 : decode s_PA_isWorld.2.1 19 = .ok (.if_icmp .ge 7, 3) := by decide +kernel
theorem d_PA_isWorld_22 : decode s_PA_isWorld.2.1 22 = .ok (.iconst 1, 1) := by decide +kernel
theorem d_PA_isWorld_23 : decode s_PA_isWorld.2.1 23 = .ok (.goto 4, 3) := by decide +kernel
theorem d_PA_isWorld_26 : decode s_PA_isWorld.2.1 26 = .ok (.iconst 0, 1) := by decide +kernel
theorem d_PA_isWorld_27 : decode s_PA_isWorld.2.1 27 = .ok (.ireturn, 1) := by decide +kernel
theorem d_Atlas_home_0 : decode s_Atlas_home.2.1 0 = .ok (.aload_n 0, 1) := by decide +kernel
theorem d_Atlas_home_1 : decode s_Atlas_home.2.1 1 = .ok (.getfield 68, 3) := by decide +kernel
theorem d_Atlas_home_4 : decode s_Atlas_home.2.1 4 = .ok (.aload_n 0, 1) := by decide +kernel
theorem d_Atlas_home_5 : decode s_Atlas_home.2.1 5 = .ok (.getfield 25, 3) := by decide +kernel
theorem d_Atlas_home_8 : decode s_Atlas_home.2.1 8 = .ok (.iload_n 1, 1) := by decide +kernel
theorem d_Atlas_home_9 : decode s_Atlas_home.2.1 9 = .ok (.laload, 1) := by decide +kernel
theorem d_Atlas_home_10 : decode s_Atlas_home.2.1 10 = .ok (.aload_n 0, 1) := by decide +kernel
theorem d_Atlas_home_11 : decode s_Atlas_home.2.1 11 = .ok (.getfield 15, 3) := by decide +kernel
theorem d_Atlas_home_14 : decode s_Atlas_home.2.1 14 = .ok (.invokevirtual 98, 3) := by decide +kernel
theorem d_Atlas_home_17 : decode s_Atlas_home.2.1 17 = .ok (.aload_n 0, 1) := by decide +kernel
theorem d_Atlas_home_18 : decode s_Atlas_home.2.1 18 = .ok (.getfield 68, 3) := by decide +kernel
theorem d_Atlas_home_21 : decode s_Atlas_home.2.1 21 = .ok (.getfield 144, 3) := by decide +kernel
theorem d_Atlas_home_24 : decode s_Atlas_home.2.1 24 = .ok (.ireturn, 1) := by decide +kernel
theorem d_PA_world_0 : decode s_PA_world.2.1 0 = .ok (.aload_n 0, 1) := by decide +kernel
theorem d_PA_world_1 : decode s_PA_world.2.1 1 = .ok (.iload_n 1, 1) := by decide +kernel
theorem d_PA_world_2 : decode s_PA_world.2.1 2 = .ok (.invokevirtual 194, 3) := by decide +kernel
theorem d_PA_world_5 : decode s_PA_world.2.1 5 = .ok (.ifCond .ne 5, 3) := by decide +kernel
theorem d_PA_world_8 : decode s_PA_world.2.1 8 = .ok (.iconst (-1), 1) := by decide +kernel
theorem d_PA_world_9 : decode s_PA_world.2.1 9 = .ok (.ireturn, 1) := by decide +kernel
theorem d_PA_world_10 : decode s_PA_world.2.1 10 = .ok (.iload_n 2, 1) := by decide +kernel
theorem d_PA_world_11 : decode s_PA_world.2.1 11 = .ok (.tableswitch 122 0 6 #[41, 51, 61, 70, 83, 103, 112], 41) := by decide +kernel
theorem d_PA_world_52 : decode s_PA_world.2.1 52 = .ok (.aload_n 0, 1) := by decide +kernel
theorem d_PA_world_53 : decode s_PA_world.2.1 53 = .ok (.getfield 32, 3) := by decide +kernel
theorem d_PA_world_56 : decode s_PA_world.2.1 56 = .ok (.getfield 158, 3) := by decide +kernel
theorem d_PA_world_59 : decode s_PA_world.2.1 59 = .ok (.iload_n 1, 1) := by decide +kernel
theorem d_PA_world_60 : decode s_PA_world.2.1 60 = .ok (.iaload, 1) := by decide +kernel
theorem d_PA_world_61 : decode s_PA_world.2.1 61 = .ok (.ireturn, 1) := by decide +kernel
theorem d_PA_world_62 : decode s_PA_world.2.1 62 = .ok (.aload_n 0, 1) := by decide +kernel
theorem d_PA_world_63 : decode s_PA_world.2.1 63 = .ok (.getfield 32, 3) := by decide +kernel
theorem d_PA_world_66 : decode s_PA_world.2.1 66 = .ok (.getfield 197, 3) := by decide +kernel
theorem d_PA_world_69 : decode s_PA_world.2.1 69 = .ok (.iload_n 1, 1) := by decide +kernel
theorem d_PA_world_70 : decode s_PA_world.2.1 70 = .ok (.iaload, 1) := by decide +kernel
theorem d_PA_world_71 : decode s_PA_world.2.1 71 = .ok (.ireturn, 1) := by decide +kernel
theorem d_PA_world_72 : decode s_PA_world.2.1 72 = .ok (.aload_n 0, 1) := by decide +kernel
theorem d_PA_world_73 : decode s_PA_world.2.1 73 = .ok (.getfield 32, 3) := by decide +kernel
theorem d_PA_world_76 : decode s_PA_world.2.1 76 = .ok (.iload_n 1, 1) := by decide +kernel
theorem d_PA_world_77 : decode s_PA_world.2.1 77 = .ok (.invokevirtual 200, 3) := by decide +kernel
theorem d_PA_world_80 : decode s_PA_world.2.1 80 = .ok (.ireturn, 1) := by decide +kernel
theorem d_PA_world_81 : decode s_PA_world.2.1 81 = .ok (.aload_n 0, 1) := by decide +kernel
theorem d_PA_world_82 : decode s_PA_world.2.1 82 = .ok (.getfield 32, 3) := by decide +kernel
theorem d_PA_world_85 : decode s_PA_world.2.1 85 = .ok (.getfield 203, 3) := by decide +kernel
theorem d_PA_world_88 : decode s_PA_world.2.1 88 = .ok (.iload_n 1, 1) := by decide +kernel
theorem d_PA_world_89 : decode s_PA_world.2.1 89 = .ok (.baload, 1) := by decide +kernel
theorem d_PA_world_90 : decode s_PA_world.2.1 90 = .ok (.invokestatic 207, 3) := by decide +kernel
theorem d_PA_world_93 : decode s_PA_world.2.1 93 = .ok (.ireturn, 1) := by decide +kernel
theorem d_PA_world_94 : decode s_PA_world.2.1 94 = .ok (.aload_n 0, 1) := by decide +kernel
theorem d_PA_world_95 : decode s_PA_world.2.1 95 = .ok (.getfield 32, 3) := by decide +kernel
theorem d_PA_world_98 : decode s_PA_world.2.1 98 = .ok (.iload_n 1, 1) := by decide +kernel
theorem d_PA_world_99 : decode s_PA_world.2.1 99 = .ok (.invokevirtual 211, 3) := by decide +kernel
theorem d_PA_world_102 : decode s_PA_world.2.1 102 = .ok (.ifCond .ne 7, 3) := by decide +kernel
theorem d_PA_world_105 : decode s_PA_world.2.1 105 = .ok (.iconst 1, 1) := by decide +kernel
theorem d_PA_world_106 : decode s_PA_world.2.1 106 = .ok (.goto 4, 3) := by decide +kernel
theorem d_PA_world_109 : decode s_PA_world.2.1 109 = .ok (.iconst 0, 1) := by decide +kernel
theorem d_PA_world_110 : decode s_PA_world.2.1 110 = .ok (.invokestatic 207, 3) := by decide +kernel
theorem d_PA_world_113 : decode s_PA_world.2.1 113 = .ok (.ireturn, 1) := by decide +kernel
theorem d_PA_world_114 : decode s_PA_world.2.1 114 = .ok (.aload_n 0, 1) := by decide +kernel
theorem d_PA_world_115 : decode s_PA_world.2.1 115 = .ok (.getfield 32, 3) := by decide +kernel
theorem d_PA_world_118 : decode s_PA_world.2.1 118 = .ok (.iload_n 1, 1) := by decide +kernel
theorem d_PA_world_119 : decode s_PA_world.2.1 119 = .ok (.invokevirtual 211, 3) := by decide +kernel
theorem d_PA_world_122 : decode s_PA_world.2.1 122 = .ok (.ireturn, 1) := by decide +kernel
theorem d_PA_world_123 : decode s_PA_world.2.1 123 = .ok (.aload_n 0, 1) := by decide +kernel
theorem d_PA_world_124 : decode s_PA_world.2.1 124 = .ok (.getfield 80, 3) := by decide +kernel
theorem d_PA_world_127 : decode s_PA_world.2.1 127 = .ok (.getfield 214, 3) := by decide +kernel
theorem d_PA_world_130 : decode s_PA_world.2.1 130 = .ok (.iload_n 1, 1) := by decide +kernel
theorem d_PA_world_131 : decode s_PA_world.2.1 131 = .ok (.iaload, 1) := by decide +kernel
theorem d_PA_world_132 : decode s_PA_world.2.1 132 = .ok (.ireturn, 1) := by decide +kernel
theorem d_PA_world_133 : decode s_PA_world.2.1 133 = .ok (.iconst (-1), 1) := by decide +kernel
theorem d_PA_world_134 : decode s_PA_world.2.1 134 = .ok (.ireturn, 1) := by decide +kernel
theorem d_PA_isAgent_0 : decode s_PA_isAgent.2.1 0 = .ok (.aload_n 0, 1) := by decide +kernel
theorem d_PA_isAgent_1 : decode s_PA_isAgent.2.1 1 = .ok (.getfield 84, 3) := by decide +kernel
theorem d_PA_isAgent_4 : decode s_PA_isAgent.2.1 4 = .ok (.ifCond .eq 22, 3) := by decide +kernel
theorem d_PA_isAgent_7 : decode s_PA_isAgent.2.1 7 = .ok (.iload_n 1, 1) := by decide +kernel
theorem d_PA_isAgent_8 : decode s_PA_isAgent.2.1 8 = .ok (.ifCond .lt 18, 3) := by decide +kernel
theorem d_PA_isAgent_11 : decode s_PA_isAgent.2.1 11 = .ok (.iload_n 1, 1) := by decide +kernel
theorem d_PA_isAgent_12 : decode s_PA_isAgent.2.1 12 = .ok (.aload_n 0, 1) := by decide +kernel
theorem d_PA_isAgent_13 : decode s_PA_isAgent.2.1 13 = .ok (.getfield 71, 3) := by decide +kernel
theorem d_PA_isAgent_16 : decode s_PA_isAgent.2.1 16 = .ok (.getfield 143, 3) := by decide +kernel
theorem d_PA_isAgent_19 : decode s_PA_isAgent.2.1 19 = .ok (.if_icmp .ge 7, 3) := by decide +kernel
theorem d_PA_isAgent_22 : decode s_PA_isAgent.2.1 22 = .ok (.iconst 1, 1) := by decide +kernel
theorem d_PA_isAgent_23 : decode s_PA_isAgent.2.1 23 = .ok (.goto 4, 3) := by decide +kernel
theorem d_PA_isAgent_26 : decode s_PA_isAgent.2.1 26 = .ok (.iconst 0, 1) := by decide +kernel
theorem d_PA_isAgent_27 : decode s_PA_isAgent.2.1 27 = .ok (.ireturn, 1) := by decide +kernel
theorem d_PA_agent_0 : decode s_PA_agent.2.1 0 = .ok (.aload_n 0, 1) := by decide +kernel
theorem d_PA_agent_1 : decode s_PA_agent.2.1 1 = .ok (.iload_n 1, 1) := by decide +kernel
theorem d_PA_agent_2 : decode s_PA_agent.2.1 2 = .ok (.invokevirtual 194, 3) := by decide +kernel
theorem d_PA_agent_5 : decode s_PA_agent.2.1 5 = .ok (.ifCond .eq 11, 3) := by decide +kernel
theorem d_PA_agent_8 : decode s_PA_agent.2.1 8 = .ok (.aload_n 0, 1) := by decide +kernel
theorem d_PA_agent_9 : decode s_PA_agent.2.1 9 = .ok (.iload_n 2, 1) := by decide +kernel
theorem d_PA_agent_10 : decode s_PA_agent.2.1 10 = .ok (.invokevirtual 217, 3) := by decide +kernel
theorem d_PA_agent_13 : decode s_PA_agent.2.1 13 = .ok (.ifCond .ne 5, 3) := by decide +kernel
theorem d_PA_agent_16 : decode s_PA_agent.2.1 16 = .ok (.iconst (-1), 1) := by decide +kernel
theorem d_PA_agent_17 : decode s_PA_agent.2.1 17 = .ok (.ireturn, 1) := by decide +kernel
theorem d_PA_agent_18 : decode s_PA_agent.2.1 18 = .ok (.iload_n 1, 1) := by decide +kernel
theorem d_PA_agent_19 : decode s_PA_agent.2.1 19 = .ok (.iconst 4, 1) := by decide +kernel
theorem d_PA_agent_20 : decode s_PA_agent.2.1 20 = .ok (.imul, 1) := by decide +kernel
theorem d_PA_agent_21 : decode s_PA_agent.2.1 21 = .ok (.iload_n 2, 1) := by decide +kernel
theorem d_PA_agent_22 : decode s_PA_agent.2.1 22 = .ok (.iadd, 1) := by decide +kernel
theorem d_PA_agent_23 : decode s_PA_agent.2.1 23 = .ok (.istore 4, 2) := by decide +kernel
theorem d_PA_agent_25 : decode s_PA_agent.2.1 25 = .ok (.iload_n 3, 1) := by decide +kernel
theorem d_PA_agent_26 : decode s_PA_agent.2.1 26 = .ok (.lookupswitch 54 #[(4, 26), (5, 40)], 26) := by decide +kernel
theorem d_PA_agent_52 : decode s_PA_agent.2.1 52 = .ok (.aload_n 0, 1) := by decide +kernel
theorem d_PA_agent_53 : decode s_PA_agent.2.1 53 = .ok (.getfield 80, 3) := by decide +kernel
theorem d_PA_agent_56 : decode s_PA_agent.2.1 56 = .ok (.getfield 220, 3) := by decide +kernel
theorem d_PA_agent_59 : decode s_PA_agent.2.1 59 = .ok (.iload 4, 2) := by decide +kernel
theorem d_PA_agent_61 : decode s_PA_agent.2.1 61 = .ok (.baload, 1) := by decide +kernel
theorem d_PA_agent_62 : decode s_PA_agent.2.1 62 = .ok (.invokestatic 207, 3) := by decide +kernel
theorem d_PA_agent_65 : decode s_PA_agent.2.1 65 = .ok (.ireturn, 1) := by decide +kernel
theorem d_PA_agent_66 : decode s_PA_agent.2.1 66 = .ok (.aload_n 0, 1) := by decide +kernel
theorem d_PA_agent_67 : decode s_PA_agent.2.1 67 = .ok (.getfield 80, 3) := by decide +kernel
theorem d_PA_agent_70 : decode s_PA_agent.2.1 70 = .ok (.getfield 223, 3) := by decide +kernel
theorem d_PA_agent_73 : decode s_PA_agent.2.1 73 = .ok (.iload 4, 2) := by decide +kernel
theorem d_PA_agent_75 : decode s_PA_agent.2.1 75 = .ok (.baload, 1) := by decide +kernel
theorem d_PA_agent_76 : decode s_PA_agent.2.1 76 = .ok (.invokestatic 207, 3) := by decide +kernel
theorem d_PA_agent_79 : decode s_PA_agent.2.1 79 = .ok (.ireturn, 1) := by decide +kernel
theorem d_PA_agent_80 : decode s_PA_agent.2.1 80 = .ok (.aload_n 0, 1) := by decide +kernel
theorem d_PA_agent_81 : decode s_PA_agent.2.1 81 = .ok (.getfield 32, 3) := by decide +kernel
theorem d_PA_agent_84 : decode s_PA_agent.2.1 84 = .ok (.getfield 226, 3) := by decide +kernel
theorem d_PA_agent_87 : decode s_PA_agent.2.1 87 = .ok (.iload 4, 2) := by decide +kernel
theorem d_PA_agent_89 : decode s_PA_agent.2.1 89 = .ok (.iaload, 1) := by decide +kernel
theorem d_PA_agent_90 : decode s_PA_agent.2.1 90 = .ok (.iload_n 3, 1) := by decide +kernel
theorem d_PA_agent_91 : decode s_PA_agent.2.1 91 = .ok (.invokestatic 229, 3) := by decide +kernel
theorem d_PA_agent_94 : decode s_PA_agent.2.1 94 = .ok (.ireturn, 1) := by decide +kernel
theorem d_Atlas_leading_0 : decode s_Atlas_leading.2.1 0 = .ok (.aload_n 0, 1) := by decide +kernel
theorem d_Atlas_leading_1 : decode s_Atlas_leading.2.1 1 = .ok (.getfield 52, 3) := by decide +kernel
theorem d_Atlas_leading_4 : decode s_Atlas_leading.2.1 4 = .ok (.iload_n 1, 1) := by decide +kernel
theorem d_Atlas_leading_5 : decode s_Atlas_leading.2.1 5 = .ok (.iaload, 1) := by decide +kernel
theorem d_Atlas_leading_6 : decode s_Atlas_leading.2.1 6 = .ok (.istore 4, 2) := by decide +kernel
theorem d_Atlas_leading_8 : decode s_Atlas_leading.2.1 8 = .ok (.iload 4, 2) := by decide +kernel
theorem d_Atlas_leading_10 : decode s_Atlas_leading.2.1 10 = .ok (.aload_n 0, 1) := by decide +kernel
theorem d_Atlas_leading_11 : decode s_Atlas_leading.2.1 11 = .ok (.getfield 52, 3) := by decide +kernel
theorem d_Atlas_leading_14 : decode s_Atlas_leading.2.1 14 = .ok (.iload_n 1, 1) := by decide +kernel
theorem d_Atlas_leading_15 : decode s_Atlas_leading.2.1 15 = .ok (.iconst 1, 1) := by decide +kernel
theorem d_Atlas_leading_16 : decode s_Atlas_leading.2.1 16 = .ok (.iadd, 1) := by decide +kernel
theorem d_Atlas_leading_17 : decode s_Atlas_leading.2.1 17 = .ok (.iaload, 1) := by decide +kernel
theorem d_Atlas_leading_18 : decode s_Atlas_leading.2.1 18 = .ok (.if_icmp .ge 36, 3) := by decide +kernel
theorem d_Atlas_leading_21 : decode s_Atlas_leading.2.1 21 = .ok (.aload_n 0, 1) := by decide +kernel
theorem d_Atlas_leading_22 : decode s_Atlas_leading.2.1 22 = .ok (.iload 4, 2) := by decide +kernel
theorem d_Atlas_leading_24 : decode s_Atlas_leading.2.1 24 = .ok (.invokevirtual 147, 3) := by decide +kernel
theorem d_Atlas_leading_27 : decode s_Atlas_leading.2.1 27 = .ok (.iload_n 2, 1) := by decide +kernel
theorem d_Atlas_leading_28 : decode s_Atlas_leading.2.1 28 = .ok (.if_icmp .ne 20, 3) := by decide +kernel
theorem d_Atlas_leading_31 : decode s_Atlas_leading.2.1 31 = .ok (.aload_n 0, 1) := by decide +kernel
theorem d_Atlas_leading_32 : decode s_Atlas_leading.2.1 32 = .ok (.iload 4, 2) := by decide +kernel
theorem d_Atlas_leading_34 : decode s_Atlas_leading.2.1 34 = .ok (.invokevirtual 151, 3) := by decide +kernel
theorem d_Atlas_leading_37 : decode s_Atlas_leading.2.1 37 = .ok (.iload_n 3, 1) := by decide +kernel
theorem d_Atlas_leading_38 : decode s_Atlas_leading.2.1 38 = .ok (.if_icmp .ne 10, 3) := by decide +kernel
theorem d_Atlas_leading_41 : decode s_Atlas_leading.2.1 41 = .ok (.aload_n 0, 1) := by decide +kernel
theorem d_Atlas_leading_42 : decode s_Atlas_leading.2.1 42 = .ok (.iload 4, 2) := by decide +kernel
theorem d_Atlas_leading_44 : decode s_Atlas_leading.2.1 44 = .ok (.invokevirtual 154, 3) := by decide +kernel
theorem d_Atlas_leading_47 : decode s_Atlas_leading.2.1 47 = .ok (.ireturn, 1) := by decide +kernel
theorem d_Atlas_leading_48 : decode s_Atlas_leading.2.1 48 = .ok (.iinc 4 1, 3) := by decide +kernel
theorem d_Atlas_leading_51 : decode s_Atlas_leading.2.1 51 = .ok (.goto (-43), 3) := by decide +kernel
theorem d_Atlas_leading_54 : decode s_Atlas_leading.2.1 54 = .ok (.iconst (-1), 1) := by decide +kernel
theorem d_Atlas_leading_55 : decode s_Atlas_leading.2.1 55 = .ok (.ireturn, 1) := by decide +kernel
theorem d_PA_leads_0 : decode s_PA_leads.2.1 0 = .ok (.aload_n 0, 1) := by decide +kernel
theorem d_PA_leads_1 : decode s_PA_leads.2.1 1 = .ok (.iload_n 1, 1) := by decide +kernel
theorem d_PA_leads_2 : decode s_PA_leads.2.1 2 = .ok (.invokevirtual 194, 3) := by decide +kernel
theorem d_PA_leads_5 : decode s_PA_leads.2.1 5 = .ok (.ifCond .eq 19, 3) := by decide +kernel
theorem d_PA_leads_8 : decode s_PA_leads.2.1 8 = .ok (.aload_n 0, 1) := by decide +kernel
theorem d_PA_leads_9 : decode s_PA_leads.2.1 9 = .ok (.iload_n 2, 1) := by decide +kernel
theorem d_PA_leads_10 : decode s_PA_leads.2.1 10 = .ok (.invokevirtual 181, 3) := by decide +kernel
theorem d_PA_leads_13 : decode s_PA_leads.2.1 13 = .ok (.ifCond .eq 11, 3) := by decide +kernel
theorem d_PA_leads_16 : decode s_PA_leads.2.1 16 = .ok (.aload_n 0, 1) := by decide +kernel
theorem d_PA_leads_17 : decode s_PA_leads.2.1 17 = .ok (.iload_n 3, 1) := by decide +kernel
theorem d_PA_leads_18 : decode s_PA_leads.2.1 18 = .ok (.invokevirtual 217, 3) := by decide +kernel
theorem d_PA_leads_21 : decode s_PA_leads.2.1 21 = .ok (.ifCond .ne 5, 3) := by decide +kernel
theorem d_PA_leads_24 : decode s_PA_leads.2.1 24 = .ok (.iconst (-1), 1) := by decide +kernel
theorem d_PA_leads_25 : decode s_PA_leads.2.1 25 = .ok (.ireturn, 1) := by decide +kernel
theorem d_PA_leads_26 : decode s_PA_leads.2.1 26 = .ok (.aload_n 0, 1) := by decide +kernel
theorem d_PA_leads_27 : decode s_PA_leads.2.1 27 = .ok (.getfield 32, 3) := by decide +kernel
theorem d_PA_leads_30 : decode s_PA_leads.2.1 30 = .ok (.iload_n 1, 1) := by decide +kernel
theorem d_PA_leads_31 : decode s_PA_leads.2.1 31 = .ok (.iload_n 2, 1) := by decide +kernel
theorem d_PA_leads_32 : decode s_PA_leads.2.1 32 = .ok (.iload_n 3, 1) := by decide +kernel
theorem d_PA_leads_33 : decode s_PA_leads.2.1 33 = .ok (.invokevirtual 232, 3) := by decide +kernel
theorem d_PA_leads_36 : decode s_PA_leads.2.1 36 = .ok (.ireturn, 1) := by decide +kernel
theorem d_Atlas_stepTo_0 : decode s_Atlas_stepTo.2.1 0 = .ok (.iload_n 1, 1) := by decide +kernel
theorem d_Atlas_stepTo_1 : decode s_Atlas_stepTo.2.1 1 = .ok (.istore_n 3, 1) := by decide +kernel
theorem d_Atlas_stepTo_2 : decode s_Atlas_stepTo.2.1 2 = .ok (.iconst 0, 1) := by decide +kernel
theorem d_Atlas_stepTo_3 : decode s_Atlas_stepTo.2.1 3 = .ok (.istore 4, 2) := by decide +kernel
theorem d_Atlas_stepTo_5 : decode s_Atlas_stepTo.2.1 5 = .ok (.iload 4, 2) := by decide +kernel
theorem d_Atlas_stepTo_7 : decode s_Atlas_stepTo.2.1 7 = .ok (.iload_n 2, 1) := by decide +kernel
theorem d_Atlas_stepTo_8 : decode s_Atlas_stepTo.2.1 8 = .ok (.if_icmp .ge 26, 3) := by decide +kernel
theorem d_Atlas_stepTo_11 : decode s_Atlas_stepTo.2.1 11 = .ok (.aload_n 0, 1) := by decide +kernel
theorem d_Atlas_stepTo_12 : decode s_Atlas_stepTo.2.1 12 = .ok (.getfield 33, 3) := by decide +kernel
theorem d_Atlas_stepTo_15 : decode s_Atlas_stepTo.2.1 15 = .ok (.iload_n 3, 1) := by decide +kernel
theorem d_Atlas_stepTo_16 : decode s_Atlas_stepTo.2.1 16 = .ok (.iaload, 1) := by decide +kernel
theorem d_Atlas_stepTo_17 : decode s_Atlas_stepTo.2.1 17 = .ok (.iconst (-1), 1) := by decide +kernel
theorem d_Atlas_stepTo_18 : decode s_Atlas_stepTo.2.1 18 = .ok (.if_icmp .eq 16, 3) := by decide +kernel
theorem d_Atlas_stepTo_21 : decode s_Atlas_stepTo.2.1 21 = .ok (.aload_n 0, 1) := by decide +kernel
theorem d_Atlas_stepTo_22 : decode s_Atlas_stepTo.2.1 22 = .ok (.getfield 33, 3) := by decide +kernel
theorem d_Atlas_stepTo_25 : decode s_Atlas_stepTo.2.1 25 = .ok (.iload_n 3, 1) := by decide +kernel
theorem d_Atlas_stepTo_26 : decode s_Atlas_stepTo.2.1 26 = .ok (.iaload, 1) := by decide +kernel
theorem d_Atlas_stepTo_27 : decode s_Atlas_stepTo.2.1 27 = .ok (.istore_n 3, 1) := by decide +kernel
theorem d_Atlas_stepTo_28 : decode s_Atlas_stepTo.2.1 28 = .ok (.iinc 4 1, 3) := by decide +kernel
theorem d_Atlas_stepTo_31 : decode s_Atlas_stepTo.2.1 31 = .ok (.goto (-26), 3) := by decide +kernel
theorem d_Atlas_stepTo_34 : decode s_Atlas_stepTo.2.1 34 = .ok (.aload_n 0, 1) := by decide +kernel
theorem d_Atlas_stepTo_35 : decode s_Atlas_stepTo.2.1 35 = .ok (.getfield 36, 3) := by decide +kernel
theorem d_Atlas_stepTo_38 : decode s_Atlas_stepTo.2.1 38 = .ok (.iload_n 3, 1) := by decide +kernel
theorem d_Atlas_stepTo_39 : decode s_Atlas_stepTo.2.1 39 = .ok (.iaload, 1) := by decide +kernel
theorem d_Atlas_stepTo_40 : decode s_Atlas_stepTo.2.1 40 = .ok (.ireturn, 1) := by decide +kernel
theorem d_PA_way_0 : decode s_PA_way.2.1 0 = .ok (.aload_n 0, 1) := by decide +kernel
theorem d_PA_way_1 : decode s_PA_way.2.1 1 = .ok (.iload_n 1, 1) := by decide +kernel
theorem d_PA_way_2 : decode s_PA_way.2.1 2 = .ok (.invokevirtual 194, 3) := by decide +kernel
theorem d_PA_way_5 : decode s_PA_way.2.1 5 = .ok (.ifCond .ne 5, 3) := by decide +kernel
theorem d_PA_way_8 : decode s_PA_way.2.1 8 = .ok (.iconst (-1), 1) := by decide +kernel
theorem d_PA_way_9 : decode s_PA_way.2.1 9 = .ok (.ireturn, 1) := by decide +kernel
theorem d_PA_way_10 : decode s_PA_way.2.1 10 = .ok (.aload_n 0, 1) := by decide +kernel
theorem d_PA_way_11 : decode s_PA_way.2.1 11 = .ok (.getfield 32, 3) := by decide +kernel
theorem d_PA_way_14 : decode s_PA_way.2.1 14 = .ok (.getfield 158, 3) := by decide +kernel
theorem d_PA_way_17 : decode s_PA_way.2.1 17 = .ok (.iload_n 1, 1) := by decide +kernel
theorem d_PA_way_18 : decode s_PA_way.2.1 18 = .ok (.iaload, 1) := by decide +kernel
theorem d_PA_way_19 : decode s_PA_way.2.1 19 = .ok (.istore 4, 2) := by decide +kernel
theorem d_PA_way_21 : decode s_PA_way.2.1 21 = .ok (.iload_n 2, 1) := by decide +kernel
theorem d_PA_way_22 : decode s_PA_way.2.1 22 = .ok (.iconst (-1), 1) := by decide +kernel
theorem d_PA_way_23 : decode s_PA_way.2.1 23 = .ok (.if_icmp .ne 14, 3) := by decide +kernel
theorem d_PA_way_26 : decode s_PA_way.2.1 26 = .ok (.iload_n 3, 1) := by decide +kernel
theorem d_PA_way_27 : decode s_PA_way.2.1 27 = .ok (.ifCond .ne 8, 3) := by decide +kernel
theorem d_PA_way_30 : decode s_PA_way.2.1 30 = .ok (.iload 4, 2) := by decide +kernel
theorem d_PA_way_32 : decode s_PA_way.2.1 32 = .ok (.goto 4, 3) := by decide +kernel
theorem d_PA_way_35 : decode s_PA_way.2.1 35 = .ok (.iconst (-1), 1) := by decide +kernel
theorem d_PA_way_36 : decode s_PA_way.2.1 36 = .ok (.ireturn, 1) := by decide +kernel
theorem d_PA_way_37 : decode s_PA_way.2.1 37 = .ok (.iload_n 2, 1) := by decide +kernel
theorem d_PA_way_38 : decode s_PA_way.2.1 38 = .ok (.ifCond .lt 9, 3) := by decide +kernel
theorem d_PA_way_41 : decode s_PA_way.2.1 41 = .ok (.iload_n 2, 1) := by decide +kernel
theorem d_PA_way_42 : decode s_PA_way.2.1 42 = .ok (.iload 4, 2) := by decide +kernel
theorem d_PA_way_44 : decode s_PA_way.2.1 44 = .ok (.if_icmp .lt 5, 3) := by decide +kernel
theorem d_PA_way_47 : decode s_PA_way.2.1 47 = .ok (.iconst (-1), 1) := by decide +kernel
theorem d_PA_way_48 : decode s_PA_way.2.1 48 = .ok (.ireturn, 1) := by decide +kernel
theorem d_PA_way_49 : decode s_PA_way.2.1 49 = .ok (.aload_n 0, 1) := by decide +kernel
theorem d_PA_way_50 : decode s_PA_way.2.1 50 = .ok (.getfield 32, 3) := by decide +kernel
theorem d_PA_way_53 : decode s_PA_way.2.1 53 = .ok (.iload_n 1, 1) := by decide +kernel
theorem d_PA_way_54 : decode s_PA_way.2.1 54 = .ok (.iload 4, 2) := by decide +kernel
theorem d_PA_way_56 : decode s_PA_way.2.1 56 = .ok (.iconst 1, 1) := by decide +kernel
theorem d_PA_way_57 : decode s_PA_way.2.1 57 = .ok (.isub, 1) := by decide +kernel
theorem d_PA_way_58 : decode s_PA_way.2.1 58 = .ok (.iload_n 2, 1) := by decide +kernel
theorem d_PA_way_59 : decode s_PA_way.2.1 59 = .ok (.isub, 1) := by decide +kernel
theorem d_PA_way_60 : decode s_PA_way.2.1 60 = .ok (.invokevirtual 236, 3) := by decide +kernel
theorem d_PA_way_63 : decode s_PA_way.2.1 63 = .ok (.istore 5, 2) := by decide +kernel
theorem d_PA_way_65 : decode s_PA_way.2.1 65 = .ok (.iload_n 3, 1) := by decide +kernel
theorem d_PA_way_66 : decode s_PA_way.2.1 66 = .ok (.ifCond .ne 8, 3) := by decide +kernel
theorem d_PA_way_69 : decode s_PA_way.2.1 69 = .ok (.iload 5, 2) := by decide +kernel
theorem d_PA_way_71 : decode s_PA_way.2.1 71 = .ok (.iconst 4, 1) := by decide +kernel
theorem d_PA_way_72 : decode s_PA_way.2.1 72 = .ok (.idiv, 1) := by decide +kernel
theorem d_PA_way_73 : decode s_PA_way.2.1 73 = .ok (.ireturn, 1) := by decide +kernel
theorem d_PA_way_74 : decode s_PA_way.2.1 74 = .ok (.iload_n 3, 1) := by decide +kernel
theorem d_PA_way_75 : decode s_PA_way.2.1 75 = .ok (.iconst 1, 1) := by decide +kernel
theorem d_PA_way_76 : decode s_PA_way.2.1 76 = .ok (.if_icmp .ne 10, 3) := by decide +kernel
theorem d_PA_way_79 : decode s_PA_way.2.1 79 = .ok (.iload 5, 2) := by decide +kernel
theorem d_PA_way_81 : decode s_PA_way.2.1 81 = .ok (.iconst 4, 1) := by decide +kernel
theorem d_PA_way_82 : decode s_PA_way.2.1 82 = .ok (.irem, 1) := by decide +kernel
theorem d_PA_way_83 : decode s_PA_way.2.1 83 = .ok (.goto 4, 3) := by decide +kernel
theorem d_PA_way_86 : decode s_PA_way.2.1 86 = .ok (.iconst (-1), 1) := by decide +kernel
theorem d_PA_way_87 : decode s_PA_way.2.1 87 = .ok (.ireturn, 1) := by decide +kernel
theorem d_Atlas_firstBad_0 : decode s_Atlas_firstBad.2.1 0 = .ok (.iconst 0, 1) := by decide +kernel
theorem d_Atlas_firstBad_1 : decode s_Atlas_firstBad.2.1 1 = .ok (.istore_n 1, 1) := by decide +kernel
theorem d_Atlas_firstBad_2 : decode s_Atlas_firstBad.2.1 2 = .ok (.iload_n 1, 1) := by decide +kernel
theorem d_Atlas_firstBad_3 : decode s_Atlas_firstBad.2.1 3 = .ok (.aload_n 0, 1) := by decide +kernel
theorem d_Atlas_firstBad_4 : decode s_Atlas_firstBad.2.1 4 = .ok (.getfield 9, 3) := by decide +kernel
theorem d_Atlas_firstBad_7 : decode s_Atlas_firstBad.2.1 7 = .ok (.if_icmp .ge 20, 3) := by decide +kernel
theorem d_Atlas_firstBad_10 : decode s_Atlas_firstBad.2.1 10 = .ok (.aload_n 0, 1) := by decide +kernel
theorem d_Atlas_firstBad_11 : decode s_Atlas_firstBad.2.1 11 = .ok (.getfield 42, 3) := by decide +kernel
theorem d_Atlas_firstBad_14 : decode s_Atlas_firstBad.2.1 14 = .ok (.iload_n 1, 1) := by decide +kernel
theorem d_Atlas_firstBad_15 : decode s_Atlas_firstBad.2.1 15 = .ok (.baload, 1) := by decide +kernel
theorem d_Atlas_firstBad_16 : decode s_Atlas_firstBad.2.1 16 = .ok (.ifCond .eq 5, 3) := by decide +kernel
theorem d_Atlas_firstBad_19 : decode s_Atlas_firstBad.2.1 19 = .ok (.iload_n 1, 1) := by decide +kernel
theorem d_Atlas_firstBad_20 : decode s_Atlas_firstBad.2.1 20 = .ok (.ireturn, 1) := by decide +kernel
theorem d_Atlas_firstBad_21 : decode s_Atlas_firstBad.2.1 21 = .ok (.iinc 1 1, 3) := by decide +kernel
theorem d_Atlas_firstBad_24 : decode s_Atlas_firstBad.2.1 24 = .ok (.goto (-22), 3) := by decide +kernel
theorem d_Atlas_firstBad_27 : decode s_Atlas_firstBad.2.1 27 = .ok (.iconst (-1), 1) := by decide +kernel
theorem d_Atlas_firstBad_28 : decode s_Atlas_firstBad.2.1 28 = .ok (.ireturn, 1) := by decide +kernel
theorem d_Atlas_firstStuck_0 : decode s_Atlas_firstStuck.2.1 0 = .ok (.iconst 0, 1) := by decide +kernel
theorem d_Atlas_firstStuck_1 : decode s_Atlas_firstStuck.2.1 1 = .ok (.istore_n 1, 1) := by decide +kernel
theorem d_Atlas_firstStuck_2 : decode s_Atlas_firstStuck.2.1 2 = .ok (.iload_n 1, 1) := by decide +kernel
theorem d_Atlas_firstStuck_3 : decode s_Atlas_firstStuck.2.1 3 = .ok (.aload_n 0, 1) := by decide +kernel
theorem d_Atlas_firstStuck_4 : decode s_Atlas_firstStuck.2.1 4 = .ok (.getfield 9, 3) := by decide +kernel
theorem d_Atlas_firstStuck_7 : decode s_Atlas_firstStuck.2.1 7 = .ok (.if_icmp .ge 19, 3) := by decide +kernel
theorem d_Atlas_firstStuck_10 : decode s_Atlas_firstStuck.2.1 10 = .ok (.aload_n 0, 1) := by decide +kernel
theorem d_Atlas_firstStuck_11 : decode s_Atlas_firstStuck.2.1 11 = .ok (.iload_n 1, 1) := by decide +kernel
theorem d_Atlas_firstStuck_12 : decode s_Atlas_firstStuck.2.1 12 = .ok (.invokevirtual 157, 3) := by decide +kernel
theorem d_Atlas_firstStuck_15 : decode s_Atlas_firstStuck.2.1 15 = .ok (.ifCond .ne 5, 3) := by decide +kernel
theorem d_Atlas_firstStuck_18 : decode s_Atlas_firstStuck.2.1 18 = .ok (.iload_n 1, 1) := by decide +kernel
theorem d_Atlas_firstStuck_19 : decode s_Atlas_firstStuck.2.1 19 = .ok (.ireturn, 1) := by decide +kernel
theorem d_Atlas_firstStuck_20 : decode s_Atlas_firstStuck.2.1 20 = .ok (.iinc 1 1, 3) := by decide +kernel
theorem d_Atlas_firstStuck_23 : decode s_Atlas_firstStuck.2.1 23 = .ok (.goto (-21), 3) := by decide +kernel
theorem d_Atlas_firstStuck_26 : decode s_Atlas_firstStuck.2.1 26 = .ok (.iconst (-1), 1) := by decide +kernel
theorem d_Atlas_firstStuck_27 : decode s_Atlas_firstStuck.2.1 27 = .ok (.ireturn, 1) := by decide +kernel
theorem d_Study_firstWith_0 : decode s_Study_firstWith.2.1 0 = .ok (.iconst 0, 1) := by decide +kernel
theorem d_Study_firstWith_1 : decode s_Study_firstWith.2.1 1 = .ok (.istore_n 2, 1) := by decide +kernel
theorem d_Study_firstWith_2 : decode s_Study_firstWith.2.1 2 = .ok (.iload_n 2, 1) := by decide +kernel
theorem d_Study_firstWith_3 : decode s_Study_firstWith.2.1 3 = .ok (.aload_n 0, 1) := by decide +kernel
theorem d_Study_firstWith_4 : decode s_Study_firstWith.2.1 4 = .ok (.getfield 53, 3) := by decide +kernel
theorem d_Study_firstWith_7 : decode s_Study_firstWith.2.1 7 = .ok (.getfield 103, 3) := by decide +kernel
theorem d_Study_firstWith_10 : decode s_Study_firstWith.2.1 10 = .ok (.iconst 4, 1) := by decide +kernel
theorem d_Study_firstWith_11 : decode s_Study_firstWith.2.1 11 = .ok (.imul, 1) := by decide +kernel
theorem d_Study_firstWith_12 : decode s_Study_firstWith.2.1 12 = .ok (.if_icmp .ge 19, 3) := by decide +kernel
theorem d_Study_firstWith_15 : decode s_Study_firstWith.2.1 15 = .ok (.aload_n 1, 1) := by decide +kernel
theorem d_Study_firstWith_16 : decode s_Study_firstWith.2.1 16 = .ok (.iload_n 2, 1) := by decide +kernel
theorem d_Study_firstWith_17 : decode s_Study_firstWith.2.1 17 = .ok (.baload, 1) := by decide +kernel
theorem d_Study_firstWith_18 : decode s_Study_firstWith.2.1 18 = .ok (.ifCond .eq 7, 3) := by decide +kernel
theorem d_Study_firstWith_21 : decode s_Study_firstWith.2.1 21 = .ok (.iload_n 2, 1) := by decide +kernel
theorem d_Study_firstWith_22 : decode s_Study_firstWith.2.1 22 = .ok (.iconst 4, 1) := by decide +kernel
theorem d_Study_firstWith_23 : decode s_Study_firstWith.2.1 23 = .ok (.idiv, 1) := by decide +kernel
theorem d_Study_firstWith_24 : decode s_Study_firstWith.2.1 24 = .ok (.ireturn, 1) := by decide +kernel
theorem d_Study_firstWith_25 : decode s_Study_firstWith.2.1 25 = .ok (.iinc 2 1, 3) := by decide +kernel
theorem d_Study_firstWith_28 : decode s_Study_firstWith.2.1 28 = .ok (.goto (-26), 3) := by decide +kernel
theorem d_Study_firstWith_31 : decode s_Study_firstWith.2.1 31 = .ok (.iconst (-1), 1) := by decide +kernel
theorem d_Study_firstWith_32 : decode s_Study_firstWith.2.1 32 = .ok (.ireturn, 1) := by decide +kernel
theorem d_PA_first_0 : decode s_PA_first.2.1 0 = .ok (.aload_n 0, 1) := by decide +kernel
theorem d_PA_first_1 : decode s_PA_first.2.1 1 = .ok (.getfield 84, 3) := by decide +kernel
theorem d_PA_first_4 : decode s_PA_first.2.1 4 = .ok (.ifCond .ne 5, 3) := by decide +kernel
theorem d_PA_first_7 : decode s_PA_first.2.1 7 = .ok (.iconst (-1), 1) := by decide +kernel
theorem d_PA_first_8 : decode s_PA_first.2.1 8 = .ok (.ireturn, 1) := by decide +kernel
theorem d_PA_first_9 : decode s_PA_first.2.1 9 = .ok (.iload_n 1, 1) := by decide +kernel
theorem d_PA_first_10 : decode s_PA_first.2.1 10 = .ok (.tableswitch 76 0 3 #[30, 38, 46, 61], 30) := by decide +kernel
theorem d_PA_first_40 : decode s_PA_first.2.1 40 = .ok (.aload_n 0, 1) := by decide +kernel
theorem d_PA_first_41 : decode s_PA_first.2.1 41 = .ok (.getfield 32, 3) := by decide +kernel
theorem d_PA_first_44 : decode s_PA_first.2.1 44 = .ok (.invokevirtual 239, 3) := by decide +kernel
theorem d_PA_first_47 : decode s_PA_first.2.1 47 = .ok (.ireturn, 1) := by decide +kernel
theorem d_PA_first_48 : decode s_PA_first.2.1 48 = .ok (.aload_n 0, 1) := by decide +kernel
theorem d_PA_first_49 : decode s_PA_first.2.1 49 = .ok (.getfield 32, 3) := by decide +kernel
theorem d_PA_first_52 : decode s_PA_first.2.1 52 = .ok (.invokevirtual 242, 3) := by decide +kernel
theorem d_PA_first_55 : decode s_PA_first.2.1 55 = .ok (.ireturn, 1) := by decide +kernel
theorem d_PA_first_56 : decode s_PA_first.2.1 56 = .ok (.aload_n 0, 1) := by decide +kernel
theorem d_PA_first_57 : decode s_PA_first.2.1 57 = .ok (.getfield 80, 3) := by decide +kernel
theorem d_PA_first_60 : decode s_PA_first.2.1 60 = .ok (.aload_n 0, 1) := by decide +kernel
theorem d_PA_first_61 : decode s_PA_first.2.1 61 = .ok (.getfield 80, 3) := by decide +kernel
theorem d_PA_first_64 : decode s_PA_first.2.1 64 = .ok (.getfield 220, 3) := by decide +kernel
theorem d_PA_first_67 : decode s_PA_first.2.1 67 = .ok (.invokevirtual 245, 3) := by decide +kernel
theorem d_PA_first_70 : decode s_PA_first.2.1 70 = .ok (.ireturn, 1) := by decide +kernel
theorem d_PA_first_71 : decode s_PA_first.2.1 71 = .ok (.aload_n 0, 1) := by decide +kernel
theorem d_PA_first_72 : decode s_PA_first.2.1 72 = .ok (.getfield 80, 3) := by decide +kernel
theorem d_PA_first_75 : decode s_PA_first.2.1 75 = .ok (.aload_n 0, 1) := by decide +kernel
theorem d_PA_first_76 : decode s_PA_first.2.1 76 = .ok (.getfield 80, 3) := by decide +kernel
theorem d_PA_first_79 : decode s_PA_first.2.1 79 = .ok (.getfield 223, 3) := by decide +kernel
theorem d_PA_first_82 : decode s_PA_first.2.1 82 = .ok (.invokevirtual 245, 3) := by decide +kernel
theorem d_PA_first_85 : decode s_PA_first.2.1 85 = .ok (.ireturn, 1) := by decide +kernel
theorem d_PA_first_86 : decode s_PA_first.2.1 86 = .ok (.iconst (-1), 1) := by decide +kernel
theorem d_PA_first_87 : decode s_PA_first.2.1 87 = .ok (.ireturn, 1) := by decide +kernel
theorem d_PA_part_0 : decode s_PA_part.2.1 0 = .ok (.aload_n 0, 1) := by decide +kernel
theorem d_PA_part_1 : decode s_PA_part.2.1 1 = .ok (.getfield 84, 3) := by decide +kernel
theorem d_PA_part_4 : decode s_PA_part.2.1 4 = .ok (.ifCond .eq 18, 3) := by decide +kernel
theorem d_PA_part_7 : decode s_PA_part.2.1 7 = .ok (.iload_n 1, 1) := by decide +kernel
theorem d_PA_part_8 : decode s_PA_part.2.1 8 = .ok (.ifCond .lt 14, 3) := by decide +kernel
theorem d_PA_part_11 : decode s_PA_part.2.1 11 = .ok (.iload_n 1, 1) := by decide +kernel
theorem d_PA_part_12 : decode s_PA_part.2.1 12 = .ok (.aload_n 0, 1) := by decide +kernel
theorem d_PA_part_13 : decode s_PA_part.2.1 13 = .ok (.getfield 80, 3) := by decide +kernel
theorem d_PA_part_16 : decode s_PA_part.2.1 16 = .ok (.getfield 170, 3) := by decide +kernel
theorem d_PA_part_19 : decode s_PA_part.2.1 19 = .ok (.if_icmp .lt 5, 3) := by decide +kernel
theorem d_PA_part_22 : decode s_PA_part.2.1 22 = .ok (.iconst (-1), 1) := by decide +kernel
theorem d_PA_part_23 : decode s_PA_part.2.1 23 = .ok (.ireturn, 1) := by decide +kernel
theorem d_PA_part_24 : decode s_PA_part.2.1 24 = .ok (.iload_n 2, 1) := by decide +kernel
theorem d_PA_part_25 : decode s_PA_part.2.1 25 = .ok (.tableswitch 60 0 2 #[27, 37, 47], 27) := by decide +kernel
theorem d_PA_part_52 : decode s_PA_part.2.1 52 = .ok (.aload_n 0, 1) := by decide +kernel
theorem d_PA_part_53 : decode s_PA_part.2.1 53 = .ok (.getfield 80, 3) := by decide +kernel
theorem d_PA_part_56 : decode s_PA_part.2.1 56 = .ok (.getfield 249, 3) := by decide +kernel
theorem d_PA_part_59 : decode s_PA_part.2.1 59 = .ok (.iload_n 1, 1) := by decide +kernel
theorem d_PA_part_60 : decode s_PA_part.2.1 60 = .ok (.iaload, 1) := by decide +kernel
theorem d_PA_part_61 : decode s_PA_part.2.1 61 = .ok (.ireturn, 1) := by decide +kernel
theorem d_PA_part_62 : decode s_PA_part.2.1 62 = .ok (.aload_n 0, 1) := by decide +kernel
theorem d_PA_part_63 : decode s_PA_part.2.1 63 = .ok (.getfield 80, 3) := by decide +kernel
theorem d_PA_part_66 : decode s_PA_part.2.1 66 = .ok (.getfield 252, 3) := by decide +kernel
theorem d_PA_part_69 : decode s_PA_part.2.1 69 = .ok (.iload_n 1, 1) := by decide +kernel
theorem d_PA_part_70 : decode s_PA_part.2.1 70 = .ok (.iaload, 1) := by decide +kernel
theorem d_PA_part_71 : decode s_PA_part.2.1 71 = .ok (.ireturn, 1) := by decide +kernel
theorem d_PA_part_72 : decode s_PA_part.2.1 72 = .ok (.aload_n 0, 1) := by decide +kernel
theorem d_PA_part_73 : decode s_PA_part.2.1 73 = .ok (.getfield 80, 3) := by decide +kernel
theorem d_PA_part_76 : decode s_PA_part.2.1 76 = .ok (.getfield 255, 3) := by decide +kernel
theorem d_PA_part_79 : decode s_PA_part.2.1 79 = .ok (.iload_n 1, 1) := by decide +kernel
theorem d_PA_part_80 : decode s_PA_part.2.1 80 = .ok (.baload, 1) := by decide +kernel
theorem d_PA_part_81 : decode s_PA_part.2.1 81 = .ok (.invokestatic 207, 3) := by decide +kernel
theorem d_PA_part_84 : decode s_PA_part.2.1 84 = .ok (.ireturn, 1) := by decide +kernel
theorem d_PA_part_85 : decode s_PA_part.2.1 85 = .ok (.iconst (-1), 1) := by decide +kernel
theorem d_PA_part_86 : decode s_PA_part.2.1 86 = .ok (.ireturn, 1) := by decide +kernel
theorem d_Study_worldsOfPart_0 : decode s_Study_worldsOfPart.2.1 0 = .ok (.iconst 0, 1) := by decide +kernel
theorem d_Study_worldsOfPart_1 : decode s_Study_worldsOfPart.2.1 1 = .ok (.istore_n 2, 1) := by decide +kernel
theorem d_Study_worldsOfPart_2 : decode s_Study_worldsOfPart.2.1 2 = .ok (.iconst 0, 1) := by decide +kernel
theorem d_Study_worldsOfPart_3 : decode s_Study_worldsOfPart.2.1 3 = .ok (.istore_n 3, 1) := by decide +kernel
theorem d_Study_worldsOfPart_4 : decode s_Study_worldsOfPart.2.1 4 = .ok (.iload_n 3, 1) := by decide +kernel
theorem d_Study_worldsOfPart_5 : decode s_Study_worldsOfPart.2.1 5 = .ok (.aload_n 0, 1) := by decide +kernel
theorem d_Study_worldsOfPart_6 : decode s_Study_worldsOfPart.2.1 6 = .ok (.getfield 53, 3) := by decide +kernel
theorem d_Study_worldsOfPart_9 : decode s_Study_worldsOfPart.2.1 9 = .ok (.getfield 103, 3) := by decide +kernel
theorem d_Study_worldsOfPart_12 : decode s_Study_worldsOfPart.2.1 12 = .ok (.if_icmp .ge 35, 3) := by decide +kernel
theorem d_Study_worldsOfPart_15 : decode s_Study_worldsOfPart.2.1 15 = .ok (.iload_n 2, 1) := by decide +kernel
theorem d_Study_worldsOfPart_16 : decode s_Study_worldsOfPart.2.1 16 = .ok (.aload_n 0, 1) := by decide +kernel
theorem d_Study_worldsOfPart_17 : decode s_Study_worldsOfPart.2.1 17 = .ok (.getfield 15, 3) := by decide +kernel
theorem d_Study_worldsOfPart_20 : decode s_Study_worldsOfPart.2.1 20 = .ok (.iload_n 3, 1) := by decide +kernel
theorem d_Study_worldsOfPart_21 : decode s_Study_worldsOfPart.2.1 21 = .ok (.iaload, 1) := by decide +kernel
theorem d_Study_worldsOfPart_22 : decode s_Study_worldsOfPart.2.1 22 = .ok (.iload_n 1, 1) := by decide +kernel
theorem d_Study_worldsOfPart_23 : decode s_Study_worldsOfPart.2.1 23 = .ok (.if_icmp .ne 15, 3) := by decide +kernel
theorem d_Study_worldsOfPart_26 : decode s_Study_worldsOfPart.2.1 26 = .ok (.aload_n 0, 1) := by decide +kernel
theorem d_Study_worldsOfPart_27 : decode s_Study_worldsOfPart.2.1 27 = .ok (.getfield 53, 3) := by decide +kernel
theorem d_Study_worldsOfPart_30 : decode s_Study_worldsOfPart.2.1 30 = .ok (.getfield 157, 3) := by decide +kernel
theorem d_Study_worldsOfPart_33 : decode s_Study_worldsOfPart.2.1 33 = .ok (.iload_n 3, 1) := by decide +kernel
theorem d_Study_worldsOfPart_34 : decode s_Study_worldsOfPart.2.1 34 = .ok (.iaload, 1) := by decide +kernel
theorem d_Study_worldsOfPart_35 : decode s_Study_worldsOfPart.2.1 35 = .ok (.goto 4, 3) := by decide +kernel
theorem d_Study_worldsOfPart_38 : decode s_Study_worldsOfPart.2.1 38 = .ok (.iconst 0, 1) := by decide +kernel
theorem d_Study_worldsOfPart_39 : decode s_Study_worldsOfPart.2.1 39 = .ok (.iadd, 1) := by decide +kernel
theorem d_Study_worldsOfPart_40 : decode s_Study_worldsOfPart.2.1 40 = .ok (.istore_n 2, 1) := by decide +kernel
theorem d_Study_worldsOfPart_41 : decode s_Study_worldsOfPart.2.1 41 = .ok (.iinc 3 1, 3) := by decide +kernel
theorem d_Study_worldsOfPart_44 : decode s_Study_worldsOfPart.2.1 44 = .ok (.goto (-40), 3) := by decide +kernel
theorem d_Study_worldsOfPart_47 : decode s_Study_worldsOfPart.2.1 47 = .ok (.iload_n 2, 1) := by decide +kernel
theorem d_Study_worldsOfPart_48 : decode s_Study_worldsOfPart.2.1 48 = .ok (.ireturn, 1) := by decide +kernel
theorem d_PA_returns_0 : decode s_PA_returns.2.1 0 = .ok (.aload_n 0, 1) := by decide +kernel
theorem d_PA_returns_1 : decode s_PA_returns.2.1 1 = .ok (.getfield 84, 3) := by decide +kernel
theorem d_PA_returns_4 : decode s_PA_returns.2.1 4 = .ok (.ifCond .eq 14, 3) := by decide +kernel
theorem d_PA_returns_7 : decode s_PA_returns.2.1 7 = .ok (.aload_n 0, 1) := by decide +kernel
theorem d_PA_returns_8 : decode s_PA_returns.2.1 8 = .ok (.getfield 80, 3) := by decide +kernel
theorem d_PA_returns_11 : decode s_PA_returns.2.1 11 = .ok (.iconst 0, 1) := by decide +kernel
theorem d_PA_returns_12 : decode s_PA_returns.2.1 12 = .ok (.invokevirtual 258, 3) := by decide +kernel
theorem d_PA_returns_15 : decode s_PA_returns.2.1 15 = .ok (.goto 4, 3) := by decide +kernel
theorem d_PA_returns_18 : decode s_PA_returns.2.1 18 = .ok (.iconst (-1), 1) := by decide +kernel
theorem d_PA_returns_19 : decode s_PA_returns.2.1 19 = .ok (.ireturn, 1) := by decide +kernel
theorem d_Study_agentsWith_0 : decode s_Study_agentsWith.2.1 0 = .ok (.iconst 0, 1) := by decide +kernel
theorem d_Study_agentsWith_1 : decode s_Study_agentsWith.2.1 1 = .ok (.istore_n 2, 1) := by decide +kernel
theorem d_Study_agentsWith_2 : decode s_Study_agentsWith.2.1 2 = .ok (.iconst 0, 1) := by decide +kernel
theorem d_Study_agentsWith_3 : decode s_Study_agentsWith.2.1 3 = .ok (.istore_n 3, 1) := by decide +kernel
theorem d_Study_agentsWith_4 : decode s_Study_agentsWith.2.1 4 = .ok (.iload_n 3, 1) := by decide +kernel
theorem d_Study_agentsWith_5 : decode s_Study_agentsWith.2.1 5 = .ok (.aload_n 0, 1) := by decide +kernel
theorem d_Study_agentsWith_6 : decode s_Study_agentsWith.2.1 6 = .ok (.getfield 53, 3) := by decide +kernel
theorem d_Study_agentsWith_9 : decode s_Study_agentsWith.2.1 9 = .ok (.getfield 103, 3) := by decide +kernel
theorem d_Study_agentsWith_12 : decode s_Study_agentsWith.2.1 12 = .ok (.iconst 4, 1) := by decide +kernel
theorem d_Study_agentsWith_13 : decode s_Study_agentsWith.2.1 13 = .ok (.imul, 1) := by decide +kernel
theorem d_Study_agentsWith_14 : decode s_Study_agentsWith.2.1 14 = .ok (.if_icmp .ge 33, 3) := by decide +kernel
theorem d_Study_agentsWith_17 : decode s_Study_agentsWith.2.1 17 = .ok (.iload_n 2, 1) := by decide +kernel
theorem d_Study_agentsWith_18 : decode s_Study_agentsWith.2.1 18 = .ok (.aload_n 1, 1) := by decide +kernel
theorem d_Study_agentsWith_19 : decode s_Study_agentsWith.2.1 19 = .ok (.iload_n 3, 1) := by decide +kernel
theorem d_Study_agentsWith_20 : decode s_Study_agentsWith.2.1 20 = .ok (.baload, 1) := by decide +kernel
theorem d_Study_agentsWith_21 : decode s_Study_agentsWith.2.1 21 = .ok (.ifCond .eq 17, 3) := by decide +kernel
theorem d_Study_agentsWith_24 : decode s_Study_agentsWith.2.1 24 = .ok (.aload_n 0, 1) := by decide +kernel
theorem d_Study_agentsWith_25 : decode s_Study_agentsWith.2.1 25 = .ok (.getfield 53, 3) := by decide +kernel
theorem d_Study_agentsWith_28 : decode s_Study_agentsWith.2.1 28 = .ok (.getfield 157, 3) := by decide +kernel
theorem d_Study_agentsWith_31 : decode s_Study_agentsWith.2.1 31 = .ok (.iload_n 3, 1) := by decide +kernel
theorem d_Study_agentsWith_32 : decode s_Study_agentsWith.2.1 32 = .ok (.iconst 4, 1) := by decide +kernel
theorem d_Study_agentsWith_33 : decode s_Study_agentsWith.2.1 33 = .ok (.idiv, 1) := by decide +kernel
theorem d_Study_agentsWith_34 : decode s_Study_agentsWith.2.1 34 = .ok (.iaload, 1) := by decide +kernel
theorem d_Study_agentsWith_35 : decode s_Study_agentsWith.2.1 35 = .ok (.goto 4, 3) := by decide +kernel
theorem d_Study_agentsWith_38 : decode s_Study_agentsWith.2.1 38 = .ok (.iconst 0, 1) := by decide +kernel
theorem d_Study_agentsWith_39 : decode s_Study_agentsWith.2.1 39 = .ok (.iadd, 1) := by decide +kernel
theorem d_Study_agentsWith_40 : decode s_Study_agentsWith.2.1 40 = .ok (.istore_n 2, 1) := by decide +kernel
theorem d_Study_agentsWith_41 : decode s_Study_agentsWith.2.1 41 = .ok (.iinc 3 1, 3) := by decide +kernel
theorem d_Study_agentsWith_44 : decode s_Study_agentsWith.2.1 44 = .ok (.goto (-40), 3) := by decide +kernel
theorem d_Study_agentsWith_47 : decode s_Study_agentsWith.2.1 47 = .ok (.iload_n 2, 1) := by decide +kernel
theorem d_Study_agentsWith_48 : decode s_Study_agentsWith.2.1 48 = .ok (.ireturn, 1) := by decide +kernel
theorem d_PA_starving_0 : decode s_PA_starving.2.1 0 = .ok (.aload_n 0, 1) := by decide +kernel
theorem d_PA_starving_1 : decode s_PA_starving.2.1 1 = .ok (.getfield 84, 3) := by decide +kernel
theorem d_PA_starving_4 : decode s_PA_starving.2.1 4 = .ok (.ifCond .ne 5, 3) := by decide +kernel
theorem d_PA_starving_7 : decode s_PA_starving.2.1 7 = .ok (.iconst (-1), 1) := by decide +kernel
theorem d_PA_starving_8 : decode s_PA_starving.2.1 8 = .ok (.ireturn, 1) := by decide +kernel
theorem d_PA_starving_9 : decode s_PA_starving.2.1 9 = .ok (.iload_n 1, 1) := by decide +kernel
theorem d_PA_starving_10 : decode s_PA_starving.2.1 10 = .ok (.ifCond .ne 18, 3) := by decide +kernel
theorem d_PA_starving_13 : decode s_PA_starving.2.1 13 = .ok (.aload_n 0, 1) := by decide +kernel
theorem d_PA_starving_14 : decode s_PA_starving.2.1 14 = .ok (.getfield 80, 3) := by decide +kernel
theorem d_PA_starving_17 : decode s_PA_starving.2.1 17 = .ok (.aload_n 0, 1) := by decide +kernel
theorem d_PA_starving_18 : decode s_PA_starving.2.1 18 = .ok (.getfield 80, 3) := by decide +kernel
theorem d_PA_starving_21 : decode s_PA_starving.2.1 21 = .ok (.getfield 220, 3) := by decide +kernel
theorem d_PA_starving_24 : decode s_PA_starving.2.1 24 = .ok (.invokevirtual 261, 3) := by decide +kernel
theorem d_PA_starving_27 : decode s_PA_starving.2.1 27 = .ok (.ireturn, 1) := by decide +kernel
theorem d_PA_starving_28 : decode s_PA_starving.2.1 28 = .ok (.iload_n 1, 1) := by decide +kernel
theorem d_PA_starving_29 : decode s_PA_starving.2.1 29 = .ok (.iconst 1, 1) := by decide +kernel
theorem d_PA_starving_30 : decode s_PA_starving.2.1 30 = .ok (.if_icmp .ne 20, 3) := by decide +kernel
theorem d_PA_starving_33 : decode s_PA_starving.2.1 33 = .ok (.aload_n 0, 1) := by decide +kernel
theorem d_PA_starving_34 : decode s_PA_starving.2.1 34 = .ok (.getfield 80, 3) := by decide +kernel
theorem d_PA_starving_37 : decode s_PA_starving.2.1 37 = .ok (.aload_n 0, 1) := by decide +kernel
theorem d_PA_starving_38 : decode s_PA_starving.2.1 38 = .ok (.getfield 80, 3) := by decide +kernel
theorem d_PA_starving_41 : decode s_PA_starving.2.1 41 = .ok (.getfield 223, 3) := by decide +kernel
theorem d_PA_starving_44 : decode s_PA_starving.2.1 44 = .ok (.invokevirtual 261, 3) := by decide +kernel
theorem d_PA_starving_47 : decode s_PA_starving.2.1 47 = .ok (.goto 4, 3) := by decide +kernel
theorem d_PA_starving_50 : decode s_PA_starving.2.1 50 = .ok (.iconst (-1), 1) := by decide +kernel
theorem d_PA_starving_51 : decode s_PA_starving.2.1 51 = .ok (.ireturn, 1) := by decide +kernel
theorem d_PA_uses_0 : decode s_PA_uses.2.1 0 = .ok (.aload_n 0, 1) := by decide +kernel
theorem d_PA_uses_1 : decode s_PA_uses.2.1 1 = .ok (.iload_n 1, 1) := by decide +kernel
theorem d_PA_uses_2 : decode s_PA_uses.2.1 2 = .ok (.invokevirtual 181, 3) := by decide +kernel
theorem d_PA_uses_5 : decode s_PA_uses.2.1 5 = .ok (.ifCond .eq 14, 3) := by decide +kernel
theorem d_PA_uses_8 : decode s_PA_uses.2.1 8 = .ok (.aload_n 0, 1) := by decide +kernel
theorem d_PA_uses_9 : decode s_PA_uses.2.1 9 = .ok (.getfield 32, 3) := by decide +kernel
theorem d_PA_uses_12 : decode s_PA_uses.2.1 12 = .ok (.iload_n 1, 1) := by decide +kernel
theorem d_PA_uses_13 : decode s_PA_uses.2.1 13 = .ok (.invokevirtual 161, 3) := by decide +kernel
theorem d_PA_uses_16 : decode s_PA_uses.2.1 16 = .ok (.goto 4, 3) := by decide +kernel
theorem d_PA_uses_19 : decode s_PA_uses.2.1 19 = .ok (.iconst (-1), 1) := by decide +kernel
theorem d_PA_uses_20 : decode s_PA_uses.2.1 20 = .ok (.ireturn, 1) := by decide +kernel
theorem d_Study_reach_0 : decode s_Study_reach.2.1 0 = .ok (.aload_n 0, 1) := by decide +kernel
theorem d_Study_reach_1 : decode s_Study_reach.2.1 1 = .ok (.getfield 41, 3) := by decide +kernel
theorem d_Study_reach_4 : decode s_Study_reach.2.1 4 = .ok (.invokestatic 73, 3) := by decide +kernel
theorem d_Study_reach_7 : decode s_Study_reach.2.1 7 = .ok (.aload_n 0, 1) := by decide +kernel
theorem d_Study_reach_8 : decode s_Study_reach.2.1 8 = .ok (.getfield 44, 3) := by decide +kernel
theorem d_Study_reach_11 : decode s_Study_reach.2.1 11 = .ok (.iconst 0, 1) := by decide +kernel
theorem d_Study_reach_12 : decode s_Study_reach.2.1 12 = .ok (.iconst 0, 1) := by decide +kernel
theorem d_Study_reach_13 : decode s_Study_reach.2.1 13 = .ok (.iastore, 1) := by decide +kernel
theorem d_Study_reach_14 : decode s_Study_reach.2.1 14 = .ok (.aload_n 0, 1) := by decide +kernel
theorem d_Study_reach_15 : decode s_Study_reach.2.1 15 = .ok (.getfield 41, 3) := by decide +kernel
theorem d_Study_reach_18 : decode s_Study_reach.2.1 18 = .ok (.iconst 0, 1) := by decide +kernel
theorem d_Study_reach_19 : decode s_Study_reach.2.1 19 = .ok (.iconst 1, 1) := by decide +kernel
theorem d_Study_reach_20 : decode s_Study_reach.2.1 20 = .ok (.bastore, 1) := by decide +kernel
theorem d_Study_reach_21 : decode s_Study_reach.2.1 21 = .ok (.iconst 1, 1) := by decide +kernel
theorem d_Study_reach_22 : decode s_Study_reach.2.1 22 = .ok (.istore_n 2, 1) := by decide +kernel
theorem d_Study_reach_23 : decode s_Study_reach.2.1 23 = .ok (.iconst 0, 1) := by decide +kernel
theorem d_Study_reach_24 : decode s_Study_reach.2.1 24 = .ok (.istore_n 3, 1) := by decide +kernel
theorem d_Study_reach_25 : decode s_Study_reach.2.1 25 = .ok (.iload_n 3, 1) := by decide +kernel
theorem d_Study_reach_26 : decode s_Study_reach.2.1 26 = .ok (.iload_n 2, 1) := by decide +kernel
theorem d_Study_reach_27 : decode s_Study_reach.2.1 27 = .ok (.if_icmp .ge 112, 3) := by decide +kernel
theorem d_Study_reach_30 : decode s_Study_reach.2.1 30 = .ok (.iload_n 3, 1) := by decide +kernel
theorem d_Study_reach_31 : decode s_Study_reach.2.1 31 = .ok (.sipush 600, 3) := by decide +kernel
theorem d_Study_reach_34 : decode s_Study_reach.2.1 34 = .ok (.if_icmp .ge 105, 3) := by decide +kernel
theorem d_Study_reach_37 : decode s_Study_reach.2.1 37 = .ok (.aload_n 0, 1) := by decide +kernel
theorem d_Study_reach_38 : decode s_Study_reach.2.1 38 = .ok (.getfield 44, 3) := by decide +kernel
theorem d_Study_reach_41 : decode s_Study_reach.2.1 41 = .ok (.iload_n 3, 1) := by decide +kernel
theorem d_Study_reach_42 : decode s_Study_reach.2.1 42 = .ok (.iaload, 1) := by decide +kernel
theorem d_Study_reach_43 : decode s_Study_reach.2.1 43 = .ok (.istore 4, 2) := by decide +kernel
theorem d_Study_reach_45 : decode s_Study_reach.2.1 45 = .ok (.aload_n 0, 1) := by decide +kernel
theorem d_Study_reach_46 : decode s_Study_reach.2.1 46 = .ok (.getfield 53, 3) := by decide +kernel
theorem d_Study_reach_49 : decode s_Study_reach.2.1 49 = .ok (.getfield 111, 3) := by decide +kernel
theorem d_Study_reach_52 : decode s_Study_reach.2.1 52 = .ok (.iload 4, 2) := by decide +kernel
theorem d_Study_reach_54 : decode s_Study_reach.2.1 54 = .ok (.iaload, 1) := by decide +kernel
theorem d_Study_reach_55 : decode s_Study_reach.2.1 55 = .ok (.istore 5, 2) := by decide +kernel
theorem d_Study_reach_57 : decode s_Study_reach.2.1 57 = .ok (.iload 5, 2) := by decide +kernel
theorem d_Study_reach_59 : decode s_Study_reach.2.1 59 = .ok (.aload_n 0, 1) := by decide +kernel
theorem d_Study_reach_60 : decode s_Study_reach.2.1 60 = .ok (.getfield 53, 3) := by decide +kernel
theorem d_Study_reach_63 : decode s_Study_reach.2.1 63 = .ok (.getfield 111, 3) := by decide +kernel
theorem d_Study_reach_66 : decode s_Study_reach.2.1 66 = .ok (.iload 4, 2) := by decide +kernel
theorem d_Study_reach_68 : decode s_Study_reach.2.1 68 = .ok (.iconst 1, 1) := by decide +kernel
theorem d_Study_reach_69 : decode s_Study_reach.2.1 69 = .ok (.iadd, 1) := by decide +kernel
theorem d_Study_reach_70 : decode s_Study_reach.2.1 70 = .ok (.iaload, 1) := by decide +kernel
theorem d_Study_reach_71 : decode s_Study_reach.2.1 71 = .ok (.if_icmp .ge 62, 3) := by decide +kernel
theorem d_Study_reach_74 : decode s_Study_reach.2.1 74 = .ok (.aload_n 0, 1) := by decide +kernel
theorem d_Study_reach_75 : decode s_Study_reach.2.1 75 = .ok (.getfield 53, 3) := by decide +kernel
theorem d_Study_reach_78 : decode s_Study_reach.2.1 78 = .ok (.iload 5, 2) := by decide +kernel
theorem d_Study_reach_80 : decode s_Study_reach.2.1 80 = .ok (.invokevirtual 114, 3) := by decide +kernel
theorem d_Study_reach_83 : decode s_Study_reach.2.1 83 = .ok (.istore 6, 2) := by decide +kernel
theorem d_Study_reach_85 : decode s_Study_reach.2.1 85 = .ok (.aload_n 0, 1) := by decide +kernel
theorem d_Study_reach_86 : decode s_Study_reach.2.1 86 = .ok (.getfield 53, 3) := by decide +kernel
theorem d_Study_reach_89 : decode s_Study_reach.2.1 89 = .ok (.iload 5, 2) := by decide +kernel
theorem d_Study_reach_91 : decode s_Study_reach.2.1 91 = .ok (.invokevirtual 175, 3) := by decide +kernel
theorem d_Study_reach_94 : decode s_Study_reach.2.1 94 = .ok (.iload_n 1, 1) := by decide +kernel
theorem d_Study_reach_95 : decode s_Study_reach.2.1 95 = .ok (.if_icmp .eq 32, 3) := by decide +kernel
theorem d_Study_reach_98 : decode s_Study_reach.2.1 98 = .ok (.aload_n 0, 1) := by decide +kernel
theorem d_Study_reach_99 : decode s_Study_reach.2.1 99 = .ok (.getfield 41, 3) := by decide +kernel
theorem d_Study_reach_102 : decode s_Study_reach.2.1 102 = .ok (.iload 6, 2) := by decide +kernel
theorem d_Study_reach_104 : decode s_Study_reach.2.1 104 = .ok (.baload, 1) := by decide +kernel
theorem d_Study_reach_105 : decode s_Study_reach.2.1 105 = .ok (.ifCond .ne 22, 3) := by decide +kernel
theorem d_Study_reach_108 : decode s_Study_reach.2.1 108 = .ok (.aload_n 0, 1) := by decide +kernel
theorem d_Study_reach_109 : decode s_Study_reach.2.1 109 = .ok (.getfield 41, 3) := by decide +kernel
theorem d_Study_reach_112 : decode s_Study_reach.2.1 112 = .ok (.iload 6, 2) := by decide +kernel
theorem d_Study_reach_114 : decode s_Study_reach.2.1 114 = .ok (.iconst 1, 1) := by decide +kernel
theorem d_Study_reach_115 : decode s_Study_reach.2.1 115 = .ok (.bastore, 1) := by decide +kernel
theorem d_Study_reach_116 : decode s_Study_reach.2.1 116 = .ok (.aload_n 0, 1) := by decide +kernel
theorem d_Study_reach_117 : decode s_Study_reach.2.1 117 = .ok (.getfield 44, 3) := by decide +kernel
theorem d_Study_reach_120 : decode s_Study_reach.2.1 120 = .ok (.iload_n 2, 1) := by decide +kernel
theorem d_Study_reach_121 : decode s_Study_reach.2.1 121 = .ok (.iload 6, 2) := by decide +kernel
theorem d_Study_reach_123 : decode s_Study_reach.2.1 123 = .ok (.iastore, 1) := by decide +kernel
theorem d_Study_reach_124 : decode s_Study_reach.2.1 124 = .ok (.iinc 2 1, 3) := by decide +kernel
theorem d_Study_reach_127 : decode s_Study_reach.2.1 127 = .ok (.iinc 5 1, 3) := by decide +kernel
theorem d_Study_reach_130 : decode s_Study_reach.2.1 130 = .ok (.goto (-73), 3) := by decide +kernel
theorem d_Study_reach_133 : decode s_Study_reach.2.1 133 = .ok (.iinc 3 1, 3) := by decide +kernel
theorem d_Study_reach_136 : decode s_Study_reach.2.1 136 = .ok (.goto (-111), 3) := by decide +kernel
theorem d_Study_reach_139 : decode s_Study_reach.2.1 139 = .ok (.iload_n 2, 1) := by decide +kernel
theorem d_Study_reach_140 : decode s_Study_reach.2.1 140 = .ok (.ireturn, 1) := by decide +kernel
theorem d_Study_isStuckWithout_0 : decode s_Study_isStuckWithout.2.1 0 = .ok (.aload_n 0, 1) := by decide +kernel
theorem d_Study_isStuckWithout_1 : decode s_Study_isStuckWithout.2.1 1 = .ok (.getfield 53, 3) := by decide +kernel
theorem d_Study_isStuckWithout_4 : decode s_Study_isStuckWithout.2.1 4 = .ok (.getfield 111, 3) := by decide +kernel
theorem d_Study_isStuckWithout_7 : decode s_Study_isStuckWithout.2.1 7 = .ok (.iload_n 1, 1) := by decide +kernel
theorem d_Study_isStuckWithout_8 : decode s_Study_isStuckWithout.2.1 8 = .ok (.iaload, 1) := by decide +kernel
theorem d_Study_isStuckWithout_9 : decode s_Study_isStuckWithout.2.1 9 = .ok (.istore_n 3, 1) := by decide +kernel
theorem d_Study_isStuckWithout_10 : decode s_Study_isStuckWithout.2.1 10 = .ok (.iload_n 3, 1) := by decide +kernel
theorem d_Study_isStuckWithout_11 : decode s_Study_isStuckWithout.2.1 11 = .ok (.aload_n 0, 1) := by decide +kernel
theorem d_Study_isStuckWithout_12 : decode s_Study_isStuckWithout.2.1 12 = .ok (.getfield 53, 3) := by decide +kernel
theorem d_Study_isStuckWithout_15 : decode s_Study_isStuckWithout.2.1 15 = .ok (.getfield 111, 3) := by decide +kernel
theorem d_Study_isStuckWithout_18 : decode s_Study_isStuckWithout.2.1 18 = .ok (.iload_n 1, 1) := by decide +kernel
theorem d_Study_isStuckWithout_19 : decode s_Study_isStuckWithout.2.1 19 = .ok (.iconst 1, 1) := by decide +kernel
theorem d_Study_isStuckWithout_20 : decode s_Study_isStuckWithout.2.1 20 = .ok (.iadd, 1) := by decide +kernel
theorem d_Study_isStuckWithout_21 : decode s_Study_isStuckWithout.2.1 21 = .ok (.iaload, 1) := by decide +kernel
theorem d_Study_isStuckWithout_22 : decode s_Study_isStuckWithout.2.1 22 = .ok (.if_icmp .ge 23, 3) := by decide +kernel
theorem d_Study_isStuckWithout_25 : decode s_Study_isStuckWithout.2.1 25 = .ok (.aload_n 0, 1) := by decide +kernel
theorem d_Study_isStuckWithout_26 : decode s_Study_isStuckWithout.2.1 26 = .ok (.getfield 53, 3) := by decide +kernel
theorem d_Study_isStuckWithout_29 : decode s_Study_isStuckWithout.2.1 29 = .ok (.iload_n 3, 1) := by decide +kernel
theorem d_Study_isStuckWithout_30 : decode s_Study_isStuckWithout.2.1 30 = .ok (.invokevirtual 175, 3) := by decide +kernel
theorem d_Study_isStuckWithout_33 : decode s_Study_isStuckWithout.2.1 33 = .ok (.iload_n 2, 1) := by decide +kernel
theorem d_Study_isStuckWithout_34 : decode s_Study_isStuckWithout.2.1 34 = .ok (.if_icmp .eq 5, 3) := by decide +kernel
theorem d_Study_isStuckWithout_37 : decode s_Study_isStuckWithout.2.1 37 = .ok (.iconst 0, 1) := by decide +kernel
theorem d_Study_isStuckWithout_38 : decode s_Study_isStuckWithout.2.1 38 = .ok (.ireturn, 1) := by decide +kernel
theorem d_Study_isStuckWithout_39 : decode s_Study_isStuckWithout.2.1 39 = .ok (.iinc 3 1, 3) := by decide +kernel
theorem d_Study_isStuckWithout_42 : decode s_Study_isStuckWithout.2.1 42 = .ok (.goto (-32), 3) := by decide +kernel
theorem d_Study_isStuckWithout_45 : decode s_Study_isStuckWithout.2.1 45 = .ok (.iconst 1, 1) := by decide +kernel
theorem d_Study_isStuckWithout_46 : decode s_Study_isStuckWithout.2.1 46 = .ok (.ireturn, 1) := by decide +kernel
theorem d_Study_hopeless_0 : decode s_Study_hopeless.2.1 0 = .ok (.iconst 0, 1) := by decide +kernel
theorem d_Study_hopeless_1 : decode s_Study_hopeless.2.1 1 = .ok (.istore_n 2, 1) := by decide +kernel
theorem d_Study_hopeless_2 : decode s_Study_hopeless.2.1 2 = .ok (.iconst 0, 1) := by decide +kernel
theorem d_Study_hopeless_3 : decode s_Study_hopeless.2.1 3 = .ok (.istore_n 3, 1) := by decide +kernel
theorem d_Study_hopeless_4 : decode s_Study_hopeless.2.1 4 = .ok (.iload_n 3, 1) := by decide +kernel
theorem d_Study_hopeless_5 : decode s_Study_hopeless.2.1 5 = .ok (.aload_n 0, 1) := by decide +kernel
theorem d_Study_hopeless_6 : decode s_Study_hopeless.2.1 6 = .ok (.getfield 53, 3) := by decide +kernel
theorem d_Study_hopeless_9 : decode s_Study_hopeless.2.1 9 = .ok (.getfield 144, 3) := by decide +kernel
theorem d_Study_hopeless_12 : decode s_Study_hopeless.2.1 12 = .ok (.if_icmp .ge 54, 3) := by decide +kernel
theorem d_Study_hopeless_15 : decode s_Study_hopeless.2.1 15 = .ok (.iload_n 1, 1) := by decide +kernel
theorem d_Study_hopeless_16 : decode s_Study_hopeless.2.1 16 = .ok (.iconst 4, 1) := by decide +kernel
theorem d_Study_hopeless_17 : decode s_Study_hopeless.2.1 17 = .ok (.imul, 1) := by decide +kernel
theorem d_Study_hopeless_18 : decode s_Study_hopeless.2.1 18 = .ok (.iload_n 3, 1) := by decide +kernel
theorem d_Study_hopeless_19 : decode s_Study_hopeless.2.1 19 = .ok (.iadd, 1) := by decide +kernel
theorem d_Study_hopeless_20 : decode s_Study_hopeless.2.1 20 = .ok (.istore 4, 2) := by decide +kernel
theorem d_Study_hopeless_22 : decode s_Study_hopeless.2.1 22 = .ok (.iload_n 2, 1) := by decide +kernel
theorem d_Study_hopeless_23 : decode s_Study_hopeless.2.1 23 = .ok (.aload_n 0, 1) := by decide +kernel
theorem d_Study_hopeless_24 : decode s_Study_hopeless.2.1 24 = .ok (.iload 4, 2) := by decide +kernel
theorem d_Study_hopeless_26 : decode s_Study_hopeless.2.1 26 = .ok (.aload_n 0, 1) := by decide +kernel
theorem d_Study_hopeless_27 : decode s_Study_hopeless.2.1 27 = .ok (.getfield 66, 3) := by decide +kernel
theorem d_Study_hopeless_30 : decode s_Study_hopeless.2.1 30 = .ok (.getfield 77, 3) := by decide +kernel
theorem d_Study_hopeless_33 : decode s_Study_hopeless.2.1 33 = .ok (.invokevirtual 121, 3) := by decide +kernel
theorem d_Study_hopeless_36 : decode s_Study_hopeless.2.1 36 = .ok (.ifCond .eq 21, 3) := by decide +kernel
theorem d_Study_hopeless_39 : decode s_Study_hopeless.2.1 39 = .ok (.aload_n 0, 1) := by decide +kernel
theorem d_Study_hopeless_40 : decode s_Study_hopeless.2.1 40 = .ok (.getfield 38, 3) := by decide +kernel
theorem d_Study_hopeless_43 : decode s_Study_hopeless.2.1 43 = .ok (.aload_n 0, 1) := by decide +kernel
theorem d_Study_hopeless_44 : decode s_Study_hopeless.2.1 44 = .ok (.iload 4, 2) := by decide +kernel
theorem d_Study_hopeless_46 : decode s_Study_hopeless.2.1 46 = .ok (.invokevirtual 141, 3) := by decide +kernel
theorem d_Study_hopeless_49 : decode s_Study_hopeless.2.1 49 = .ok (.baload, 1) := by decide +kernel
theorem d_Study_hopeless_50 : decode s_Study_hopeless.2.1 50 = .ok (.ifCond .ne 7, 3) := by decide +kernel
theorem d_Study_hopeless_53 : decode s_Study_hopeless.2.1 53 = .ok (.iconst 1, 1) := by decide +kernel
theorem d_Study_hopeless_54 : decode s_Study_hopeless.2.1 54 = .ok (.goto 4, 3) := by decide +kernel
theorem d_Study_hopeless_57 : decode s_Study_hopeless.2.1 57 = .ok (.iconst 0, 1) := by decide +kernel
theorem d_Study_hopeless_58 : decode s_Study_hopeless.2.1 58 = .ok (.iadd, 1) := by decide +kernel
theorem d_Study_hopeless_59 : decode s_Study_hopeless.2.1 59 = .ok (.istore_n 2, 1) := by decide +kernel
theorem d_Study_hopeless_60 : decode s_Study_hopeless.2.1 60 = .ok (.iinc 3 1, 3) := by decide +kernel
theorem d_Study_hopeless_63 : decode s_Study_hopeless.2.1 63 = .ok (.goto (-59), 3) := by decide +kernel
theorem d_Study_hopeless_66 : decode s_Study_hopeless.2.1 66 = .ok (.iload_n 2, 1) := by decide +kernel
theorem d_Study_hopeless_67 : decode s_Study_hopeless.2.1 67 = .ok (.ireturn, 1) := by decide +kernel
theorem d_Study_figure_0 : decode s_Study_figure.2.1 0 = .ok (.aload_n 0, 1) := by decide +kernel
theorem d_Study_figure_1 : decode s_Study_figure.2.1 1 = .ok (.getfield 47, 3) := by decide +kernel
theorem d_Study_figure_4 : decode s_Study_figure.2.1 4 = .ok (.iload_n 1, 1) := by decide +kernel
theorem d_Study_figure_5 : decode s_Study_figure.2.1 5 = .ok (.baload, 1) := by decide +kernel
theorem d_Study_figure_6 : decode s_Study_figure.2.1 6 = .ok (.ifCond .eq 4, 3) := by decide +kernel
theorem d_Study_figure_9 : decode s_Study_figure.2.1 9 = .ok (.return_, 1) := by decide +kernel
theorem d_Study_figure_10 : decode s_Study_figure.2.1 10 = .ok (.aload_n 0, 1) := by decide +kernel
theorem d_Study_figure_11 : decode s_Study_figure.2.1 11 = .ok (.getfield 47, 3) := by decide +kernel
theorem d_Study_figure_14 : decode s_Study_figure.2.1 14 = .ok (.iload_n 1, 1) := by decide +kernel
theorem d_Study_figure_15 : decode s_Study_figure.2.1 15 = .ok (.iconst 1, 1) := by decide +kernel
theorem d_Study_figure_16 : decode s_Study_figure.2.1 16 = .ok (.bastore, 1) := by decide +kernel
theorem d_Study_figure_17 : decode s_Study_figure.2.1 17 = .ok (.iload_n 1, 1) := by decide +kernel
theorem d_Study_figure_18 : decode s_Study_figure.2.1 18 = .ok (.iconst 5, 1) := by decide +kernel
theorem d_Study_figure_19 : decode s_Study_figure.2.1 19 = .ok (.imul, 1) := by decide +kernel
theorem d_Study_figure_20 : decode s_Study_figure.2.1 20 = .ok (.istore_n 2, 1) := by decide +kernel
theorem d_Study_figure_21 : decode s_Study_figure.2.1 21 = .ok (.aload_n 0, 1) := by decide +kernel
theorem d_Study_figure_22 : decode s_Study_figure.2.1 22 = .ok (.iload_n 1, 1) := by decide +kernel
theorem d_Study_figure_23 : decode s_Study_figure.2.1 23 = .ok (.invokevirtual 163, 3) := by decide +kernel
theorem d_Study_figure_26 : decode s_Study_figure.2.1 26 = .ok (.istore_n 3, 1) := by decide +kernel
theorem d_Study_figure_27 : decode s_Study_figure.2.1 27 = .ok (.iconst 0, 1) := by decide +kernel
theorem d_Study_figure_28 : decode s_Study_figure.2.1 28 = .ok (.istore 4, 2) := by decide +kernel
theorem d_Study_figure_30 : decode s_Study_figure.2.1 30 = .ok (.iload 4, 2) := by decide +kernel
theorem d_Study_figure_32 : decode s_Study_figure.2.1 32 = .ok (.iconst 5, 1) := by decide +kernel
theorem d_Study_figure_33 : decode s_Study_figure.2.1 33 = .ok (.if_icmp .ge 19, 3) := by decide +kernel
theorem d_Study_figure_36 : decode s_Study_figure.2.1 36 = .ok (.aload_n 0, 1) := by decide +kernel
theorem d_Study_figure_37 : decode s_Study_figure.2.1 37 = .ok (.getfield 50, 3) := by decide +kernel
theorem d_Study_figure_40 : decode s_Study_figure.2.1 40 = .ok (.iload_n 2, 1) := by decide +kernel
theorem d_Study_figure_41 : decode s_Study_figure.2.1 41 = .ok (.iload 4, 2) := by decide +kernel
theorem d_Study_figure_43 : decode s_Study_figure.2.1 43 = .ok (.iadd, 1) := by decide +kernel
theorem d_Study_figure_44 : decode s_Study_figure.2.1 44 = .ok (.iconst 0, 1) := by decide +kernel
theorem d_Study_figure_45 : decode s_Study_figure.2.1 45 = .ok (.iastore, 1) := by decide +kernel
theorem d_Study_figure_46 : decode s_Study_figure.2.1 46 = .ok (.iinc 4 1, 3) := by decide +kernel
theorem d_Study_figure_49 : decode s_Study_figure.2.1 49 = .ok (.goto (-19), 3) := by decide +kernel
theorem d_Study_figure_52 : decode s_Study_figure.2.1 52 = .ok (.aload_n 0, 1) := by decide +kernel
theorem d_Study_figure_53 : decode s_Study_figure.2.1 53 = .ok (.getfield 50, 3) := by decide +kernel
theorem d_Study_figure_56 : decode s_Study_figure.2.1 56 = .ok (.iload_n 2, 1) := by decide +kernel
theorem d_Study_figure_57 : decode s_Study_figure.2.1 57 = .ok (.iload_n 3, 1) := by decide +kernel
theorem d_Study_figure_58 : decode s_Study_figure.2.1 58 = .ok (.iastore, 1) := by decide +kernel
theorem d_Study_figure_59 : decode s_Study_figure.2.1 59 = .ok (.aload_n 0, 1) := by decide +kernel
theorem d_Study_figure_60 : decode s_Study_figure.2.1 60 = .ok (.getfield 66, 3) := by decide +kernel
theorem d_Study_figure_63 : decode s_Study_figure.2.1 63 = .ok (.getfield 77, 3) := by decide +kernel
theorem d_Study_figure_66 : decode s_Study_figure.2.1 66 = .ok (.iconst (-1), 1) := by decide +kernel
theorem d_Study_figure_67 : decode s_Study_figure.2.1 67 = .ok (.if_icmp .eq 7, 3) := by decide +kernel
theorem d_Study_figure_70 : decode s_Study_figure.2.1 70 = .ok (.iconst 1, 1) := by decide +kernel
theorem d_Study_figure_71 : decode s_Study_figure.2.1 71 = .ok (.goto 4, 3) := by decide +kernel
theorem d_Study_figure_74 : decode s_Study_figure.2.1 74 = .ok (.iconst 0, 1) := by decide +kernel
theorem d_Study_figure_75 : decode s_Study_figure.2.1 75 = .ok (.istore 4, 2) := by decide +kernel
theorem d_Study_figure_77 : decode s_Study_figure.2.1 77 = .ok (.iload 4, 2) := by decide +kernel
theorem d_Study_figure_79 : decode s_Study_figure.2.1 79 = .ok (.ifCond .eq 8, 3) := by decide +kernel
theorem d_Study_figure_82 : decode s_Study_figure.2.1 82 = .ok (.aload_n 0, 1) := by decide +kernel
theorem d_Study_figure_83 : decode s_Study_figure.2.1 83 = .ok (.iload_n 1, 1) := by decide +kernel
theorem d_Study_figure_84 : decode s_Study_figure.2.1 84 = .ok (.invokevirtual 82, 3) := by decide +kernel
theorem d_Study_figure_87 : decode s_Study_figure.2.1 87 = .ok (.iconst 0, 1) := by decide +kernel
theorem d_Study_figure_88 : decode s_Study_figure.2.1 88 = .ok (.istore 5, 2) := by decide +kernel
theorem d_Study_figure_90 : decode s_Study_figure.2.1 90 = .ok (.iload 5, 2) := by decide +kernel
theorem d_Study_figure_92 : decode s_Study_figure.2.1 92 = .ok (.iload_n 3, 1) := by decide +kernel
theorem d_Study_figure_93 : decode s_Study_figure.2.1 93 = .ok (.if_icmp .ge 149, 3) := by decide +kernel
theorem d_Study_figure_96 : decode s_Study_figure.2.1 96 = .ok (.aload_n 0, 1) := by decide +kernel
theorem d_Study_figure_97 : decode s_Study_figure.2.1 97 = .ok (.getfield 44, 3) := by decide +kernel
theorem d_Study_figure_100 : decode s_Study_figure.2.1 100 = .ok (.iload 5, 2) := by decide +kernel
theorem d_Study_figure_102 : decode s_Study_figure.2.1 102 = .ok (.iaload, 1) := by decide +kernel
theorem d_Study_figure_103 : decode s_Study_figure.2.1 103 = .ok (.istore 6, 2) := by decide +kernel
theorem d_Study_figure_105 : decode s_Study_figure.2.1 105 = .ok (.aload_n 0, 1) := by decide +kernel
theorem d_Study_figure_106 : decode s_Study_figure.2.1 106 = .ok (.getfield 50, 3) := by decide +kernel
theorem d_Study_figure_109 : decode s_Study_figure.2.1 109 = .ok (.iload_n 2, 1) := by decide +kernel
theorem d_Study_figure_110 : decode s_Study_figure.2.1 110 = .ok (.iconst 1, 1) := by decide +kernel
theorem d_Study_figure_111 : decode s_Study_figure.2.1 111 = .ok (.iadd, 1) := by decide +kernel
theorem d_Study_figure_112 : decode s_Study_figure.2.1 112 = .ok (.dup2, 1) := by decide +kernel
theorem d_Study_figure_113 : decode s_Study_figure.2.1 113 = .ok (.iaload, 1) := by decide +kernel
theorem d_Study_figure_114 : decode s_Study_figure.2.1 114 = .ok (.aload_n 0, 1) := by decide +kernel
theorem d_Study_figure_115 : decode s_Study_figure.2.1 115 = .ok (.getfield 53, 3) := by decide +kernel
theorem d_Study_figure_118 : decode s_Study_figure.2.1 118 = .ok (.getfield 157, 3) := by decide +kernel
theorem d_Study_figure_121 : decode s_Study_figure.2.1 121 = .ok (.iload 6, 2) := by decide +kernel
theorem d_Study_figure_123 : decode s_Study_figure.2.1 123 = .ok (.iaload, 1) := by decide +kernel
theorem d_Study_figure_124 : decode s_Study_figure.2.1 124 = .ok (.iadd, 1) := by decide +kernel
theorem d_Study_figure_125 : decode s_Study_figure.2.1 125 = .ok (.iastore, 1) := by decide +kernel
theorem d_Study_figure_126 : decode s_Study_figure.2.1 126 = .ok (.aload_n 0, 1) := by decide +kernel
theorem d_Study_figure_127 : decode s_Study_figure.2.1 127 = .ok (.getfield 50, 3) := by decide +kernel
theorem d_Study_figure_130 : decode s_Study_figure.2.1 130 = .ok (.iload_n 2, 1) := by decide +kernel
theorem d_Study_figure_131 : decode s_Study_figure.2.1 131 = .ok (.iconst 2, 1) := by decide +kernel
theorem d_Study_figure_132 : decode s_Study_figure.2.1 132 = .ok (.iadd, 1) := by decide +kernel
theorem d_Study_figure_133 : decode s_Study_figure.2.1 133 = .ok (.dup2, 1) := by decide +kernel
theorem d_Study_figure_134 : decode s_Study_figure.2.1 134 = .ok (.iaload, 1) := by decide +kernel
theorem d_Study_figure_135 : decode s_Study_figure.2.1 135 = .ok (.aload_n 0, 1) := by decide +kernel
theorem d_Study_figure_136 : decode s_Study_figure.2.1 136 = .ok (.getfield 53, 3) := by decide +kernel
theorem d_Study_figure_139 : decode s_Study_figure.2.1 139 = .ok (.getfield 166, 3) := by decide +kernel
theorem d_Study_figure_142 : decode s_Study_figure.2.1 142 = .ok (.iload 6, 2) := by decide +kernel
theorem d_Study_figure_144 : decode s_Study_figure.2.1 144 = .ok (.baload, 1) := by decide +kernel
theorem d_Study_figure_145 : decode s_Study_figure.2.1 145 = .ok (.ifCond .eq 16, 3) := by decide +kernel
theorem d_Study_figure_148 : decode s_Study_figure.2.1 148 = .ok (.aload_n 0, 1) := by decide +kernel
theorem d_Study_figure_149 : decode s_Study_figure.2.1 149 = .ok (.getfield 53, 3) := by decide +kernel
theorem d_Study_figure_152 : decode s_Study_figure.2.1 152 = .ok (.getfield 157, 3) := by decide +kernel
theorem d_Study_figure_155 : decode s_Study_figure.2.1 155 = .ok (.iload 6, 2) := by decide +kernel
theorem d_Study_figure_157 : decode s_Study_figure.2.1 157 = .ok (.iaload, 1) := by decide +kernel
theorem d_Study_figure_158 : decode s_Study_figure.2.1 158 = .ok (.goto 4, 3) := by decide +kernel
theorem d_Study_figure_161 : decode s_Study_figure.2.1 161 = .ok (.iconst 0, 1) := by decide +kernel
theorem d_Study_figure_162 : decode s_Study_figure.2.1 162 = .ok (.iadd, 1) := by decide +kernel
theorem d_Study_figure_163 : decode s_Study_figure.2.1 163 = .ok (.iastore, 1) := by decide +kernel
theorem d_Study_figure_164 : decode s_Study_figure.2.1 164 = .ok (.aload_n 0, 1) := by decide +kernel
theorem d_Study_figure_165 : decode s_Study_figure.2.1 165 = .ok (.getfield 50, 3) := by decide +kernel
theorem d_Study_figure_168 : decode s_Study_figure.2.1 168 = .ok (.iload_n 2, 1) := by decide +kernel
theorem d_Study_figure_169 : decode s_Study_figure.2.1 169 = .ok (.iconst 3, 1) := by decide +kernel
theorem d_Study_figure_170 : decode s_Study_figure.2.1 170 = .ok (.iadd, 1) := by decide +kernel
theorem d_Study_figure_171 : decode s_Study_figure.2.1 171 = .ok (.dup2, 1) := by decide +kernel
theorem d_Study_figure_172 : decode s_Study_figure.2.1 172 = .ok (.iaload, 1) := by decide +kernel
theorem d_Study_figure_173 : decode s_Study_figure.2.1 173 = .ok (.aload_n 0, 1) := by decide +kernel
theorem d_Study_figure_174 : decode s_Study_figure.2.1 174 = .ok (.iload 6, 2) := by decide +kernel
theorem d_Study_figure_176 : decode s_Study_figure.2.1 176 = .ok (.iload_n 1, 1) := by decide +kernel
theorem d_Study_figure_177 : decode s_Study_figure.2.1 177 = .ok (.invokevirtual 169, 3) := by decide +kernel
theorem d_Study_figure_180 : decode s_Study_figure.2.1 180 = .ok (.ifCond .eq 16, 3) := by decide +kernel
theorem d_Study_figure_183 : decode s_Study_figure.2.1 183 = .ok (.aload_n 0, 1) := by decide +kernel
theorem d_Study_figure_184 : decode s_Study_figure.2.1 184 = .ok (.getfield 53, 3) := by decide +kernel
theorem d_Study_figure_187 : decode s_Study_figure.2.1 187 = .ok (.getfield 157, 3) := by decide +kernel
theorem d_Study_figure_190 : decode s_Study_figure.2.1 190 = .ok (.iload 6, 2) := by decide +kernel
theorem d_Study_figure_192 : decode s_Study_figure.2.1 192 = .ok (.iaload, 1) := by decide +kernel
theorem d_Study_figure_193 : decode s_Study_figure.2.1 193 = .ok (.goto 4, 3) := by decide +kernel
theorem d_Study_figure_196 : decode s_Study_figure.2.1 196 = .ok (.iconst 0, 1) := by decide +kernel
theorem d_Study_figure_197 : decode s_Study_figure.2.1 197 = .ok (.iadd, 1) := by decide +kernel
theorem d_Study_figure_198 : decode s_Study_figure.2.1 198 = .ok (.iastore, 1) := by decide +kernel
theorem d_Study_figure_199 : decode s_Study_figure.2.1 199 = .ok (.aload_n 0, 1) := by decide +kernel
theorem d_Study_figure_200 : decode s_Study_figure.2.1 200 = .ok (.getfield 50, 3) := by decide +kernel
theorem d_Study_figure_203 : decode s_Study_figure.2.1 203 = .ok (.iload_n 2, 1) := by decide +kernel
theorem d_Study_figure_204 : decode s_Study_figure.2.1 204 = .ok (.iconst 4, 1) := by decide +kernel
theorem d_Study_figure_205 : decode s_Study_figure.2.1 205 = .ok (.iadd, 1) := by decide +kernel
theorem d_Study_figure_206 : decode s_Study_figure.2.1 206 = .ok (.dup2, 1) := by decide +kernel
theorem d_Study_figure_207 : decode s_Study_figure.2.1 207 = .ok (.iaload, 1) := by decide +kernel
theorem d_Study_figure_208 : decode s_Study_figure.2.1 208 = .ok (.iload 4, 2) := by decide +kernel
theorem d_Study_figure_210 : decode s_Study_figure.2.1 210 = .ok (.ifCond .eq 23, 3) := by decide +kernel
theorem d_Study_figure_213 : decode s_Study_figure.2.1 213 = .ok (.aload_n 0, 1) := by decide +kernel
theorem d_Study_figure_214 : decode s_Study_figure.2.1 214 = .ok (.getfield 53, 3) := by decide +kernel
theorem d_Study_figure_217 : decode s_Study_figure.2.1 217 = .ok (.getfield 157, 3) := by decide +kernel
theorem d_Study_figure_220 : decode s_Study_figure.2.1 220 = .ok (.iload 6, 2) := by decide +kernel
theorem d_Study_figure_222 : decode s_Study_figure.2.1 222 = .ok (.iaload, 1) := by decide +kernel
theorem d_Study_figure_223 : decode s_Study_figure.2.1 223 = .ok (.aload_n 0, 1) := by decide +kernel
theorem d_Study_figure_224 : decode s_Study_figure.2.1 224 = .ok (.iload 6, 2) := by decide +kernel
theorem d_Study_figure_226 : decode s_Study_figure.2.1 226 = .ok (.invokevirtual 172, 3) := by decide +kernel
theorem d_Study_figure_229 : decode s_Study_figure.2.1 229 = .ok (.imul, 1) := by decide +kernel
theorem d_Study_figure_230 : decode s_Study_figure.2.1 230 = .ok (.goto 4, 3) := by decide +kernel
theorem d_Study_figure_233 : decode s_Study_figure.2.1 233 = .ok (.iconst 0, 1) := by decide +kernel
theorem d_Study_figure_234 : decode s_Study_figure.2.1 234 = .ok (.iadd, 1) := by decide +kernel
theorem d_Study_figure_235 : decode s_Study_figure.2.1 235 = .ok (.iastore, 1) := by decide +kernel
theorem d_Study_figure_236 : decode s_Study_figure.2.1 236 = .ok (.iinc 5 1, 3) := by decide +kernel
theorem d_Study_figure_239 : decode s_Study_figure.2.1 239 = .ok (.goto (-149), 3) := by decide +kernel
theorem d_Study_figure_242 : decode s_Study_figure.2.1 242 = .ok (.return_, 1) := by decide +kernel
theorem d_Study_lacking_0 : decode s_Study_lacking.2.1 0 = .ok (.aload_n 0, 1) := by decide +kernel
theorem d_Study_lacking_1 : decode s_Study_lacking.2.1 1 = .ok (.iload_n 1, 1) := by decide +kernel
theorem d_Study_lacking_2 : decode s_Study_lacking.2.1 2 = .ok (.invokevirtual 160, 3) := by decide +kernel
theorem d_Study_lacking_5 : decode s_Study_lacking.2.1 5 = .ok (.aload_n 0, 1) := by decide +kernel
theorem d_Study_lacking_6 : decode s_Study_lacking.2.1 6 = .ok (.getfield 50, 3) := by decide +kernel
theorem d_Study_lacking_9 : decode s_Study_lacking.2.1 9 = .ok (.iload_n 1, 1) := by decide +kernel
theorem d_Study_lacking_10 : decode s_Study_lacking.2.1 10 = .ok (.iconst 5, 1) := by decide +kernel
theorem d_Study_lacking_11 : decode s_Study_lacking.2.1 11 = .ok (.imul, 1) := by decide +kernel
theorem d_Study_lacking_12 : decode s_Study_lacking.2.1 12 = .ok (.iload_n 2, 1) := by decide +kernel
theorem d_Study_lacking_13 : decode s_Study_lacking.2.1 13 = .ok (.iadd, 1) := by decide +kernel
theorem d_Study_lacking_14 : decode s_Study_lacking.2.1 14 = .ok (.iaload, 1) := by decide +kernel
theorem d_Study_lacking_15 : decode s_Study_lacking.2.1 15 = .ok (.ireturn, 1) := by decide +kernel
theorem d_PA_without_0 : decode s_PA_without.2.1 0 = .ok (.aload_n 0, 1) := by decide +kernel
theorem d_PA_without_1 : decode s_PA_without.2.1 1 = .ok (.iload_n 1, 1) := by decide +kernel
theorem d_PA_without_2 : decode s_PA_without.2.1 2 = .ok (.invokevirtual 181, 3) := by decide +kernel
theorem d_PA_without_5 : decode s_PA_without.2.1 5 = .ok (.ifCond .eq 12, 3) := by decide +kernel
theorem d_PA_without_8 : decode s_PA_without.2.1 8 = .ok (.iload_n 2, 1) := by decide +kernel
theorem d_PA_without_9 : decode s_PA_without.2.1 9 = .ok (.ifCond .lt 8, 3) := by decide +kernel
theorem d_PA_without_12 : decode s_PA_without.2.1 12 = .ok (.iload_n 2, 1) := by decide +kernel
theorem d_PA_without_13 : decode s_PA_without.2.1 13 = .ok (.iconst 5, 1) := by decide +kernel
theorem d_PA_without_14 : decode s_PA_without.2.1 14 = .ok (.if_icmp .lt 5, 3) := by decide +kernel
theorem d_PA_without_17 : decode s_PA_without.2.1 17 = .ok (.iconst (-1), 1) := by decide +kernel
theorem d_PA_without_18 : decode s_PA_without.2.1 18 = .ok (.ireturn, 1) := by decide +kernel
theorem d_PA_without_19 : decode s_PA_without.2.1 19 = .ok (.aload_n 0, 1) := by decide +kernel
theorem d_PA_without_20 : decode s_PA_without.2.1 20 = .ok (.getfield 80, 3) := by decide +kernel
theorem d_PA_without_23 : decode s_PA_without.2.1 23 = .ok (.iload_n 1, 1) := by decide +kernel
theorem d_PA_without_24 : decode s_PA_without.2.1 24 = .ok (.iload_n 2, 1) := by decide +kernel
theorem d_PA_without_25 : decode s_PA_without.2.1 25 = .ok (.invokevirtual 264, 3) := by decide +kernel
theorem d_PA_without_28 : decode s_PA_without.2.1 28 = .ok (.ireturn, 1) := by decide +kernel
theorem d_Study_isBetter_0 : decode s_Study_isBetter.2.1 0 = .ok (.iconst 2, 1) := by decide +kernel
theorem d_Study_isBetter_1 : decode s_Study_isBetter.2.1 1 = .ok (.istore_n 3, 1) := by decide +kernel
theorem d_Study_isBetter_2 : decode s_Study_isBetter.2.1 2 = .ok (.iload_n 3, 1) := by decide +kernel
theorem d_Study_isBetter_3 : decode s_Study_isBetter.2.1 3 = .ok (.iconst 5, 1) := by decide +kernel
theorem d_Study_isBetter_4 : decode s_Study_isBetter.2.1 4 = .ok (.if_icmp .ge 53, 3) := by decide +kernel
theorem d_Study_isBetter_7 : decode s_Study_isBetter.2.1 7 = .ok (.aload_n 0, 1) := by decide +kernel
theorem d_Study_isBetter_8 : decode s_Study_isBetter.2.1 8 = .ok (.getfield 50, 3) := by decide +kernel
theorem d_Study_isBetter_11 : decode s_Study_isBetter.2.1 11 = .ok (.iload_n 1, 1) := by decide +kernel
theorem d_Study_isBetter_12 : decode s_Study_isBetter.2.1 12 = .ok (.iconst 5, 1) := by decide +kernel
theorem d_Study_isBetter_13 : decode s_Study_isBetter.2.1 13 = .ok (.imul, 1) := by decide +kernel
theorem d_Study_isBetter_14 : decode s_Study_isBetter.2.1 14 = .ok (.iload_n 3, 1) := by decide +kernel
theorem d_Study_isBetter_15 : decode s_Study_isBetter.2.1 15 = .ok (.iadd, 1) := by decide +kernel
theorem d_Study_isBetter_16 : decode s_Study_isBetter.2.1 16 = .ok (.iaload, 1) := by decide +kernel
theorem d_Study_isBetter_17 : decode s_Study_isBetter.2.1 17 = .ok (.istore 4, 2) := by decide +kernel
theorem d_Study_isBetter_19 : decode s_Study_isBetter.2.1 19 = .ok (.aload_n 0, 1) := by decide +kernel
theorem d_Study_isBetter_20 : decode s_Study_isBetter.2.1 20 = .ok (.getfield 50, 3) := by decide +kernel
theorem d_Study_isBetter_23 : decode s_Study_isBetter.2.1 23 = .ok (.iload_n 2, 1) := by decide +kernel
theorem d_Study_isBetter_24 : decode s_Study_isBetter.2.1 24 = .ok (.iconst 5, 1) := by decide +kernel
theorem d_Study_isBetter_25 : decode s_Study_isBetter.2.1 25 = .ok (.imul, 1) := by decide +kernel
theorem d_Study_isBetter_26 : decode s_Study_isBetter.2.1 26 = .ok (.iload_n 3, 1) := by decide +kernel
theorem d_Study_isBetter_27 : decode s_Study_isBetter.2.1 27 = .ok (.iadd, 1) := by decide +kernel
theorem d_Study_isBetter_28 : decode s_Study_isBetter.2.1 28 = .ok (.iaload, 1) := by decide +kernel
theorem d_Study_isBetter_29 : decode s_Study_isBetter.2.1 29 = .ok (.istore 5, 2) := by decide +kernel
theorem d_Study_isBetter_31 : decode s_Study_isBetter.2.1 31 = .ok (.iload 4, 2) := by decide +kernel
theorem d_Study_isBetter_33 : decode s_Study_isBetter.2.1 33 = .ok (.iload 5, 2) := by decide +kernel
theorem d_Study_isBetter_35 : decode s_Study_isBetter.2.1 35 = .ok (.if_icmp .eq 16, 3) := by decide +kernel
theorem d_Study_isBetter_38 : decode s_Study_isBetter.2.1 38 = .ok (.iload 4, 2) := by decide +kernel
theorem d_Study_isBetter_40 : decode s_Study_isBetter.2.1 40 = .ok (.iload 5, 2) := by decide +kernel
theorem d_Study_isBetter_42 : decode s_Study_isBetter.2.1 42 = .ok (.if_icmp .ge 7, 3) := by decide +kernel
theorem d_Study_isBetter_45 : decode s_Study_isBetter.2.1 45 = .ok (.iconst 1, 1) := by decide +kernel
theorem d_Study_isBetter_46 : decode s_Study_isBetter.2.1 46 = .ok (.goto 4, 3) := by decide +kernel
theorem d_Study_isBetter_49 : decode s_Study_isBetter.2.1 49 = .ok (.iconst 0, 1) := by decide +kernel
theorem d_Study_isBetter_50 : decode s_Study_isBetter.2.1 50 = .ok (.ireturn, 1) := by decide +kernel
theorem d_Study_isBetter_51 : decode s_Study_isBetter.2.1 51 = .ok (.iinc 3 1, 3) := by decide +kernel
theorem d_Study_isBetter_54 : decode s_Study_isBetter.2.1 54 = .ok (.goto (-52), 3) := by decide +kernel
theorem d_Study_isBetter_57 : decode s_Study_isBetter.2.1 57 = .ok (.iconst 0, 1) := by decide +kernel
theorem d_Study_isBetter_58 : decode s_Study_isBetter.2.1 58 = .ok (.ireturn, 1) := by decide +kernel
theorem d_Study_bestLeftOut_0 : decode s_Study_bestLeftOut.2.1 0 = .ok (.aload_n 0, 1) := by decide +kernel
theorem d_Study_bestLeftOut_1 : decode s_Study_bestLeftOut.2.1 1 = .ok (.getfield 66, 3) := by decide +kernel
theorem d_Study_bestLeftOut_4 : decode s_Study_bestLeftOut.2.1 4 = .ok (.getfield 178, 3) := by decide +kernel
theorem d_Study_bestLeftOut_7 : decode s_Study_bestLeftOut.2.1 7 = .ok (.ifCond .le 7, 3) := by decide +kernel
theorem d_Study_bestLeftOut_10 : decode s_Study_bestLeftOut.2.1 10 = .ok (.iconst 0, 1) := by decide +kernel
theorem d_Study_bestLeftOut_11 : decode s_Study_bestLeftOut.2.1 11 = .ok (.goto 4, 3) := by decide +kernel
theorem d_Study_bestLeftOut_14 : decode s_Study_bestLeftOut.2.1 14 = .ok (.iconst (-1), 1) := by decide +kernel
theorem d_Study_bestLeftOut_15 : decode s_Study_bestLeftOut.2.1 15 = .ok (.istore_n 1, 1) := by decide +kernel
theorem d_Study_bestLeftOut_16 : decode s_Study_bestLeftOut.2.1 16 = .ok (.iconst 0, 1) := by decide +kernel
theorem d_Study_bestLeftOut_17 : decode s_Study_bestLeftOut.2.1 17 = .ok (.istore_n 2, 1) := by decide +kernel
theorem d_Study_bestLeftOut_18 : decode s_Study_bestLeftOut.2.1 18 = .ok (.iload_n 2, 1) := by decide +kernel
theorem d_Study_bestLeftOut_19 : decode s_Study_bestLeftOut.2.1 19 = .ok (.aload_n 0, 1) := by decide +kernel
theorem d_Study_bestLeftOut_20 : decode s_Study_bestLeftOut.2.1 20 = .ok (.getfield 66, 3) := by decide +kernel
theorem d_Study_bestLeftOut_23 : decode s_Study_bestLeftOut.2.1 23 = .ok (.getfield 178, 3) := by decide +kernel
theorem d_Study_bestLeftOut_26 : decode s_Study_bestLeftOut.2.1 26 = .ok (.if_icmp .ge 25, 3) := by decide +kernel
theorem d_Study_bestLeftOut_29 : decode s_Study_bestLeftOut.2.1 29 = .ok (.aload_n 0, 1) := by decide +kernel
theorem d_Study_bestLeftOut_30 : decode s_Study_bestLeftOut.2.1 30 = .ok (.iload_n 2, 1) := by decide +kernel
theorem d_Study_bestLeftOut_31 : decode s_Study_bestLeftOut.2.1 31 = .ok (.invokevirtual 160, 3) := by decide +kernel
theorem d_Study_bestLeftOut_34 : decode s_Study_bestLeftOut.2.1 34 = .ok (.aload_n 0, 1) := by decide +kernel
theorem d_Study_bestLeftOut_35 : decode s_Study_bestLeftOut.2.1 35 = .ok (.iload_n 2, 1) := by decide +kernel
theorem d_Study_bestLeftOut_36 : decode s_Study_bestLeftOut.2.1 36 = .ok (.iload_n 1, 1) := by decide +kernel
theorem d_Study_bestLeftOut_37 : decode s_Study_bestLeftOut.2.1 37 = .ok (.invokevirtual 181, 3) := by decide +kernel
theorem d_Study_bestLeftOut_40 : decode s_Study_bestLeftOut.2.1 40 = .ok (.ifCond .eq 5, 3) := by decide +kernel
theorem d_Study_bestLeftOut_43 : decode s_Study_bestLeftOut.2.1 43 = .ok (.iload_n 2, 1) := by decide +kernel
theorem d_Study_bestLeftOut_44 : decode s_Study_bestLeftOut.2.1 44 = .ok (.istore_n 1, 1) := by decide +kernel
theorem d_Study_bestLeftOut_45 : decode s_Study_bestLeftOut.2.1 45 = .ok (.iinc 2 1, 3) := by decide +kernel
theorem d_Study_bestLeftOut_48 : decode s_Study_bestLeftOut.2.1 48 = .ok (.goto (-30), 3) := by decide +kernel
theorem d_Study_bestLeftOut_51 : decode s_Study_bestLeftOut.2.1 51 = .ok (.iload_n 1, 1) := by decide +kernel
theorem d_Study_bestLeftOut_52 : decode s_Study_bestLeftOut.2.1 52 = .ok (.ireturn, 1) := by decide +kernel
theorem d_PA_mend_0 : decode s_PA_mend.2.1 0 = .ok (.aload_n 0, 1) := by decide +kernel
theorem d_PA_mend_1 : decode s_PA_mend.2.1 1 = .ok (.getfield 84, 3) := by decide +kernel
theorem d_PA_mend_4 : decode s_PA_mend.2.1 4 = .ok (.ifCond .eq 13, 3) := by decide +kernel
theorem d_PA_mend_7 : decode s_PA_mend.2.1 7 = .ok (.aload_n 0, 1) := by decide +kernel
theorem d_PA_mend_8 : decode s_PA_mend.2.1 8 = .ok (.getfield 80, 3) := by decide +kernel
theorem d_PA_mend_11 : decode s_PA_mend.2.1 11 = .ok (.invokevirtual 267, 3) := by decide +kernel
theorem d_PA_mend_14 : decode s_PA_mend.2.1 14 = .ok (.goto 4, 3) := by decide +kernel
theorem d_PA_mend_17 : decode s_PA_mend.2.1 17 = .ok (.iconst (-1), 1) := by decide +kernel
theorem d_PA_mend_18 : decode s_PA_mend.2.1 18 = .ok (.ireturn, 1) := by decide +kernel
theorem d_PA_now_0 : decode s_PA_now.2.1 0 = .ok (.aload_n 0, 1) := by decide +kernel
theorem d_PA_now_1 : decode s_PA_now.2.1 1 = .ok (.getfield 84, 3) := by decide +kernel
theorem d_PA_now_4 : decode s_PA_now.2.1 4 = .ok (.ifCond .ne 5, 3) := by decide +kernel
theorem d_PA_now_7 : decode s_PA_now.2.1 7 = .ok (.iconst (-1), 1) := by decide +kernel
theorem d_PA_now_8 : decode s_PA_now.2.1 8 = .ok (.ireturn, 1) := by decide +kernel
theorem d_PA_now_9 : decode s_PA_now.2.1 9 = .ok (.iload_n 1, 1) := by decide +kernel
theorem d_PA_now_10 : decode s_PA_now.2.1 10 = .ok (.iconst (-1), 1) := by decide +kernel
theorem d_PA_now_11 : decode s_PA_now.2.1 11 = .ok (.if_icmp .ne 66, 3) := by decide +kernel
theorem d_PA_now_14 : decode s_PA_now.2.1 14 = .ok (.iload_n 2, 1) := by decide +kernel
theorem d_PA_now_15 : decode s_PA_now.2.1 15 = .ok (.tableswitch 60 0 2 #[25, 33, 45], 25) := by decide +kernel
theorem d_PA_now_40 : decode s_PA_now.2.1 40 = .ok (.aload_n 0, 1) := by decide +kernel
theorem d_PA_now_41 : decode s_PA_now.2.1 41 = .ok (.getfield 46, 3) := by decide +kernel
theorem d_PA_now_44 : decode s_PA_now.2.1 44 = .ok (.getfield 270, 3) := by decide +kernel
theorem d_PA_now_47 : decode s_PA_now.2.1 47 = .ok (.ireturn, 1) := by decide +kernel
theorem d_PA_now_48 : decode s_PA_now.2.1 48 = .ok (.aload_n 0, 1) := by decide +kernel
theorem d_PA_now_49 : decode s_PA_now.2.1 49 = .ok (.getfield 32, 3) := by decide +kernel
theorem d_PA_now_52 : decode s_PA_now.2.1 52 = .ok (.aload_n 0, 1) := by decide +kernel
theorem d_PA_now_53 : decode s_PA_now.2.1 53 = .ok (.getfield 46, 3) := by decide +kernel
theorem d_PA_now_56 : decode s_PA_now.2.1 56 = .ok (.invokevirtual 272, 3) := by decide +kernel
theorem d_PA_now_59 : decode s_PA_now.2.1 59 = .ok (.ireturn, 1) := by decide +kernel
theorem d_PA_now_60 : decode s_PA_now.2.1 60 = .ok (.aload_n 0, 1) := by decide +kernel
theorem d_PA_now_61 : decode s_PA_now.2.1 61 = .ok (.getfield 71, 3) := by decide +kernel
theorem d_PA_now_64 : decode s_PA_now.2.1 64 = .ok (.aload_n 0, 1) := by decide +kernel
theorem d_PA_now_65 : decode s_PA_now.2.1 65 = .ok (.getfield 46, 3) := by decide +kernel
theorem d_PA_now_68 : decode s_PA_now.2.1 68 = .ok (.invokevirtual 276, 3) := by decide +kernel
theorem d_PA_now_71 : decode s_PA_now.2.1 71 = .ok (.invokestatic 207, 3) := by decide +kernel
theorem d_PA_now_74 : decode s_PA_now.2.1 74 = .ok (.ireturn, 1) := by decide +kernel
theorem d_PA_now_75 : decode s_PA_now.2.1 75 = .ok (.iconst (-1), 1) := by decide +kernel
theorem d_PA_now_76 : decode s_PA_now.2.1 76 = .ok (.ireturn, 1) := by decide +kernel
theorem d_PA_now_77 : decode s_PA_now.2.1 77 = .ok (.aload_n 0, 1) := by decide +kernel
theorem d_PA_now_78 : decode s_PA_now.2.1 78 = .ok (.iload_n 1, 1) := by decide +kernel
theorem d_PA_now_79 : decode s_PA_now.2.1 79 = .ok (.invokevirtual 217, 3) := by decide +kernel
theorem d_PA_now_82 : decode s_PA_now.2.1 82 = .ok (.ifCond .eq 19, 3) := by decide +kernel
theorem d_PA_now_85 : decode s_PA_now.2.1 85 = .ok (.aload_n 0, 1) := by decide +kernel
theorem d_PA_now_86 : decode s_PA_now.2.1 86 = .ok (.getfield 46, 3) := by decide +kernel
theorem d_PA_now_89 : decode s_PA_now.2.1 89 = .ok (.getfield 280, 3) := by decide +kernel
theorem d_PA_now_92 : decode s_PA_now.2.1 92 = .ok (.iload_n 1, 1) := by decide +kernel
theorem d_PA_now_93 : decode s_PA_now.2.1 93 = .ok (.iaload, 1) := by decide +kernel
theorem d_PA_now_94 : decode s_PA_now.2.1 94 = .ok (.iload_n 2, 1) := by decide +kernel
theorem d_PA_now_95 : decode s_PA_now.2.1 95 = .ok (.invokestatic 229, 3) := by decide +kernel
theorem d_PA_now_98 : decode s_PA_now.2.1 98 = .ok (.goto 4, 3) := by decide +kernel
theorem d_PA_now_101 : decode s_PA_now.2.1 101 = .ok (.iconst (-1), 1) := by decide +kernel
theorem d_PA_now_102 : decode s_PA_now.2.1 102 = .ok (.ireturn, 1) := by decide +kernel
theorem d_PA_can_0 : decode s_PA_can.2.1 0 = .ok (.aload_n 0, 1) := by decide +kernel
theorem d_PA_can_1 : decode s_PA_can.2.1 1 = .ok (.iload_n 1, 1) := by decide +kernel
theorem d_PA_can_2 : decode s_PA_can.2.1 2 = .ok (.invokevirtual 181, 3) := by decide +kernel
theorem d_PA_can_5 : decode s_PA_can.2.1 5 = .ok (.ifCond .eq 11, 3) := by decide +kernel
theorem d_PA_can_8 : decode s_PA_can.2.1 8 = .ok (.aload_n 0, 1) := by decide +kernel
theorem d_PA_can_9 : decode s_PA_can.2.1 9 = .ok (.iload_n 2, 1) := by decide +kernel
theorem d_PA_can_10 : decode s_PA_can.2.1 10 = .ok (.invokevirtual 217, 3) := by decide +kernel
theorem d_PA_can_13 : decode s_PA_can.2.1 13 = .ok (.ifCond .ne 5, 3) := by decide +kernel
theorem d_PA_can_16 : decode s_PA_can.2.1 16 = .ok (.iconst (-1), 1) := by decide +kernel
theorem d_PA_can_17 : decode s_PA_can.2.1 17 = .ok (.ireturn, 1) := by decide +kernel
theorem d_PA_can_18 : decode s_PA_can.2.1 18 = .ok (.aload_n 0, 1) := by decide +kernel
theorem d_PA_can_19 : decode s_PA_can.2.1 19 = .ok (.getfield 71, 3) := by decide +kernel
theorem d_PA_can_22 : decode s_PA_can.2.1 22 = .ok (.aload_n 0, 1) := by decide +kernel
theorem d_PA_can_23 : decode s_PA_can.2.1 23 = .ok (.getfield 46, 3) := by decide +kernel
theorem d_PA_can_26 : decode s_PA_can.2.1 26 = .ok (.iload_n 1, 1) := by decide +kernel
theorem d_PA_can_27 : decode s_PA_can.2.1 27 = .ok (.iload_n 2, 1) := by decide +kernel
theorem d_PA_can_28 : decode s_PA_can.2.1 28 = .ok (.aload_n 0, 1) := by decide +kernel
theorem d_PA_can_29 : decode s_PA_can.2.1 29 = .ok (.getfield 50, 3) := by decide +kernel
theorem d_PA_can_32 : decode s_PA_can.2.1 32 = .ok (.invokevirtual 281, 3) := by decide +kernel
theorem d_PA_can_35 : decode s_PA_can.2.1 35 = .ok (.invokestatic 207, 3) := by decide +kernel
theorem d_PA_can_38 : decode s_PA_can.2.1 38 = .ok (.ireturn, 1) := by decide +kernel
theorem d_PA_remember_0 : decode s_PA_remember.2.1 0 = .ok (.aload_n 0, 1) := by decide +kernel
theorem d_PA_remember_1 : decode s_PA_remember.2.1 1 = .ok (.getfield 88, 3) := by decide +kernel
theorem d_PA_remember_4 : decode s_PA_remember.2.1 4 = .ok (.bipush 20, 2) := by decide +kernel
theorem d_PA_remember_6 : decode s_PA_remember.2.1 6 = .ok (.if_icmp .ne 28, 3) := by decide +kernel
theorem d_PA_remember_9 : decode s_PA_remember.2.1 9 = .ok (.aload_n 0, 1) := by decide +kernel
theorem d_PA_remember_10 : decode s_PA_remember.2.1 10 = .ok (.getfield 53, 3) := by decide +kernel
theorem d_PA_remember_13 : decode s_PA_remember.2.1 13 = .ok (.iconst 1, 1) := by decide +kernel
theorem d_PA_remember_14 : decode s_PA_remember.2.1 14 = .ok (.aload_n 0, 1) := by decide +kernel
theorem d_PA_remember_15 : decode s_PA_remember.2.1 15 = .ok (.getfield 53, 3) := by decide +kernel
theorem d_PA_remember_18 : decode s_PA_remember.2.1 18 = .ok (.iconst 0, 1) := by decide +kernel
theorem d_PA_remember_19 : decode s_PA_remember.2.1 19 = .ok (.bipush 19, 2) := by decide +kernel
theorem d_PA_remember_21 : decode s_PA_remember.2.1 21 = .ok (.invokestatic 362, 3) := by decide +kernel
theorem d_PA_remember_24 : decode s_PA_remember.2.1 24 = .ok (.aload_n 0, 1) := by decide +kernel
theorem d_PA_remember_25 : decode s_PA_remember.2.1 25 = .ok (.dup, 1) := by decide +kernel
theorem d_PA_remember_26 : decode s_PA_remember.2.1 26 = .ok (.getfield 88, 3) := by decide +kernel
theorem d_PA_remember_29 : decode s_PA_remember.2.1 29 = .ok (.iconst 1, 1) := by decide +kernel
theorem d_PA_remember_30 : decode s_PA_remember.2.1 30 = .ok (.isub, 1) := by decide +kernel
theorem d_PA_remember_31 : decode s_PA_remember.2.1 31 = .ok (.putfield 88, 3) := by decide +kernel
theorem d_PA_remember_34 : decode s_PA_remember.2.1 34 = .ok (.aload_n 0, 1) := by decide +kernel
theorem d_PA_remember_35 : decode s_PA_remember.2.1 35 = .ok (.getfield 53, 3) := by decide +kernel
theorem d_PA_remember_38 : decode s_PA_remember.2.1 38 = .ok (.aload_n 0, 1) := by decide +kernel
theorem d_PA_remember_39 : decode s_PA_remember.2.1 39 = .ok (.getfield 88, 3) := by decide +kernel
theorem d_PA_remember_42 : decode s_PA_remember.2.1 42 = .ok (.aload_n 0, 1) := by decide +kernel
theorem d_PA_remember_43 : decode s_PA_remember.2.1 43 = .ok (.getfield 46, 3) := by decide +kernel
theorem d_PA_remember_46 : decode s_PA_remember.2.1 46 = .ok (.invokevirtual 368, 3) := by decide +kernel
theorem d_PA_remember_49 : decode s_PA_remember.2.1 49 = .ok (.lastore, 1) := by decide +kernel
theorem d_PA_remember_50 : decode s_PA_remember.2.1 50 = .ok (.aload_n 0, 1) := by decide +kernel
theorem d_PA_remember_51 : decode s_PA_remember.2.1 51 = .ok (.dup, 1) := by decide +kernel
theorem d_PA_remember_52 : decode s_PA_remember.2.1 52 = .ok (.getfield 88, 3) := by decide +kernel
theorem d_PA_remember_55 : decode s_PA_remember.2.1 55 = .ok (.iconst 1, 1) := by decide +kernel
theorem d_PA_remember_56 : decode s_PA_remember.2.1 56 = .ok (.iadd, 1) := by decide +kernel
theorem d_PA_remember_57 : decode s_PA_remember.2.1 57 = .ok (.putfield 88, 3) := by decide +kernel
theorem d_PA_remember_60 : decode s_PA_remember.2.1 60 = .ok (.return_, 1) := by decide +kernel
theorem d_PA_move_0 : decode s_PA_move.2.1 0 = .ok (.aload_n 0, 1) := by decide +kernel
theorem d_PA_move_1 : decode s_PA_move.2.1 1 = .ok (.iload_n 1, 1) := by decide +kernel
theorem d_PA_move_2 : decode s_PA_move.2.1 2 = .ok (.invokevirtual 181, 3) := by decide +kernel
theorem d_PA_move_5 : decode s_PA_move.2.1 5 = .ok (.ifCond .eq 31, 3) := by decide +kernel
theorem d_PA_move_8 : decode s_PA_move.2.1 8 = .ok (.aload_n 0, 1) := by decide +kernel
theorem d_PA_move_9 : decode s_PA_move.2.1 9 = .ok (.iload_n 2, 1) := by decide +kernel
theorem d_PA_move_10 : decode s_PA_move.2.1 10 = .ok (.invokevirtual 217, 3) := by decide +kernel
theorem d_PA_move_13 : decode s_PA_move.2.1 13 = .ok (.ifCond .eq 23, 3) := by decide +kernel
theorem d_PA_move_16 : decode s_PA_move.2.1 16 = .ok (.aload_n 0, 1) := by decide +kernel
theorem d_PA_move_17 : decode s_PA_move.2.1 17 = .ok (.getfield 71, 3) := by decide +kernel
theorem d_PA_move_20 : decode s_PA_move.2.1 20 = .ok (.aload_n 0, 1) := by decide +kernel
theorem d_PA_move_21 : decode s_PA_move.2.1 21 = .ok (.getfield 46, 3) := by decide +kernel
theorem d_PA_move_24 : decode s_PA_move.2.1 24 = .ok (.iload_n 1, 1) := by decide +kernel
theorem d_PA_move_25 : decode s_PA_move.2.1 25 = .ok (.iload_n 2, 1) := by decide +kernel
theorem d_PA_move_26 : decode s_PA_move.2.1 26 = .ok (.aload_n 0, 1) := by decide +kernel
theorem d_PA_move_27 : decode s_PA_move.2.1 27 = .ok (.getfield 50, 3) := by decide +kernel
theorem d_PA_move_30 : decode s_PA_move.2.1 30 = .ok (.invokevirtual 281, 3) := by decide +kernel
theorem d_PA_move_33 : decode s_PA_move.2.1 33 = .ok (.ifCond .ne 9, 3) := by decide +kernel
theorem d_PA_move_36 : decode s_PA_move.2.1 36 = .ok (.aload_n 0, 1) := by decide +kernel
theorem d_PA_move_37 : decode s_PA_move.2.1 37 = .ok (.iconst 2, 1) := by decide +kernel
theorem d_PA_move_38 : decode s_PA_move.2.1 38 = .ok (.invokevirtual 100, 3) := by decide +kernel
theorem d_PA_move_41 : decode s_PA_move.2.1 41 = .ok (.ireturn, 1) := by decide +kernel
theorem d_PA_move_42 : decode s_PA_move.2.1 42 = .ok (.aload_n 0, 1) := by decide +kernel
theorem d_PA_move_43 : decode s_PA_move.2.1 43 = .ok (.invokevirtual 285, 3) := by decide +kernel
theorem d_PA_move_46 : decode s_PA_move.2.1 46 = .ok (.aload_n 0, 1) := by decide +kernel
theorem d_PA_move_47 : decode s_PA_move.2.1 47 = .ok (.getfield 46, 3) := by decide +kernel
theorem d_PA_move_50 : decode s_PA_move.2.1 50 = .ok (.aload_n 0, 1) := by decide +kernel
theorem d_PA_move_51 : decode s_PA_move.2.1 51 = .ok (.getfield 50, 3) := by decide +kernel
theorem d_PA_move_54 : decode s_PA_move.2.1 54 = .ok (.invokevirtual 288, 3) := by decide +kernel
theorem d_PA_move_57 : decode s_PA_move.2.1 57 = .ok (.aload_n 0, 1) := by decide +kernel
theorem d_PA_move_58 : decode s_PA_move.2.1 58 = .ok (.getfield 32, 3) := by decide +kernel
theorem d_PA_move_61 : decode s_PA_move.2.1 61 = .ok (.aload_n 0, 1) := by decide +kernel
theorem d_PA_move_62 : decode s_PA_move.2.1 62 = .ok (.getfield 46, 3) := by decide +kernel
theorem d_PA_move_65 : decode s_PA_move.2.1 65 = .ok (.invokevirtual 272, 3) := by decide +kernel
theorem d_PA_move_68 : decode s_PA_move.2.1 68 = .ok (.ireturn, 1) := by decide +kernel
theorem d_PA_jump_0 : decode s_PA_jump.2.1 0 = .ok (.aload_n 0, 1) := by decide +kernel
theorem d_PA_jump_1 : decode s_PA_jump.2.1 1 = .ok (.iload_n 1, 1) := by decide +kernel
theorem d_PA_jump_2 : decode s_PA_jump.2.1 2 = .ok (.invokevirtual 194, 3) := by decide +kernel
theorem d_PA_jump_5 : decode s_PA_jump.2.1 5 = .ok (.ifCond .ne 11, 3) := by decide +kernel
theorem d_PA_jump_8 : decode s_PA_jump.2.1 8 = .ok (.aload_n 0, 1) := by decide +kernel
theorem d_PA_jump_9 : decode s_PA_jump.2.1 9 = .ok (.iconst 2, 1) := by decide +kernel
theorem d_PA_jump_10 : decode s_PA_jump.2.1 10 = .ok (.invokevirtual 100, 3) := by decide +kernel
theorem d_PA_jump_13 : decode s_PA_jump.2.1 13 = .ok (.pop, 1) := by decide +kernel
theorem d_PA_jump_14 : decode s_PA_jump.2.1 14 = .ok (.iconst 0, 1) := by decide +kernel
theorem d_PA_jump_15 : decode s_PA_jump.2.1 15 = .ok (.ireturn, 1) := by decide +kernel
theorem d_PA_jump_16 : decode s_PA_jump.2.1 16 = .ok (.aload_n 0, 1) := by decide +kernel
theorem d_PA_jump_17 : decode s_PA_jump.2.1 17 = .ok (.invokevirtual 285, 3) := by decide +kernel
theorem d_PA_jump_20 : decode s_PA_jump.2.1 20 = .ok (.aload_n 0, 1) := by decide +kernel
theorem d_PA_jump_21 : decode s_PA_jump.2.1 21 = .ok (.getfield 46, 3) := by decide +kernel
theorem d_PA_jump_24 : decode s_PA_jump.2.1 24 = .ok (.aload_n 0, 1) := by decide +kernel
theorem d_PA_jump_25 : decode s_PA_jump.2.1 25 = .ok (.getfield 32, 3) := by decide +kernel
theorem d_PA_jump_28 : decode s_PA_jump.2.1 28 = .ok (.getfield 292, 3) := by decide +kernel
theorem d_PA_jump_31 : decode s_PA_jump.2.1 31 = .ok (.iload_n 1, 1) := by decide +kernel
theorem d_PA_jump_32 : decode s_PA_jump.2.1 32 = .ok (.laload, 1) := by decide +kernel
theorem d_PA_jump_33 : decode s_PA_jump.2.1 33 = .ok (.aload_n 0, 1) := by decide +kernel
theorem d_PA_jump_34 : decode s_PA_jump.2.1 34 = .ok (.getfield 71, 3) := by decide +kernel
theorem d_PA_jump_37 : decode s_PA_jump.2.1 37 = .ok (.getfield 143, 3) := by decide +kernel
theorem d_PA_jump_40 : decode s_PA_jump.2.1 40 = .ok (.invokevirtual 295, 3) := by decide +kernel
theorem d_PA_jump_43 : decode s_PA_jump.2.1 43 = .ok (.iconst 1, 1) := by decide +kernel
theorem d_PA_jump_44 : decode s_PA_jump.2.1 44 = .ok (.ireturn, 1) := by decide +kernel
theorem d_Table_choices_0 : decode s_Table_choices.2.1 0 = .ok (.iconst 0, 1) := by decide +kernel
theorem d_Table_choices_1 : decode s_Table_choices.2.1 1 = .ok (.istore_n 3, 1) := by decide +kernel
theorem d_Table_choices_2 : decode s_Table_choices.2.1 2 = .ok (.iconst 0, 1) := by decide +kernel
theorem d_Table_choices_3 : decode s_Table_choices.2.1 3 = .ok (.istore 4, 2) := by decide +kernel
theorem d_Table_choices_5 : decode s_Table_choices.2.1 5 = .ok (.iload 4, 2) := by decide +kernel
theorem d_Table_choices_7 : decode s_Table_choices.2.1 7 = .ok (.aload_n 0, 1) := by decide +kernel
theorem d_Table_choices_8 : decode s_Table_choices.2.1 8 = .ok (.getfield 26, 3) := by decide +kernel
theorem d_Table_choices_11 : decode s_Table_choices.2.1 11 = .ok (.if_icmp .ge 48, 3) := by decide +kernel
theorem d_Table_choices_14 : decode s_Table_choices.2.1 14 = .ok (.iconst 0, 1) := by decide +kernel
theorem d_Table_choices_15 : decode s_Table_choices.2.1 15 = .ok (.istore 5, 2) := by decide +kernel
theorem d_Table_choices_17 : decode s_Table_choices.2.1 17 = .ok (.iload 5, 2) := by decide +kernel
theorem d_Table_choices_19 : decode s_Table_choices.2.1 19 = .ok (.aload_n 0, 1) := by decide +kernel
theorem d_Table_choices_20 : decode s_Table_choices.2.1 20 = .ok (.getfield 9, 3) := by decide +kernel
theorem d_Table_choices_23 : decode s_Table_choices.2.1 23 = .ok (.if_icmp .ge 30, 3) := by decide +kernel
theorem d_Table_choices_26 : decode s_Table_choices.2.1 26 = .ok (.iload_n 3, 1) := by decide +kernel
theorem d_Table_choices_27 : decode s_Table_choices.2.1 27 = .ok (.aload_n 0, 1) := by decide +kernel
theorem d_Table_choices_28 : decode s_Table_choices.2.1 28 = .ok (.aload_n 1, 1) := by decide +kernel
theorem d_Table_choices_29 : decode s_Table_choices.2.1 29 = .ok (.iload 4, 2) := by decide +kernel
theorem d_Table_choices_31 : decode s_Table_choices.2.1 31 = .ok (.iload 5, 2) := by decide +kernel
theorem d_Table_choices_33 : decode s_Table_choices.2.1 33 = .ok (.aload_n 2, 1) := by decide +kernel
theorem d_Table_choices_34 : decode s_Table_choices.2.1 34 = .ok (.invokevirtual 91, 3) := by decide +kernel
theorem d_Table_choices_37 : decode s_Table_choices.2.1 37 = .ok (.ifCond .eq 7, 3) := by decide +kernel
theorem d_Table_choices_40 : decode s_Table_choices.2.1 40 = .ok (.iconst 1, 1) := by decide +kernel
theorem d_Table_choices_41 : decode s_Table_choices.2.1 41 = .ok (.goto 4, 3) := by decide +kernel
theorem d_Table_choices_44 : decode s_Table_choices.2.1 44 = .ok (.iconst 0, 1) := by decide +kernel
theorem d_Table_choices_45 : decode s_Table_choices.2.1 45 = .ok (.iadd, 1) := by decide +kernel
theorem d_Table_choices_46 : decode s_Table_choices.2.1 46 = .ok (.istore_n 3, 1) := by decide +kernel
theorem d_Table_choices_47 : decode s_Table_choices.2.1 47 = .ok (.iinc 5 1, 3) := by decide +kernel
theorem d_Table_choices_50 : decode s_Table_choices.2.1 50 = .ok (.goto (-33), 3) := by decide +kernel
theorem d_Table_choices_53 : decode s_Table_choices.2.1 53 = .ok (.iinc 4 1, 3) := by decide +kernel
theorem d_Table_choices_56 : decode s_Table_choices.2.1 56 = .ok (.goto (-51), 3) := by decide +kernel
theorem d_Table_choices_59 : decode s_Table_choices.2.1 59 = .ok (.iload_n 3, 1) := by decide +kernel
theorem d_Table_choices_60 : decode s_Table_choices.2.1 60 = .ok (.ireturn, 1) := by decide +kernel
theorem d_PA_draw_0 : decode s_PA_draw.2.1 0 = .ok (.aload_n 0, 1) := by decide +kernel
theorem d_PA_draw_1 : decode s_PA_draw.2.1 1 = .ok (.ldc2_w 372, 3) := by decide +kernel
theorem d_PA_draw_4 : decode s_PA_draw.2.1 4 = .ok (.aload_n 0, 1) := by decide +kernel
theorem d_PA_draw_5 : decode s_PA_draw.2.1 5 = .ok (.getfield 92, 3) := by decide +kernel
theorem d_PA_draw_8 : decode s_PA_draw.2.1 8 = .ok (.lmul, 1) := by decide +kernel
theorem d_PA_draw_9 : decode s_PA_draw.2.1 9 = .ok (.ldc2_w 374, 3) := by decide +kernel
theorem d_PA_draw_12 : decode s_PA_draw.2.1 12 = .ok (.ladd, 1) := by decide +kernel
theorem d_PA_draw_13 : decode s_PA_draw.2.1 13 = .ok (.ldc2_w 376, 3) := by decide +kernel
theorem d_PA_draw_16 : decode s_PA_draw.2.1 16 = .ok (.land, 1) := by decide +kernel
theorem d_PA_draw_17 : decode s_PA_draw.2.1 17 = .ok (.putfield 92, 3) := by decide +kernel
theorem d_PA_draw_20 : decode s_PA_draw.2.1 20 = .ok (.iload_n 1, 1) := by decide +kernel
theorem d_PA_draw_21 : decode s_PA_draw.2.1 21 = .ok (.ifCond .le 18, 3) := by decide +kernel
theorem d_PA_draw_24 : decode s_PA_draw.2.1 24 = .ok (.aload_n 0, 1) := by decide +kernel
theorem d_PA_draw_25 : decode s_PA_draw.2.1 25 = .ok (.getfield 92, 3) := by decide +kernel
theorem d_PA_draw_28 : decode s_PA_draw.2.1 28 = .ok (.ldc2_w 378, 3) := by decide +kernel
theorem d_PA_draw_31 : decode s_PA_draw.2.1 31 = .ok (.ldiv, 1) := by decide +kernel
theorem d_PA_draw_32 : decode s_PA_draw.2.1 32 = .ok (.iload_n 1, 1) := by decide +kernel
theorem d_PA_draw_33 : decode s_PA_draw.2.1 33 = .ok (.i2l, 1) := by decide +kernel
theorem d_PA_draw_34 : decode s_PA_draw.2.1 34 = .ok (.lrem, 1) := by decide +kernel
theorem d_PA_draw_35 : decode s_PA_draw.2.1 35 = .ok (.l2i, 1) := by decide +kernel
theorem d_PA_draw_36 : decode s_PA_draw.2.1 36 = .ok (.goto 4, 3) := by decide +kernel
theorem d_PA_draw_39 : decode s_PA_draw.2.1 39 = .ok (.iconst 0, 1) := by decide +kernel
theorem d_PA_draw_40 : decode s_PA_draw.2.1 40 = .ok (.ireturn, 1) := by decide +kernel
theorem d_Table_choose_0 : decode s_Table_choose.2.1 0 = .ok (.iload_n 2, 1) := by decide +kernel
theorem d_Table_choose_1 : decode s_Table_choose.2.1 1 = .ok (.istore 4, 2) := by decide +kernel
theorem d_Table_choose_3 : decode s_Table_choose.2.1 3 = .ok (.iconst 0, 1) := by decide +kernel
theorem d_Table_choose_4 : decode s_Table_choose.2.1 4 = .ok (.istore 5, 2) := by decide +kernel
theorem d_Table_choose_6 : decode s_Table_choose.2.1 6 = .ok (.iload 5, 2) := by decide +kernel
theorem d_Table_choose_8 : decode s_Table_choose.2.1 8 = .ok (.aload_n 0, 1) := by decide +kernel
theorem d_Table_choose_9 : decode s_Table_choose.2.1 9 = .ok (.getfield 26, 3) := by decide +kernel
theorem d_Table_choose_12 : decode s_Table_choose.2.1 12 = .ok (.if_icmp .ge 49, 3) := by decide +kernel
theorem d_Table_choose_15 : decode s_Table_choose.2.1 15 = .ok (.iconst 0, 1) := by decide +kernel
theorem d_Table_choose_16 : decode s_Table_choose.2.1 16 = .ok (.istore 6, 2) := by decide +kernel
theorem d_Table_choose_18 : decode s_Table_choose.2.1 18 = .ok (.iload 6, 2) := by decide +kernel
theorem d_Table_choose_20 : decode s_Table_choose.2.1 20 = .ok (.aload_n 0, 1) := by decide +kernel
theorem d_Table_choose_21 : decode s_Table_choose.2.1 21 = .ok (.getfield 9, 3) := by decide +kernel
theorem d_Table_choose_24 : decode s_Table_choose.2.1 24 = .ok (.if_icmp .ge 31, 3) := by decide +kernel
theorem d_Table_choose_27 : decode s_Table_choose.2.1 27 = .ok (.aload_n 0, 1) := by decide +kernel
theorem d_Table_choose_28 : decode s_Table_choose.2.1 28 = .ok (.aload_n 1, 1) := by decide +kernel
theorem d_Table_choose_29 : decode s_Table_choose.2.1 29 = .ok (.iload 5, 2) := by decide +kernel
theorem d_Table_choose_31 : decode s_Table_choose.2.1 31 = .ok (.iload 6, 2) := by decide +kernel
theorem d_Table_choose_33 : decode s_Table_choose.2.1 33 = .ok (.aload_n 3, 1) := by decide +kernel
theorem d_Table_choose_34 : decode s_Table_choose.2.1 34 = .ok (.invokevirtual 91, 3) := by decide +kernel
theorem d_Table_choose_37 : decode s_Table_choose.2.1 37 = .ok (.ifCond .eq 12, 3) := by decide +kernel
theorem d_Table_choose_40 : decode s_Table_choose.2.1 40 = .ok (.iload 4, 2) := by decide +kernel
theorem d_Table_choose_42 : decode s_Table_choose.2.1 42 = .ok (.ifCond .ne 4, 3) := by decide +kernel
theorem d_Table_choose_45 : decode s_Table_choose.2.1 45 = .ok (.return_, 1) := by decide +kernel
theorem d_Table_choose_46 : decode s_Table_choose.2.1 46 = .ok (.iinc 4 (-1), 3) := by decide +kernel
theorem d_Table_choose_49 : decode s_Table_choose.2.1 49 = .ok (.iinc 6 1, 3) := by decide +kernel
theorem d_Table_choose_52 : decode s_Table_choose.2.1 52 = .ok (.goto (-34), 3) := by decide +kernel
theorem d_Table_choose_55 : decode s_Table_choose.2.1 55 = .ok (.iinc 5 1, 3) := by decide +kernel
theorem d_Table_choose_58 : decode s_Table_choose.2.1 58 = .ok (.goto (-52), 3) := by decide +kernel
theorem d_Table_choose_61 : decode s_Table_choose.2.1 61 = .ok (.return_, 1) := by decide +kernel
theorem d_PA_chance_0 : decode s_PA_chance.2.1 0 = .ok (.aload_n 0, 1) := by decide +kernel
theorem d_PA_chance_1 : decode s_PA_chance.2.1 1 = .ok (.getfield 84, 3) := by decide +kernel
theorem d_PA_chance_4 : decode s_PA_chance.2.1 4 = .ok (.ifCond .eq 14, 3) := by decide +kernel
theorem d_PA_chance_7 : decode s_PA_chance.2.1 7 = .ok (.iload_n 1, 1) := by decide +kernel
theorem d_PA_chance_8 : decode s_PA_chance.2.1 8 = .ok (.iconst 1, 1) := by decide +kernel
theorem d_PA_chance_9 : decode s_PA_chance.2.1 9 = .ok (.if_icmp .lt 9, 3) := by decide +kernel
theorem d_PA_chance_12 : decode s_PA_chance.2.1 12 = .ok (.iload_n 1, 1) := by decide +kernel
theorem d_PA_chance_13 : decode s_PA_chance.2.1 13 = .ok (.bipush 100, 2) := by decide +kernel
theorem d_PA_chance_15 : decode s_PA_chance.2.1 15 = .ok (.if_icmp .le 9, 3) := by decide +kernel
theorem d_PA_chance_18 : decode s_PA_chance.2.1 18 = .ok (.aload_n 0, 1) := by decide +kernel
theorem d_PA_chance_19 : decode s_PA_chance.2.1 19 = .ok (.iconst 3, 1) := by decide +kernel
theorem d_PA_chance_20 : decode s_PA_chance.2.1 20 = .ok (.invokevirtual 100, 3) := by decide +kernel
theorem d_PA_chance_23 : decode s_PA_chance.2.1 23 = .ok (.ireturn, 1) := by decide +kernel
theorem d_PA_chance_24 : decode s_PA_chance.2.1 24 = .ok (.aload_n 0, 1) := by decide +kernel
theorem d_PA_chance_25 : decode s_PA_chance.2.1 25 = .ok (.invokevirtual 285, 3) := by decide +kernel
theorem d_PA_chance_28 : decode s_PA_chance.2.1 28 = .ok (.iconst 0, 1) := by decide +kernel
theorem d_PA_chance_29 : decode s_PA_chance.2.1 29 = .ok (.istore_n 2, 1) := by decide +kernel
theorem d_PA_chance_30 : decode s_PA_chance.2.1 30 = .ok (.iconst 0, 1) := by decide +kernel
theorem d_PA_chance_31 : decode s_PA_chance.2.1 31 = .ok (.istore_n 3, 1) := by decide +kernel
theorem d_PA_chance_32 : decode s_PA_chance.2.1 32 = .ok (.iload_n 3, 1) := by decide +kernel
theorem d_PA_chance_33 : decode s_PA_chance.2.1 33 = .ok (.iload_n 1, 1) := by decide +kernel
theorem d_PA_chance_34 : decode s_PA_chance.2.1 34 = .ok (.if_icmp .ge 69, 3) := by decide +kernel
theorem d_PA_chance_37 : decode s_PA_chance.2.1 37 = .ok (.aload_n 0, 1) := by decide +kernel
theorem d_PA_chance_38 : decode s_PA_chance.2.1 38 = .ok (.getfield 71, 3) := by decide +kernel
theorem d_PA_chance_41 : decode s_PA_chance.2.1 41 = .ok (.aload_n 0, 1) := by decide +kernel
theorem d_PA_chance_42 : decode s_PA_chance.2.1 42 = .ok (.getfield 46, 3) := by decide +kernel
theorem d_PA_chance_45 : decode s_PA_chance.2.1 45 = .ok (.aload_n 0, 1) := by decide +kernel
theorem d_PA_chance_46 : decode s_PA_chance.2.1 46 = .ok (.getfield 50, 3) := by decide +kernel
theorem d_PA_chance_49 : decode s_PA_chance.2.1 49 = .ok (.invokevirtual 299, 3) := by decide +kernel
theorem d_PA_chance_52 : decode s_PA_chance.2.1 52 = .ok (.istore 4, 2) := by decide +kernel
theorem d_PA_chance_54 : decode s_PA_chance.2.1 54 = .ok (.iload 4, 2) := by decide +kernel
theorem d_PA_chance_56 : decode s_PA_chance.2.1 56 = .ok (.ifCond .ne 6, 3) := by decide +kernel
theorem d_PA_chance_59 : decode s_PA_chance.2.1 59 = .ok (.goto 44, 3) := by decide +kernel
theorem d_PA_chance_62 : decode s_PA_chance.2.1 62 = .ok (.aload_n 0, 1) := by decide +kernel
theorem d_PA_chance_63 : decode s_PA_chance.2.1 63 = .ok (.getfield 71, 3) := by decide +kernel
theorem d_PA_chance_66 : decode s_PA_chance.2.1 66 = .ok (.aload_n 0, 1) := by decide +kernel
theorem d_PA_chance_67 : decode s_PA_chance.2.1 67 = .ok (.getfield 46, 3) := by decide +kernel
theorem d_PA_chance_70 : decode s_PA_chance.2.1 70 = .ok (.aload_n 0, 1) := by decide +kernel
theorem d_PA_chance_71 : decode s_PA_chance.2.1 71 = .ok (.iload 4, 2) := by decide +kernel
theorem d_PA_chance_73 : decode s_PA_chance.2.1 73 = .ok (.invokevirtual 303, 3) := by decide +kernel
theorem d_PA_chance_76 : decode s_PA_chance.2.1 76 = .ok (.aload_n 0, 1) := by decide +kernel
theorem d_PA_chance_77 : decode s_PA_chance.2.1 77 = .ok (.getfield 50, 3) := by decide +kernel
theorem d_PA_chance_80 : decode s_PA_chance.2.1 80 = .ok (.invokevirtual 306, 3) := by decide +kernel
theorem d_PA_chance_83 : decode s_PA_chance.2.1 83 = .ok (.aload_n 0, 1) := by decide +kernel
theorem d_PA_chance_84 : decode s_PA_chance.2.1 84 = .ok (.getfield 46, 3) := by decide +kernel
theorem d_PA_chance_87 : decode s_PA_chance.2.1 87 = .ok (.aload_n 0, 1) := by decide +kernel
theorem d_PA_chance_88 : decode s_PA_chance.2.1 88 = .ok (.getfield 50, 3) := by decide +kernel
theorem d_PA_chance_91 : decode s_PA_chance.2.1 91 = .ok (.invokevirtual 288, 3) := by decide +kernel
theorem d_PA_chance_94 : decode s_PA_chance.2.1 94 = .ok (.iinc 2 1, 3) := by decide +kernel
theorem d_PA_chance_97 : decode s_PA_chance.2.1 97 = .ok (.iinc 3 1, 3) := by decide +kernel
theorem d_PA_chance_100 : decode s_PA_chance.2.1 100 = .ok (.goto (-68), 3) := by decide +kernel
theorem d_PA_chance_103 : decode s_PA_chance.2.1 103 = .ok (.iload_n 2, 1) := by decide +kernel
theorem d_PA_chance_104 : decode s_PA_chance.2.1 104 = .ok (.ireturn, 1) := by decide +kernel
theorem d_PA_undo_0 : decode s_PA_undo.2.1 0 = .ok (.aload_n 0, 1) := by decide +kernel
theorem d_PA_undo_1 : decode s_PA_undo.2.1 1 = .ok (.getfield 84, 3) := by decide +kernel
theorem d_PA_undo_4 : decode s_PA_undo.2.1 4 = .ok (.ifCond .eq 10, 3) := by decide +kernel
theorem d_PA_undo_7 : decode s_PA_undo.2.1 7 = .ok (.aload_n 0, 1) := by decide +kernel
theorem d_PA_undo_8 : decode s_PA_undo.2.1 8 = .ok (.getfield 88, 3) := by decide +kernel
theorem d_PA_undo_11 : decode s_PA_undo.2.1 11 = .ok (.ifCond .ne 11, 3) := by decide +kernel
theorem d_PA_undo_14 : decode s_PA_undo.2.1 14 = .ok (.aload_n 0, 1) := by decide +kernel
theorem d_PA_undo_15 : decode s_PA_undo.2.1 15 = .ok (.iconst 4, 1) := by decide +kernel
theorem d_PA_undo_16 : decode s_PA_undo.2.1 16 = .ok (.invokevirtual 100, 3) := by decide +kernel
theorem d_PA_undo_19 : decode s_PA_undo.2.1 19 = .ok (.pop, 1) := by decide +kernel
theorem d_PA_undo_20 : decode s_PA_undo.2.1 20 = .ok (.iconst 0, 1) := by decide +kernel
theorem d_PA_undo_21 : decode s_PA_undo.2.1 21 = .ok (.ireturn, 1) := by decide +kernel
theorem d_PA_undo_22 : decode s_PA_undo.2.1 22 = .ok (.aload_n 0, 1) := by decide +kernel
theorem d_PA_undo_23 : decode s_PA_undo.2.1 23 = .ok (.dup, 1) := by decide +kernel
theorem d_PA_undo_24 : decode s_PA_undo.2.1 24 = .ok (.getfield 88, 3) := by decide +kernel
theorem d_PA_undo_27 : decode s_PA_undo.2.1 27 = .ok (.iconst 1, 1) := by decide +kernel
theorem d_PA_undo_28 : decode s_PA_undo.2.1 28 = .ok (.isub, 1) := by decide +kernel
theorem d_PA_undo_29 : decode s_PA_undo.2.1 29 = .ok (.putfield 88, 3) := by decide +kernel
theorem d_PA_undo_32 : decode s_PA_undo.2.1 32 = .ok (.aload_n 0, 1) := by decide +kernel
theorem d_PA_undo_33 : decode s_PA_undo.2.1 33 = .ok (.getfield 46, 3) := by decide +kernel
theorem d_PA_undo_36 : decode s_PA_undo.2.1 36 = .ok (.aload_n 0, 1) := by decide +kernel
theorem d_PA_undo_37 : decode s_PA_undo.2.1 37 = .ok (.getfield 53, 3) := by decide +kernel
theorem d_PA_undo_40 : decode s_PA_undo.2.1 40 = .ok (.aload_n 0, 1) := by decide +kernel
theorem d_PA_undo_41 : decode s_PA_undo.2.1 41 = .ok (.getfield 88, 3) := by decide +kernel
theorem d_PA_undo_44 : decode s_PA_undo.2.1 44 = .ok (.laload, 1) := by decide +kernel
theorem d_PA_undo_45 : decode s_PA_undo.2.1 45 = .ok (.aload_n 0, 1) := by decide +kernel
theorem d_PA_undo_46 : decode s_PA_undo.2.1 46 = .ok (.getfield 71, 3) := by decide +kernel
theorem d_PA_undo_49 : decode s_PA_undo.2.1 49 = .ok (.getfield 143, 3) := by decide +kernel
theorem d_PA_undo_52 : decode s_PA_undo.2.1 52 = .ok (.invokevirtual 295, 3) := by decide +kernel
theorem d_PA_undo_55 : decode s_PA_undo.2.1 55 = .ok (.iconst 1, 1) := by decide +kernel
theorem d_PA_undo_56 : decode s_PA_undo.2.1 56 = .ok (.ireturn, 1) := by decide +kernel
theorem d_PA_seed_0 : decode s_PA_seed.2.1 0 = .ok (.iload_n 1, 1) := by decide +kernel
theorem d_PA_seed_1 : decode s_PA_seed.2.1 1 = .ok (.ifCond .ge 11, 3) := by decide +kernel
theorem d_PA_seed_4 : decode s_PA_seed.2.1 4 = .ok (.aload_n 0, 1) := by decide +kernel
theorem d_PA_seed_5 : decode s_PA_seed.2.1 5 = .ok (.iconst 5, 1) := by decide +kernel
theorem d_PA_seed_6 : decode s_PA_seed.2.1 6 = .ok (.invokevirtual 100, 3) := by decide +kernel
theorem d_PA_seed_9 : decode s_PA_seed.2.1 9 = .ok (.pop, 1) := by decide +kernel
theorem d_PA_seed_10 : decode s_PA_seed.2.1 10 = .ok (.iconst 0, 1) := by decide +kernel
theorem d_PA_seed_11 : decode s_PA_seed.2.1 11 = .ok (.ireturn, 1) := by decide +kernel
theorem d_PA_seed_12 : decode s_PA_seed.2.1 12 = .ok (.aload_n 0, 1) := by decide +kernel
theorem d_PA_seed_13 : decode s_PA_seed.2.1 13 = .ok (.iload_n 1, 1) := by decide +kernel
theorem d_PA_seed_14 : decode s_PA_seed.2.1 14 = .ok (.i2l, 1) := by decide +kernel
theorem d_PA_seed_15 : decode s_PA_seed.2.1 15 = .ok (.putfield 92, 3) := by decide +kernel
theorem d_PA_seed_18 : decode s_PA_seed.2.1 18 = .ok (.iconst 1, 1) := by decide +kernel
theorem d_PA_seed_19 : decode s_PA_seed.2.1 19 = .ok (.ireturn, 1) := by decide +kernel
theorem d_Sight_isSight_0 : decode s_Sight_isSight.2.1 0 = .ok (.aload_n 0, 1) := by decide +kernel
theorem d_Sight_isSight_1 : decode s_Sight_isSight.2.1 1 = .ok (.invokevirtual 44, 3) := by decide +kernel
theorem d_Sight_isSight_4 : decode s_Sight_isSight.2.1 4 = .ok (.istore_n 2, 1) := by decide +kernel
theorem d_Sight_isSight_5 : decode s_Sight_isSight.2.1 5 = .ok (.iload_n 2, 1) := by decide +kernel
theorem d_Sight_isSight_6 : decode s_Sight_isSight.2.1 6 = .ok (.iconst 2, 1) := by decide +kernel
theorem d_Sight_isSight_7 : decode s_Sight_isSight.2.1 7 = .ok (.if_icmp .lt 15, 3) := by decide +kernel
theorem d_Sight_isSight_10 : decode s_Sight_isSight.2.1 10 = .ok (.iload_n 2, 1) := by decide +kernel
theorem d_Sight_isSight_11 : decode s_Sight_isSight.2.1 11 = .ok (.bipush 12, 2) := by decide +kernel
theorem d_Sight_isSight_13 : decode s_Sight_isSight.2.1 13 = .ok (.if_icmp .gt 9, 3) := by decide +kernel
theorem d_Sight_isSight_16 : decode s_Sight_isSight.2.1 16 = .ok (.iload_n 2, 1) := by decide +kernel
theorem d_Sight_isSight_17 : decode s_Sight_isSight.2.1 17 = .ok (.iconst 2, 1) := by decide +kernel
theorem d_Sight_isSight_18 : decode s_Sight_isSight.2.1 18 = .ok (.irem, 1) := by decide +kernel
theorem d_Sight_isSight_19 : decode s_Sight_isSight.2.1 19 = .ok (.ifCond .eq 5, 3) := by decide +kernel
theorem d_Sight_isSight_22 : decode s_Sight_isSight.2.1 22 = .ok (.iconst 0, 1) := by decide +kernel
theorem d_Sight_isSight_23 : decode s_Sight_isSight.2.1 23 = .ok (.ireturn, 1) := by decide +kernel
theorem d_Sight_isSight_24 : decode s_Sight_isSight.2.1 24 = .ok (.iconst 0, 1) := by decide +kernel
theorem d_Sight_isSight_25 : decode s_Sight_isSight.2.1 25 = .ok (.istore_n 3, 1) := by decide +kernel
theorem d_Sight_isSight_26 : decode s_Sight_isSight.2.1 26 = .ok (.iload_n 3, 1) := by decide +kernel
theorem d_Sight_isSight_27 : decode s_Sight_isSight.2.1 27 = .ok (.iload_n 2, 1) := by decide +kernel
theorem d_Sight_isSight_28 : decode s_Sight_isSight.2.1 28 = .ok (.if_icmp .ge 36, 3) := by decide +kernel
theorem d_Sight_isSight_31 : decode s_Sight_isSight.2.1 31 = .ok (.aload_n 0, 1) := by decide +kernel
theorem d_Sight_isSight_32 : decode s_Sight_isSight.2.1 32 = .ok (.iload_n 3, 1) := by decide +kernel
theorem d_Sight_isSight_33 : decode s_Sight_isSight.2.1 33 = .ok (.invokevirtual 50, 3) := by decide +kernel
theorem d_Sight_isSight_36 : decode s_Sight_isSight.2.1 36 = .ok (.aload_n 1, 1) := by decide +kernel
theorem d_Sight_isSight_37 : decode s_Sight_isSight.2.1 37 = .ok (.getfield 54, 3) := by decide +kernel
theorem d_Sight_isSight_40 : decode s_Sight_isSight.2.1 40 = .ok (.iconst 0, 1) := by decide +kernel
theorem d_Sight_isSight_41 : decode s_Sight_isSight.2.1 41 = .ok (.iaload, 1) := by decide +kernel
theorem d_Sight_isSight_42 : decode s_Sight_isSight.2.1 42 = .ok (.if_icmp .ge 14, 3) := by decide +kernel
theorem d_Sight_isSight_45 : decode s_Sight_isSight.2.1 45 = .ok (.aload_n 0, 1) := by decide +kernel
theorem d_Sight_isSight_46 : decode s_Sight_isSight.2.1 46 = .ok (.iload_n 3, 1) := by decide +kernel
theorem d_Sight_isSight_47 : decode s_Sight_isSight.2.1 47 = .ok (.iconst 1, 1) := by decide +kernel
theorem d_Sight_isSight_48 : decode s_Sight_isSight.2.1 48 = .ok (.iadd, 1) := by decide +kernel
theorem d_Sight_isSight_49 : decode s_Sight_isSight.2.1 49 = .ok (.invokevirtual 50, 3) := by decide +kernel
theorem d_Sight_isSight_52 : decode s_Sight_isSight.2.1 52 = .ok (.iconst 4, 1) := by decide +kernel
theorem d_Sight_isSight_53 : decode s_Sight_isSight.2.1 53 = .ok (.if_icmp .le 5, 3) := by decide +kernel
theorem d_Sight_isSight_56 : decode s_Sight_isSight.2.1 56 = .ok (.iconst 0, 1) := by decide +kernel
theorem d_Sight_isSight_57 : decode s_Sight_isSight.2.1 57 = .ok (.ireturn, 1) := by decide +kernel
theorem d_Sight_isSight_58 : decode s_Sight_isSight.2.1 58 = .ok (.iinc 3 2, 3) := by decide +kernel
theorem d_Sight_isSight_61 : decode s_Sight_isSight.2.1 61 = .ok (.goto (-35), 3) := by decide +kernel
theorem d_Sight_isSight_64 : decode s_Sight_isSight.2.1 64 = .ok (.iconst 1, 1) := by decide +kernel
theorem d_Sight_isSight_65 : decode s_Sight_isSight.2.1 65 = .ok (.ireturn, 1) := by decide +kernel
theorem d_Sight_take_0 : decode s_Sight_take.2.1 0 = .ok (.aload_n 0, 1) := by decide +kernel
theorem d_Sight_take_1 : decode s_Sight_take.2.1 1 = .ok (.aload_n 1, 1) := by decide +kernel
theorem d_Sight_take_2 : decode s_Sight_take.2.1 2 = .ok (.invokevirtual 44, 3) := by decide +kernel
theorem d_Sight_take_5 : decode s_Sight_take.2.1 5 = .ok (.iconst 2, 1) := by decide +kernel
theorem d_Sight_take_6 : decode s_Sight_take.2.1 6 = .ok (.idiv, 1) := by decide +kernel
theorem d_Sight_take_7 : decode s_Sight_take.2.1 7 = .ok (.bipush 6, 2) := by decide +kernel
theorem d_Sight_take_9 : decode s_Sight_take.2.1 9 = .ok (.invokestatic 59, 3) := by decide +kernel
theorem d_Sight_take_12 : decode s_Sight_take.2.1 12 = .ok (.putfield 18, 3) := by decide +kernel
theorem d_Sight_take_15 : decode s_Sight_take.2.1 15 = .ok (.iconst 0, 1) := by decide +kernel
theorem d_Sight_take_16 : decode s_Sight_take.2.1 16 = .ok (.istore_n 3, 1) := by decide +kernel
theorem d_Sight_take_17 : decode s_Sight_take.2.1 17 = .ok (.iload_n 3, 1) := by decide +kernel
theorem d_Sight_take_18 : decode s_Sight_take.2.1 18 = .ok (.aload_n 0, 1) := by decide +kernel
theorem d_Sight_take_19 : decode s_Sight_take.2.1 19 = .ok (.getfield 18, 3) := by decide +kernel
theorem d_Sight_take_22 : decode s_Sight_take.2.1 22 = .ok (.if_icmp .ge 37, 3) := by decide +kernel
theorem d_Sight_take_25 : decode s_Sight_take.2.1 25 = .ok (.aload_n 0, 1) := by decide +kernel
theorem d_Sight_take_26 : decode s_Sight_take.2.1 26 = .ok (.getfield 9, 3) := by decide +kernel
theorem d_Sight_take_29 : decode s_Sight_take.2.1 29 = .ok (.iload_n 3, 1) := by decide +kernel
theorem d_Sight_take_30 : decode s_Sight_take.2.1 30 = .ok (.aload_n 1, 1) := by decide +kernel
theorem d_Sight_take_31 : decode s_Sight_take.2.1 31 = .ok (.iconst 2, 1) := by decide +kernel
theorem d_Sight_take_32 : decode s_Sight_take.2.1 32 = .ok (.iload_n 3, 1) := by decide +kernel
theorem d_Sight_take_33 : decode s_Sight_take.2.1 33 = .ok (.imul, 1) := by decide +kernel
theorem d_Sight_take_34 : decode s_Sight_take.2.1 34 = .ok (.invokevirtual 50, 3) := by decide +kernel
theorem d_Sight_take_37 : decode s_Sight_take.2.1 37 = .ok (.iastore, 1) := by decide +kernel
theorem d_Sight_take_38 : decode s_Sight_take.2.1 38 = .ok (.aload_n 0, 1) := by decide +kernel
theorem d_Sight_take_39 : decode s_Sight_take.2.1 39 = .ok (.getfield 15, 3) := by decide +kernel
theorem d_Sight_take_42 : decode s_Sight_take.2.1 42 = .ok (.iload_n 3, 1) := by decide +kernel
theorem d_Sight_take_43 : decode s_Sight_take.2.1 43 = .ok (.aload_n 1, 1) := by decide +kernel
theorem d_Sight_take_44 : decode s_Sight_take.2.1 44 = .ok (.iconst 2, 1) := by decide +kernel
theorem d_Sight_take_45 : decode s_Sight_take.2.1 45 = .ok (.iload_n 3, 1) := by decide +kernel
theorem d_Sight_take_46 : decode s_Sight_take.2.1 46 = .ok (.imul, 1) := by decide +kernel
theorem d_Sight_take_47 : decode s_Sight_take.2.1 47 = .ok (.iconst 1, 1) := by decide +kernel
theorem d_Sight_take_48 : decode s_Sight_take.2.1 48 = .ok (.iadd, 1) := by decide +kernel
theorem d_Sight_take_49 : decode s_Sight_take.2.1 49 = .ok (.invokevirtual 50, 3) := by decide +kernel
theorem d_Sight_take_52 : decode s_Sight_take.2.1 52 = .ok (.iastore, 1) := by decide +kernel
theorem d_Sight_take_53 : decode s_Sight_take.2.1 53 = .ok (.iinc 3 1, 3) := by decide +kernel
theorem d_Sight_take_56 : decode s_Sight_take.2.1 56 = .ok (.goto (-39), 3) := by decide +kernel
theorem d_Sight_take_59 : decode s_Sight_take.2.1 59 = .ok (.aload_n 0, 1) := by decide +kernel
theorem d_Sight_take_60 : decode s_Sight_take.2.1 60 = .ok (.iload_n 2, 1) := by decide +kernel
theorem d_Sight_take_61 : decode s_Sight_take.2.1 61 = .ok (.putfield 22, 3) := by decide +kernel
theorem d_Sight_take_64 : decode s_Sight_take.2.1 64 = .ok (.aload_n 0, 1) := by decide +kernel
theorem d_Sight_take_65 : decode s_Sight_take.2.1 65 = .ok (.iconst (-1), 1) := by decide +kernel
theorem d_Sight_take_66 : decode s_Sight_take.2.1 66 = .ok (.putfield 38, 3) := by decide +kernel
theorem d_Sight_take_69 : decode s_Sight_take.2.1 69 = .ok (.return_, 1) := by decide +kernel
theorem d_PA_see_0 : decode s_PA_see.2.1 0 = .ok (.aload_n 0, 1) := by decide +kernel
theorem d_PA_see_1 : decode s_PA_see.2.1 1 = .ok (.getfield 84, 3) := by decide +kernel
theorem d_PA_see_4 : decode s_PA_see.2.1 4 = .ok (.ifCond .eq 31, 3) := by decide +kernel
theorem d_PA_see_7 : decode s_PA_see.2.1 7 = .ok (.iload_n 1, 1) := by decide +kernel
theorem d_PA_see_8 : decode s_PA_see.2.1 8 = .ok (.ifCond .lt 27, 3) := by decide +kernel
theorem d_PA_see_11 : decode s_PA_see.2.1 11 = .ok (.iload_n 1, 1) := by decide +kernel
theorem d_PA_see_12 : decode s_PA_see.2.1 12 = .ok (.bipush 6, 2) := by decide +kernel
theorem d_PA_see_14 : decode s_PA_see.2.1 14 = .ok (.if_icmp .gt 21, 3) := by decide +kernel
theorem d_PA_see_17 : decode s_PA_see.2.1 17 = .ok (.aload_n 0, 1) := by decide +kernel
theorem d_PA_see_18 : decode s_PA_see.2.1 18 = .ok (.getfield 12, 3) := by decide +kernel
theorem d_PA_see_21 : decode s_PA_see.2.1 21 = .ok (.aload_n 0, 1) := by decide +kernel
theorem d_PA_see_22 : decode s_PA_see.2.1 22 = .ok (.getfield 71, 3) := by decide +kernel
theorem d_PA_see_25 : decode s_PA_see.2.1 25 = .ok (.invokestatic 310, 3) := by decide +kernel
theorem d_PA_see_28 : decode s_PA_see.2.1 28 = .ok (.ifCond .eq 7, 3) := by decide +kernel
theorem d_PA_see_31 : decode s_PA_see.2.1 31 = .ok (.iconst 1, 1) := by decide +kernel
theorem d_PA_see_32 : decode s_PA_see.2.1 32 = .ok (.goto 4, 3) := by decide +kernel
theorem d_PA_see_35 : decode s_PA_see.2.1 35 = .ok (.iconst 0, 1) := by decide +kernel
theorem d_PA_see_36 : decode s_PA_see.2.1 36 = .ok (.istore_n 2, 1) := by decide +kernel
theorem d_PA_see_37 : decode s_PA_see.2.1 37 = .ok (.iload_n 2, 1) := by decide +kernel
theorem d_PA_see_38 : decode s_PA_see.2.1 38 = .ok (.ifCond .eq 15, 3) := by decide +kernel
theorem d_PA_see_41 : decode s_PA_see.2.1 41 = .ok (.aload_n 0, 1) := by decide +kernel
theorem d_PA_see_42 : decode s_PA_see.2.1 42 = .ok (.getfield 39, 3) := by decide +kernel
theorem d_PA_see_45 : decode s_PA_see.2.1 45 = .ok (.aload_n 0, 1) := by decide +kernel
theorem d_PA_see_46 : decode s_PA_see.2.1 46 = .ok (.getfield 12, 3) := by decide +kernel
theorem d_PA_see_49 : decode s_PA_see.2.1 49 = .ok (.iload_n 1, 1) := by decide +kernel
theorem d_PA_see_50 : decode s_PA_see.2.1 50 = .ok (.invokevirtual 314, 3) := by decide +kernel
theorem d_PA_see_53 : decode s_PA_see.2.1 53 = .ok (.aload_n 0, 1) := by decide +kernel
theorem d_PA_see_54 : decode s_PA_see.2.1 54 = .ok (.getfield 12, 3) := by decide +kernel
theorem d_PA_see_57 : decode s_PA_see.2.1 57 = .ok (.iconst 0, 1) := by decide +kernel
theorem d_PA_see_58 : decode s_PA_see.2.1 58 = .ok (.invokevirtual 108, 3) := by decide +kernel
theorem d_PA_see_61 : decode s_PA_see.2.1 61 = .ok (.iload_n 2, 1) := by decide +kernel
theorem d_PA_see_62 : decode s_PA_see.2.1 62 = .ok (.ifCond .eq 13, 3) := by decide +kernel
theorem d_PA_see_65 : decode s_PA_see.2.1 65 = .ok (.aload_n 0, 1) := by decide +kernel
theorem d_PA_see_66 : decode s_PA_see.2.1 66 = .ok (.getfield 39, 3) := by decide +kernel
theorem d_PA_see_69 : decode s_PA_see.2.1 69 = .ok (.getfield 173, 3) := by decide +kernel
theorem d_PA_see_72 : decode s_PA_see.2.1 72 = .ok (.goto 8, 3) := by decide +kernel
theorem d_PA_see_75 : decode s_PA_see.2.1 75 = .ok (.aload_n 0, 1) := by decide +kernel
theorem d_PA_see_76 : decode s_PA_see.2.1 76 = .ok (.iconst 1, 1) := by decide +kernel
theorem d_PA_see_77 : decode s_PA_see.2.1 77 = .ok (.invokevirtual 100, 3) := by decide +kernel
theorem d_PA_see_80 : decode s_PA_see.2.1 80 = .ok (.ireturn, 1) := by decide +kernel
theorem d_Sight_goOn_0 : decode s_Sight_goOn.2.1 0 = .ok (.iconst 0, 1) := by decide +kernel
theorem d_Sight_goOn_1 : decode s_Sight_goOn.2.1 1 = .ok (.istore_n 2, 1) := by decide +kernel
theorem d_Sight_goOn_2 : decode s_Sight_goOn.2.1 2 = .ok (.iload_n 2, 1) := by decide +kernel
theorem d_Sight_goOn_3 : decode s_Sight_goOn.2.1 3 = .ok (.aload_n 1, 1) := by decide +kernel
theorem d_Sight_goOn_4 : decode s_Sight_goOn.2.1 4 = .ok (.getfield 65, 3) := by decide +kernel
theorem d_Sight_goOn_7 : decode s_Sight_goOn.2.1 7 = .ok (.if_icmp .ge 16, 3) := by decide +kernel
theorem d_Sight_goOn_10 : decode s_Sight_goOn.2.1 10 = .ok (.aload_n 0, 1) := by decide +kernel
theorem d_Sight_goOn_11 : decode s_Sight_goOn.2.1 11 = .ok (.getfield 29, 3) := by decide +kernel
theorem d_Sight_goOn_14 : decode s_Sight_goOn.2.1 14 = .ok (.iload_n 2, 1) := by decide +kernel
theorem d_Sight_goOn_15 : decode s_Sight_goOn.2.1 15 = .ok (.iconst 0, 1) := by decide +kernel
theorem d_Sight_goOn_16 : decode s_Sight_goOn.2.1 16 = .ok (.bastore, 1) := by decide +kernel
theorem d_Sight_goOn_17 : decode s_Sight_goOn.2.1 17 = .ok (.iinc 2 1, 3) := by decide +kernel
theorem d_Sight_goOn_20 : decode s_Sight_goOn.2.1 20 = .ok (.goto (-18), 3) := by decide +kernel
theorem d_Sight_goOn_23 : decode s_Sight_goOn.2.1 23 = .ok (.iconst 0, 1) := by decide +kernel
theorem d_Sight_goOn_24 : decode s_Sight_goOn.2.1 24 = .ok (.istore_n 2, 1) := by decide +kernel
theorem d_Sight_goOn_25 : decode s_Sight_goOn.2.1 25 = .ok (.iload_n 2, 1) := by decide +kernel
theorem d_Sight_goOn_26 : decode s_Sight_goOn.2.1 26 = .ok (.aload_n 1, 1) := by decide +kernel
theorem d_Sight_goOn_27 : decode s_Sight_goOn.2.1 27 = .ok (.getfield 65, 3) := by decide +kernel
theorem d_Sight_goOn_30 : decode s_Sight_goOn.2.1 30 = .ok (.if_icmp .ge 54, 3) := by decide +kernel
theorem d_Sight_goOn_33 : decode s_Sight_goOn.2.1 33 = .ok (.aload_n 1, 1) := by decide +kernel
theorem d_Sight_goOn_34 : decode s_Sight_goOn.2.1 34 = .ok (.getfield 78, 3) := by decide +kernel
theorem d_Sight_goOn_37 : decode s_Sight_goOn.2.1 37 = .ok (.iload_n 2, 1) := by decide +kernel
theorem d_Sight_goOn_38 : decode s_Sight_goOn.2.1 38 = .ok (.iaload, 1) := by decide +kernel
theorem d_Sight_goOn_39 : decode s_Sight_goOn.2.1 39 = .ok (.istore_n 3, 1) := by decide +kernel
theorem d_Sight_goOn_40 : decode s_Sight_goOn.2.1 40 = .ok (.aload_n 0, 1) := by decide +kernel
theorem d_Sight_goOn_41 : decode s_Sight_goOn.2.1 41 = .ok (.getfield 25, 3) := by decide +kernel
theorem d_Sight_goOn_44 : decode s_Sight_goOn.2.1 44 = .ok (.iload_n 2, 1) := by decide +kernel
theorem d_Sight_goOn_45 : decode s_Sight_goOn.2.1 45 = .ok (.baload, 1) := by decide +kernel
theorem d_Sight_goOn_46 : decode s_Sight_goOn.2.1 46 = .ok (.ifCond .eq 32, 3) := by decide +kernel
theorem d_Sight_goOn_49 : decode s_Sight_goOn.2.1 49 = .ok (.iload_n 3, 1) := by decide +kernel
theorem d_Sight_goOn_50 : decode s_Sight_goOn.2.1 50 = .ok (.aload_n 1, 1) := by decide +kernel
theorem d_Sight_goOn_51 : decode s_Sight_goOn.2.1 51 = .ok (.getfield 78, 3) := by decide +kernel
theorem d_Sight_goOn_54 : decode s_Sight_goOn.2.1 54 = .ok (.iload_n 2, 1) := by decide +kernel
theorem d_Sight_goOn_55 : decode s_Sight_goOn.2.1 55 = .ok (.iconst 1, 1) := by decide +kernel
theorem d_Sight_goOn_56 : decode s_Sight_goOn.2.1 56 = .ok (.iadd, 1) := by decide +kernel
theorem d_Sight_goOn_57 : decode s_Sight_goOn.2.1 57 = .ok (.iaload, 1) := by decide +kernel
theorem d_Sight_goOn_58 : decode s_Sight_goOn.2.1 58 = .ok (.if_icmp .ge 20, 3) := by decide +kernel
theorem d_Sight_goOn_61 : decode s_Sight_goOn.2.1 61 = .ok (.aload_n 0, 1) := by decide +kernel
theorem d_Sight_goOn_62 : decode s_Sight_goOn.2.1 62 = .ok (.getfield 29, 3) := by decide +kernel
theorem d_Sight_goOn_65 : decode s_Sight_goOn.2.1 65 = .ok (.aload_n 1, 1) := by decide +kernel
theorem d_Sight_goOn_66 : decode s_Sight_goOn.2.1 66 = .ok (.iload_n 3, 1) := by decide +kernel
theorem d_Sight_goOn_67 : decode s_Sight_goOn.2.1 67 = .ok (.invokevirtual 81, 3) := by decide +kernel
theorem d_Sight_goOn_70 : decode s_Sight_goOn.2.1 70 = .ok (.iconst 1, 1) := by decide +kernel
theorem d_Sight_goOn_71 : decode s_Sight_goOn.2.1 71 = .ok (.bastore, 1) := by decide +kernel
theorem d_Sight_goOn_72 : decode s_Sight_goOn.2.1 72 = .ok (.iinc 3 1, 3) := by decide +kernel
theorem d_Sight_goOn_75 : decode s_Sight_goOn.2.1 75 = .ok (.goto (-35), 3) := by decide +kernel
theorem d_Sight_goOn_78 : decode s_Sight_goOn.2.1 78 = .ok (.iinc 2 1, 3) := by decide +kernel
theorem d_Sight_goOn_81 : decode s_Sight_goOn.2.1 81 = .ok (.goto (-56), 3) := by decide +kernel
theorem d_Sight_goOn_84 : decode s_Sight_goOn.2.1 84 = .ok (.iconst 0, 1) := by decide +kernel
theorem d_Sight_goOn_85 : decode s_Sight_goOn.2.1 85 = .ok (.istore_n 2, 1) := by decide +kernel
theorem d_Sight_goOn_86 : decode s_Sight_goOn.2.1 86 = .ok (.iload_n 2, 1) := by decide +kernel
theorem d_Sight_goOn_87 : decode s_Sight_goOn.2.1 87 = .ok (.aload_n 1, 1) := by decide +kernel
theorem d_Sight_goOn_88 : decode s_Sight_goOn.2.1 88 = .ok (.getfield 65, 3) := by decide +kernel
theorem d_Sight_goOn_91 : decode s_Sight_goOn.2.1 91 = .ok (.if_icmp .ge 21, 3) := by decide +kernel
theorem d_Sight_goOn_94 : decode s_Sight_goOn.2.1 94 = .ok (.aload_n 0, 1) := by decide +kernel
theorem d_Sight_goOn_95 : decode s_Sight_goOn.2.1 95 = .ok (.getfield 25, 3) := by decide +kernel
theorem d_Sight_goOn_98 : decode s_Sight_goOn.2.1 98 = .ok (.iload_n 2, 1) := by decide +kernel
theorem d_Sight_goOn_99 : decode s_Sight_goOn.2.1 99 = .ok (.aload_n 0, 1) := by decide +kernel
theorem d_Sight_goOn_100 : decode s_Sight_goOn.2.1 100 = .ok (.getfield 29, 3) := by decide +kernel
theorem d_Sight_goOn_103 : decode s_Sight_goOn.2.1 103 = .ok (.iload_n 2, 1) := by decide +kernel
theorem d_Sight_goOn_104 : decode s_Sight_goOn.2.1 104 = .ok (.baload, 1) := by decide +kernel
theorem d_Sight_goOn_105 : decode s_Sight_goOn.2.1 105 = .ok (.bastore, 1) := by decide +kernel
theorem d_Sight_goOn_106 : decode s_Sight_goOn.2.1 106 = .ok (.iinc 2 1, 3) := by decide +kernel
theorem d_Sight_goOn_109 : decode s_Sight_goOn.2.1 109 = .ok (.goto (-23), 3) := by decide +kernel
theorem d_Sight_goOn_112 : decode s_Sight_goOn.2.1 112 = .ok (.return_, 1) := by decide +kernel
theorem d_Atlas_inState_0 : decode s_Atlas_inState.2.1 0 = .ok (.iconst 0, 1) := by decide +kernel
theorem d_Atlas_inState_1 : decode s_Atlas_inState.2.1 1 = .ok (.istore_n 3, 1) := by decide +kernel
theorem d_Atlas_inState_2 : decode s_Atlas_inState.2.1 2 = .ok (.iconst 0, 1) := by decide +kernel
theorem d_Atlas_inState_3 : decode s_Atlas_inState.2.1 3 = .ok (.istore 4, 2) := by decide +kernel
theorem d_Atlas_inState_5 : decode s_Atlas_inState.2.1 5 = .ok (.iload 4, 2) := by decide +kernel
theorem d_Atlas_inState_7 : decode s_Atlas_inState.2.1 7 = .ok (.aload_n 0, 1) := by decide +kernel
theorem d_Atlas_inState_8 : decode s_Atlas_inState.2.1 8 = .ok (.getfield 15, 3) := by decide +kernel
theorem d_Atlas_inState_11 : decode s_Atlas_inState.2.1 11 = .ok (.if_icmp .ge 36, 3) := by decide +kernel
theorem d_Atlas_inState_14 : decode s_Atlas_inState.2.1 14 = .ok (.iload_n 3, 1) := by decide +kernel
theorem d_Atlas_inState_15 : decode s_Atlas_inState.2.1 15 = .ok (.aload_n 0, 1) := by decide +kernel
theorem d_Atlas_inState_16 : decode s_Atlas_inState.2.1 16 = .ok (.getfield 46, 3) := by decide +kernel
theorem d_Atlas_inState_19 : decode s_Atlas_inState.2.1 19 = .ok (.iload_n 1, 1) := by decide +kernel
theorem d_Atlas_inState_20 : decode s_Atlas_inState.2.1 20 = .ok (.iconst 4, 1) := by decide +kernel
theorem d_Atlas_inState_21 : decode s_Atlas_inState.2.1 21 = .ok (.imul, 1) := by decide +kernel
theorem d_Atlas_inState_22 : decode s_Atlas_inState.2.1 22 = .ok (.iload 4, 2) := by decide +kernel
theorem d_Atlas_inState_24 : decode s_Atlas_inState.2.1 24 = .ok (.iadd, 1) := by decide +kernel
theorem d_Atlas_inState_25 : decode s_Atlas_inState.2.1 25 = .ok (.iaload, 1) := by decide +kernel
theorem d_Atlas_inState_26 : decode s_Atlas_inState.2.1 26 = .ok (.iconst 0, 1) := by decide +kernel
theorem d_Atlas_inState_27 : decode s_Atlas_inState.2.1 27 = .ok (.invokestatic 160, 3) := by decide +kernel
theorem d_Atlas_inState_30 : decode s_Atlas_inState.2.1 30 = .ok (.iload_n 2, 1) := by decide +kernel
theorem d_Atlas_inState_31 : decode s_Atlas_inState.2.1 31 = .ok (.if_icmp .ne 7, 3) := by decide +kernel
theorem d_Atlas_inState_34 : decode s_Atlas_inState.2.1 34 = .ok (.iconst 1, 1) := by decide +kernel
theorem d_Atlas_inState_35 : decode s_Atlas_inState.2.1 35 = .ok (.goto 4, 3) := by decide +kernel
theorem d_Atlas_inState_38 : decode s_Atlas_inState.2.1 38 = .ok (.iconst 0, 1) := by decide +kernel
theorem d_Atlas_inState_39 : decode s_Atlas_inState.2.1 39 = .ok (.iadd, 1) := by decide +kernel
theorem d_Atlas_inState_40 : decode s_Atlas_inState.2.1 40 = .ok (.istore_n 3, 1) := by decide +kernel
theorem d_Atlas_inState_41 : decode s_Atlas_inState.2.1 41 = .ok (.iinc 4 1, 3) := by decide +kernel
theorem d_Atlas_inState_44 : decode s_Atlas_inState.2.1 44 = .ok (.goto (-39), 3) := by decide +kernel
theorem d_Atlas_inState_47 : decode s_Atlas_inState.2.1 47 = .ok (.iload_n 3, 1) := by decide +kernel
theorem d_Atlas_inState_48 : decode s_Atlas_inState.2.1 48 = .ok (.ireturn, 1) := by decide +kernel
theorem d_Sight_isAsSeen_0 : decode s_Sight_isAsSeen.2.1 0 = .ok (.iconst 0, 1) := by decide +kernel
theorem d_Sight_isAsSeen_1 : decode s_Sight_isAsSeen.2.1 1 = .ok (.istore_n 3, 1) := by decide +kernel
theorem d_Sight_isAsSeen_2 : decode s_Sight_isAsSeen.2.1 2 = .ok (.iload_n 3, 1) := by decide +kernel
theorem d_Sight_isAsSeen_3 : decode s_Sight_isAsSeen.2.1 3 = .ok (.aload_n 0, 1) := by decide +kernel
theorem d_Sight_isAsSeen_4 : decode s_Sight_isAsSeen.2.1 4 = .ok (.getfield 18, 3) := by decide +kernel
theorem d_Sight_isAsSeen_7 : decode s_Sight_isAsSeen.2.1 7 = .ok (.if_icmp .ge 31, 3) := by decide +kernel
theorem d_Sight_isAsSeen_10 : decode s_Sight_isAsSeen.2.1 10 = .ok (.aload_n 1, 1) := by decide +kernel
theorem d_Sight_isAsSeen_11 : decode s_Sight_isAsSeen.2.1 11 = .ok (.iload_n 2, 1) := by decide +kernel
theorem d_Sight_isAsSeen_12 : decode s_Sight_isAsSeen.2.1 12 = .ok (.aload_n 0, 1) := by decide +kernel
theorem d_Sight_isAsSeen_13 : decode s_Sight_isAsSeen.2.1 13 = .ok (.getfield 9, 3) := by decide +kernel
theorem d_Sight_isAsSeen_16 : decode s_Sight_isAsSeen.2.1 16 = .ok (.iload_n 3, 1) := by decide +kernel
theorem d_Sight_isAsSeen_17 : decode s_Sight_isAsSeen.2.1 17 = .ok (.iaload, 1) := by decide +kernel
theorem d_Sight_isAsSeen_18 : decode s_Sight_isAsSeen.2.1 18 = .ok (.invokevirtual 84, 3) := by decide +kernel
theorem d_Sight_isAsSeen_21 : decode s_Sight_isAsSeen.2.1 21 = .ok (.aload_n 0, 1) := by decide +kernel
theorem d_Sight_isAsSeen_22 : decode s_Sight_isAsSeen.2.1 22 = .ok (.getfield 15, 3) := by decide +kernel
theorem d_Sight_isAsSeen_25 : decode s_Sight_isAsSeen.2.1 25 = .ok (.iload_n 3, 1) := by decide +kernel
theorem d_Sight_isAsSeen_26 : decode s_Sight_isAsSeen.2.1 26 = .ok (.iaload, 1) := by decide +kernel
theorem d_Sight_isAsSeen_27 : decode s_Sight_isAsSeen.2.1 27 = .ok (.if_icmp .eq 5, 3) := by decide +kernel
theorem d_Sight_isAsSeen_30 : decode s_Sight_isAsSeen.2.1 30 = .ok (.iconst 0, 1) := by decide +kernel
theorem d_Sight_isAsSeen_31 : decode s_Sight_isAsSeen.2.1 31 = .ok (.ireturn, 1) := by decide +kernel
theorem d_Sight_isAsSeen_32 : decode s_Sight_isAsSeen.2.1 32 = .ok (.iinc 3 1, 3) := by decide +kernel
theorem d_Sight_isAsSeen_35 : decode s_Sight_isAsSeen.2.1 35 = .ok (.goto (-33), 3) := by decide +kernel
theorem d_Sight_isAsSeen_38 : decode s_Sight_isAsSeen.2.1 38 = .ok (.iconst 1, 1) := by decide +kernel
theorem d_Sight_isAsSeen_39 : decode s_Sight_isAsSeen.2.1 39 = .ok (.ireturn, 1) := by decide +kernel
theorem d_Sight_look_0 : decode s_Sight_look.2.1 0 = .ok (.iload_n 2, 1) := by decide +kernel
theorem d_Sight_look_1 : decode s_Sight_look.2.1 1 = .ok (.iconst (-1), 1) := by decide +kernel
theorem d_Sight_look_2 : decode s_Sight_look.2.1 2 = .ok (.if_icmp .eq 11, 3) := by decide +kernel
theorem d_Sight_look_5 : decode s_Sight_look.2.1 5 = .ok (.iload_n 2, 1) := by decide +kernel
theorem d_Sight_look_6 : decode s_Sight_look.2.1 6 = .ok (.aload_n 0, 1) := by decide +kernel
theorem d_Sight_look_7 : decode s_Sight_look.2.1 7 = .ok (.getfield 38, 3) := by decide +kernel
theorem d_Sight_look_10 : decode s_Sight_look.2.1 10 = .ok (.if_icmp .ne 4, 3) := by decide +kernel
theorem d_Sight_look_13 : decode s_Sight_look.2.1 13 = .ok (.return_, 1) := by decide +kernel
theorem d_Sight_look_14 : decode s_Sight_look.2.1 14 = .ok (.iconst 0, 1) := by decide +kernel
theorem d_Sight_look_15 : decode s_Sight_look.2.1 15 = .ok (.istore_n 3, 1) := by decide +kernel
theorem d_Sight_look_16 : decode s_Sight_look.2.1 16 = .ok (.iload_n 3, 1) := by decide +kernel
theorem d_Sight_look_17 : decode s_Sight_look.2.1 17 = .ok (.aload_n 1, 1) := by decide +kernel
theorem d_Sight_look_18 : decode s_Sight_look.2.1 18 = .ok (.getfield 65, 3) := by decide +kernel
theorem d_Sight_look_21 : decode s_Sight_look.2.1 21 = .ok (.if_icmp .ge 25, 3) := by decide +kernel
theorem d_Sight_look_24 : decode s_Sight_look.2.1 24 = .ok (.aload_n 0, 1) := by decide +kernel
theorem d_Sight_look_25 : decode s_Sight_look.2.1 25 = .ok (.getfield 25, 3) := by decide +kernel
theorem d_Sight_look_28 : decode s_Sight_look.2.1 28 = .ok (.iload_n 3, 1) := by decide +kernel
theorem d_Sight_look_29 : decode s_Sight_look.2.1 29 = .ok (.iload_n 3, 1) := by decide +kernel
theorem d_Sight_look_30 : decode s_Sight_look.2.1 30 = .ok (.iload_n 2, 1) := by decide +kernel
theorem d_Sight_look_31 : decode s_Sight_look.2.1 31 = .ok (.if_icmp .ne 7, 3) := by decide +kernel
theorem d_Sight_look_34 : decode s_Sight_look.2.1 34 = .ok (.iconst 1, 1) := by decide +kernel
theorem d_Sight_look_35 : decode s_Sight_look.2.1 35 = .ok (.goto 4, 3) := by decide +kernel
theorem d_Sight_look_38 : decode s_Sight_look.2.1 38 = .ok (.iconst 0, 1) := by decide +kernel
theorem d_Sight_look_39 : decode s_Sight_look.2.1 39 = .ok (.bastore, 1) := by decide +kernel
theorem d_Sight_look_40 : decode s_Sight_look.2.1 40 = .ok (.iinc 3 1, 3) := by decide +kernel
theorem d_Sight_look_43 : decode s_Sight_look.2.1 43 = .ok (.goto (-27), 3) := by decide +kernel
theorem d_Sight_look_46 : decode s_Sight_look.2.1 46 = .ok (.iconst 0, 1) := by decide +kernel
theorem d_Sight_look_47 : decode s_Sight_look.2.1 47 = .ok (.istore_n 3, 1) := by decide +kernel
theorem d_Sight_look_48 : decode s_Sight_look.2.1 48 = .ok (.iload_n 3, 1) := by decide +kernel
theorem d_Sight_look_49 : decode s_Sight_look.2.1 49 = .ok (.aload_n 0, 1) := by decide +kernel
theorem d_Sight_look_50 : decode s_Sight_look.2.1 50 = .ok (.getfield 22, 3) := by decide +kernel
theorem d_Sight_look_53 : decode s_Sight_look.2.1 53 = .ok (.if_icmp .ge 14, 3) := by decide +kernel
theorem d_Sight_look_56 : decode s_Sight_look.2.1 56 = .ok (.aload_n 0, 1) := by decide +kernel
theorem d_Sight_look_57 : decode s_Sight_look.2.1 57 = .ok (.aload_n 1, 1) := by decide +kernel
theorem d_Sight_look_58 : decode s_Sight_look.2.1 58 = .ok (.invokevirtual 70, 3) := by decide +kernel
theorem d_Sight_look_61 : decode s_Sight_look.2.1 61 = .ok (.iinc 3 1, 3) := by decide +kernel
theorem d_Sight_look_64 : decode s_Sight_look.2.1 64 = .ok (.goto (-16), 3) := by decide +kernel
theorem d_Sight_look_67 : decode s_Sight_look.2.1 67 = .ok (.aload_n 0, 1) := by decide +kernel
theorem d_Sight_look_68 : decode s_Sight_look.2.1 68 = .ok (.iconst 0, 1) := by decide +kernel
theorem d_Sight_look_69 : decode s_Sight_look.2.1 69 = .ok (.putfield 35, 3) := by decide +kernel
theorem d_Sight_look_72 : decode s_Sight_look.2.1 72 = .ok (.iconst 0, 1) := by decide +kernel
theorem d_Sight_look_73 : decode s_Sight_look.2.1 73 = .ok (.istore_n 3, 1) := by decide +kernel
theorem d_Sight_look_74 : decode s_Sight_look.2.1 74 = .ok (.iload_n 3, 1) := by decide +kernel
theorem d_Sight_look_75 : decode s_Sight_look.2.1 75 = .ok (.aload_n 1, 1) := by decide +kernel
theorem d_Sight_look_76 : decode s_Sight_look.2.1 76 = .ok (.getfield 65, 3) := by decide +kernel
theorem d_Sight_look_79 : decode s_Sight_look.2.1 79 = .ok (.if_icmp .ge 47, 3) := by decide +kernel
theorem d_Sight_look_82 : decode s_Sight_look.2.1 82 = .ok (.aload_n 0, 1) := by decide +kernel
theorem d_Sight_look_83 : decode s_Sight_look.2.1 83 = .ok (.getfield 25, 3) := by decide +kernel
theorem d_Sight_look_86 : decode s_Sight_look.2.1 86 = .ok (.iload_n 3, 1) := by decide +kernel
theorem d_Sight_look_87 : decode s_Sight_look.2.1 87 = .ok (.baload, 1) := by decide +kernel
theorem d_Sight_look_88 : decode s_Sight_look.2.1 88 = .ok (.ifCond .eq 32, 3) := by decide +kernel
theorem d_Sight_look_91 : decode s_Sight_look.2.1 91 = .ok (.aload_n 0, 1) := by decide +kernel
theorem d_Sight_look_92 : decode s_Sight_look.2.1 92 = .ok (.aload_n 1, 1) := by decide +kernel
theorem d_Sight_look_93 : decode s_Sight_look.2.1 93 = .ok (.iload_n 3, 1) := by decide +kernel
theorem d_Sight_look_94 : decode s_Sight_look.2.1 94 = .ok (.invokevirtual 74, 3) := by decide +kernel
theorem d_Sight_look_97 : decode s_Sight_look.2.1 97 = .ok (.ifCond .eq 23, 3) := by decide +kernel
theorem d_Sight_look_100 : decode s_Sight_look.2.1 100 = .ok (.aload_n 0, 1) := by decide +kernel
theorem d_Sight_look_101 : decode s_Sight_look.2.1 101 = .ok (.getfield 32, 3) := by decide +kernel
theorem d_Sight_look_104 : decode s_Sight_look.2.1 104 = .ok (.aload_n 0, 1) := by decide +kernel
theorem d_Sight_look_105 : decode s_Sight_look.2.1 105 = .ok (.getfield 35, 3) := by decide +kernel
theorem d_Sight_look_108 : decode s_Sight_look.2.1 108 = .ok (.iload_n 3, 1) := by decide +kernel
theorem d_Sight_look_109 : decode s_Sight_look.2.1 109 = .ok (.iastore, 1) := by decide +kernel
theorem d_Sight_look_110 : decode s_Sight_look.2.1 110 = .ok (.aload_n 0, 1) := by decide +kernel
theorem d_Sight_look_111 : decode s_Sight_look.2.1 111 = .ok (.dup, 1) := by decide +kernel
theorem d_Sight_look_112 : decode s_Sight_look.2.1 112 = .ok (.getfield 35, 3) := by decide +kernel
theorem d_Sight_look_115 : decode s_Sight_look.2.1 115 = .ok (.iconst 1, 1) := by decide +kernel
theorem d_Sight_look_116 : decode s_Sight_look.2.1 116 = .ok (.iadd, 1) := by decide +kernel
theorem d_Sight_look_117 : decode s_Sight_look.2.1 117 = .ok (.putfield 35, 3) := by decide +kernel
theorem d_Sight_look_120 : decode s_Sight_look.2.1 120 = .ok (.iinc 3 1, 3) := by decide +kernel
theorem d_Sight_look_123 : decode s_Sight_look.2.1 123 = .ok (.goto (-49), 3) := by decide +kernel
theorem d_Sight_look_126 : decode s_Sight_look.2.1 126 = .ok (.aload_n 0, 1) := by decide +kernel
theorem d_Sight_look_127 : decode s_Sight_look.2.1 127 = .ok (.iload_n 2, 1) := by decide +kernel
theorem d_Sight_look_128 : decode s_Sight_look.2.1 128 = .ok (.putfield 38, 3) := by decide +kernel
theorem d_Sight_look_131 : decode s_Sight_look.2.1 131 = .ok (.return_, 1) := by decide +kernel
theorem d_PA_could_0 : decode s_PA_could.2.1 0 = .ok (.aload_n 0, 1) := by decide +kernel
theorem d_PA_could_1 : decode s_PA_could.2.1 1 = .ok (.getfield 84, 3) := by decide +kernel
theorem d_PA_could_4 : decode s_PA_could.2.1 4 = .ok (.ifCond .ne 5, 3) := by decide +kernel
theorem d_PA_could_7 : decode s_PA_could.2.1 7 = .ok (.iconst (-1), 1) := by decide +kernel
theorem d_PA_could_8 : decode s_PA_could.2.1 8 = .ok (.ireturn, 1) := by decide +kernel
theorem d_PA_could_9 : decode s_PA_could.2.1 9 = .ok (.aload_n 0, 1) := by decide +kernel
theorem d_PA_could_10 : decode s_PA_could.2.1 10 = .ok (.getfield 39, 3) := by decide +kernel
theorem d_PA_could_13 : decode s_PA_could.2.1 13 = .ok (.aload_n 0, 1) := by decide +kernel
theorem d_PA_could_14 : decode s_PA_could.2.1 14 = .ok (.getfield 32, 3) := by decide +kernel
theorem d_PA_could_17 : decode s_PA_could.2.1 17 = .ok (.aload_n 0, 1) := by decide +kernel
theorem d_PA_could_18 : decode s_PA_could.2.1 18 = .ok (.getfield 32, 3) := by decide +kernel
theorem d_PA_could_21 : decode s_PA_could.2.1 21 = .ok (.aload_n 0, 1) := by decide +kernel
theorem d_PA_could_22 : decode s_PA_could.2.1 22 = .ok (.getfield 46, 3) := by decide +kernel
theorem d_PA_could_25 : decode s_PA_could.2.1 25 = .ok (.invokevirtual 272, 3) := by decide +kernel
theorem d_PA_could_28 : decode s_PA_could.2.1 28 = .ok (.invokevirtual 318, 3) := by decide +kernel
theorem d_PA_could_31 : decode s_PA_could.2.1 31 = .ok (.iload_n 1, 1) := by decide +kernel
theorem d_PA_could_32 : decode s_PA_could.2.1 32 = .ok (.iconst (-1), 1) := by decide +kernel
theorem d_PA_could_33 : decode s_PA_could.2.1 33 = .ok (.if_icmp .ne 11, 3) := by decide +kernel
theorem d_PA_could_36 : decode s_PA_could.2.1 36 = .ok (.aload_n 0, 1) := by decide +kernel
theorem d_PA_could_37 : decode s_PA_could.2.1 37 = .ok (.getfield 39, 3) := by decide +kernel
theorem d_PA_could_40 : decode s_PA_could.2.1 40 = .ok (.getfield 322, 3) := by decide +kernel
theorem d_PA_could_43 : decode s_PA_could.2.1 43 = .ok (.ireturn, 1) := by decide +kernel
theorem d_PA_could_44 : decode s_PA_could.2.1 44 = .ok (.iload_n 1, 1) := by decide +kernel
theorem d_PA_could_45 : decode s_PA_could.2.1 45 = .ok (.ifCond .lt 26, 3) := by decide +kernel
theorem d_PA_could_48 : decode s_PA_could.2.1 48 = .ok (.iload_n 1, 1) := by decide +kernel
theorem d_PA_could_49 : decode s_PA_could.2.1 49 = .ok (.aload_n 0, 1) := by decide +kernel
theorem d_PA_could_50 : decode s_PA_could.2.1 50 = .ok (.getfield 39, 3) := by decide +kernel
theorem d_PA_could_53 : decode s_PA_could.2.1 53 = .ok (.getfield 322, 3) := by decide +kernel
theorem d_PA_could_56 : decode s_PA_could.2.1 56 = .ok (.if_icmp .ge 15, 3) := by decide +kernel
theorem d_PA_could_59 : decode s_PA_could.2.1 59 = .ok (.aload_n 0, 1) := by decide +kernel
theorem d_PA_could_60 : decode s_PA_could.2.1 60 = .ok (.getfield 39, 3) := by decide +kernel
theorem d_PA_could_63 : decode s_PA_could.2.1 63 = .ok (.getfield 325, 3) := by decide +kernel
theorem d_PA_could_66 : decode s_PA_could.2.1 66 = .ok (.iload_n 1, 1) := by decide +kernel
theorem d_PA_could_67 : decode s_PA_could.2.1 67 = .ok (.iaload, 1) := by decide +kernel
theorem d_PA_could_68 : decode s_PA_could.2.1 68 = .ok (.goto 4, 3) := by decide +kernel
theorem d_PA_could_71 : decode s_PA_could.2.1 71 = .ok (.iconst (-1), 1) := by decide +kernel
theorem d_PA_could_72 : decode s_PA_could.2.1 72 = .ok (.ireturn, 1) := by decide +kernel
theorem d_Math_max_0 : decode s_Math_max.2.1 0 = .ok (.iload_n 0, 1) := by decide +kernel
theorem d_Math_max_1 : decode s_Math_max.2.1 1 = .ok (.iload_n 1, 1) := by decide +kernel
theorem d_Math_max_2 : decode s_Math_max.2.1 2 = .ok (.if_icmp .lt 7, 3) := by decide +kernel
theorem d_Math_max_5 : decode s_Math_max.2.1 5 = .ok (.iload_n 0, 1) := by decide +kernel
theorem d_Math_max_6 : decode s_Math_max.2.1 6 = .ok (.goto 4, 3) := by decide +kernel
theorem d_Math_max_9 : decode s_Math_max.2.1 9 = .ok (.iload_n 1, 1) := by decide +kernel
theorem d_Math_max_10 : decode s_Math_max.2.1 10 = .ok (.ireturn, 1) := by decide +kernel
theorem d_Sight_mostLeft_0 : decode s_Sight_mostLeft.2.1 0 = .ok (.aload_n 0, 1) := by decide +kernel
theorem d_Sight_mostLeft_1 : decode s_Sight_mostLeft.2.1 1 = .ok (.getfield 41, 3) := by decide +kernel
theorem d_Sight_mostLeft_4 : decode s_Sight_mostLeft.2.1 4 = .ok (.iconst 0, 1) := by decide +kernel
theorem d_Sight_mostLeft_5 : decode s_Sight_mostLeft.2.1 5 = .ok (.invokestatic 87, 3) := by decide +kernel
theorem d_Sight_mostLeft_8 : decode s_Sight_mostLeft.2.1 8 = .ok (.iconst 0, 1) := by decide +kernel
theorem d_Sight_mostLeft_9 : decode s_Sight_mostLeft.2.1 9 = .ok (.istore_n 3, 1) := by decide +kernel
theorem d_Sight_mostLeft_10 : decode s_Sight_mostLeft.2.1 10 = .ok (.iconst 0, 1) := by decide +kernel
theorem d_Sight_mostLeft_11 : decode s_Sight_mostLeft.2.1 11 = .ok (.istore 4, 2) := by decide +kernel
theorem d_Sight_mostLeft_13 : decode s_Sight_mostLeft.2.1 13 = .ok (.iload 4, 2) := by decide +kernel
theorem d_Sight_mostLeft_15 : decode s_Sight_mostLeft.2.1 15 = .ok (.aload_n 0, 1) := by decide +kernel
theorem d_Sight_mostLeft_16 : decode s_Sight_mostLeft.2.1 16 = .ok (.getfield 35, 3) := by decide +kernel
theorem d_Sight_mostLeft_19 : decode s_Sight_mostLeft.2.1 19 = .ok (.if_icmp .ge 46, 3) := by decide +kernel
theorem d_Sight_mostLeft_22 : decode s_Sight_mostLeft.2.1 22 = .ok (.aload_n 1, 1) := by decide +kernel
theorem d_Sight_mostLeft_23 : decode s_Sight_mostLeft.2.1 23 = .ok (.aload_n 0, 1) := by decide +kernel
theorem d_Sight_mostLeft_24 : decode s_Sight_mostLeft.2.1 24 = .ok (.getfield 32, 3) := by decide +kernel
theorem d_Sight_mostLeft_27 : decode s_Sight_mostLeft.2.1 27 = .ok (.iload 4, 2) := by decide +kernel
theorem d_Sight_mostLeft_29 : decode s_Sight_mostLeft.2.1 29 = .ok (.iaload, 1) := by decide +kernel
theorem d_Sight_mostLeft_30 : decode s_Sight_mostLeft.2.1 30 = .ok (.iload_n 2, 1) := by decide +kernel
theorem d_Sight_mostLeft_31 : decode s_Sight_mostLeft.2.1 31 = .ok (.invokevirtual 84, 3) := by decide +kernel
theorem d_Sight_mostLeft_34 : decode s_Sight_mostLeft.2.1 34 = .ok (.istore 5, 2) := by decide +kernel
theorem d_Sight_mostLeft_36 : decode s_Sight_mostLeft.2.1 36 = .ok (.aload_n 0, 1) := by decide +kernel
theorem d_Sight_mostLeft_37 : decode s_Sight_mostLeft.2.1 37 = .ok (.getfield 41, 3) := by decide +kernel
theorem d_Sight_mostLeft_40 : decode s_Sight_mostLeft.2.1 40 = .ok (.iload 5, 2) := by decide +kernel
theorem d_Sight_mostLeft_42 : decode s_Sight_mostLeft.2.1 42 = .ok (.dup2, 1) := by decide +kernel
theorem d_Sight_mostLeft_43 : decode s_Sight_mostLeft.2.1 43 = .ok (.iaload, 1) := by decide +kernel
theorem d_Sight_mostLeft_44 : decode s_Sight_mostLeft.2.1 44 = .ok (.iconst 1, 1) := by decide +kernel
theorem d_Sight_mostLeft_45 : decode s_Sight_mostLeft.2.1 45 = .ok (.iadd, 1) := by decide +kernel
theorem d_Sight_mostLeft_46 : decode s_Sight_mostLeft.2.1 46 = .ok (.iastore, 1) := by decide +kernel
theorem d_Sight_mostLeft_47 : decode s_Sight_mostLeft.2.1 47 = .ok (.iload_n 3, 1) := by decide +kernel
theorem d_Sight_mostLeft_48 : decode s_Sight_mostLeft.2.1 48 = .ok (.aload_n 0, 1) := by decide +kernel
theorem d_Sight_mostLeft_49 : decode s_Sight_mostLeft.2.1 49 = .ok (.getfield 41, 3) := by decide +kernel
theorem d_Sight_mostLeft_52 : decode s_Sight_mostLeft.2.1 52 = .ok (.iload 5, 2) := by decide +kernel
theorem d_Sight_mostLeft_54 : decode s_Sight_mostLeft.2.1 54 = .ok (.iaload, 1) := by decide +kernel
theorem d_Sight_mostLeft_55 : decode s_Sight_mostLeft.2.1 55 = .ok (.invokestatic 93, 3) := by decide +kernel
theorem d_Sight_mostLeft_58 : decode s_Sight_mostLeft.2.1 58 = .ok (.istore_n 3, 1) := by decide +kernel
theorem d_Sight_mostLeft_59 : decode s_Sight_mostLeft.2.1 59 = .ok (.iinc 4 1, 3) := by decide +kernel
theorem d_Sight_mostLeft_62 : decode s_Sight_mostLeft.2.1 62 = .ok (.goto (-49), 3) := by decide +kernel
theorem d_Sight_mostLeft_65 : decode s_Sight_mostLeft.2.1 65 = .ok (.iload_n 3, 1) := by decide +kernel
theorem d_Sight_mostLeft_66 : decode s_Sight_mostLeft.2.1 66 = .ok (.ireturn, 1) := by decide +kernel
theorem d_Sight_tellingState_0 : decode s_Sight_tellingState.2.1 0 = .ok (.iconst 0, 1) := by decide +kernel
theorem d_Sight_tellingState_1 : decode s_Sight_tellingState.2.1 1 = .ok (.istore_n 3, 1) := by decide +kernel
theorem d_Sight_tellingState_2 : decode s_Sight_tellingState.2.1 2 = .ok (.iconst 1, 1) := by decide +kernel
theorem d_Sight_tellingState_3 : decode s_Sight_tellingState.2.1 3 = .ok (.istore 4, 2) := by decide +kernel
theorem d_Sight_tellingState_5 : decode s_Sight_tellingState.2.1 5 = .ok (.iload 4, 2) := by decide +kernel
theorem d_Sight_tellingState_7 : decode s_Sight_tellingState.2.1 7 = .ok (.iload_n 2, 1) := by decide +kernel
theorem d_Sight_tellingState_8 : decode s_Sight_tellingState.2.1 8 = .ok (.if_icmp .ge 28, 3) := by decide +kernel
theorem d_Sight_tellingState_11 : decode s_Sight_tellingState.2.1 11 = .ok (.aload_n 0, 1) := by decide +kernel
theorem d_Sight_tellingState_12 : decode s_Sight_tellingState.2.1 12 = .ok (.aload_n 1, 1) := by decide +kernel
theorem d_Sight_tellingState_13 : decode s_Sight_tellingState.2.1 13 = .ok (.iload 4, 2) := by decide +kernel
theorem d_Sight_tellingState_15 : decode s_Sight_tellingState.2.1 15 = .ok (.invokevirtual 96, 3) := by decide +kernel
theorem d_Sight_tellingState_18 : decode s_Sight_tellingState.2.1 18 = .ok (.aload_n 0, 1) := by decide +kernel
theorem d_Sight_tellingState_19 : decode s_Sight_tellingState.2.1 19 = .ok (.aload_n 1, 1) := by decide +kernel
theorem d_Sight_tellingState_20 : decode s_Sight_tellingState.2.1 20 = .ok (.iload_n 3, 1) := by decide +kernel
theorem d_Sight_tellingState_21 : decode s_Sight_tellingState.2.1 21 = .ok (.invokevirtual 96, 3) := by decide +kernel
theorem d_Sight_tellingState_24 : decode s_Sight_tellingState.2.1 24 = .ok (.if_icmp .ge 6, 3) := by decide +kernel
theorem d_Sight_tellingState_27 : decode s_Sight_tellingState.2.1 27 = .ok (.iload 4, 2) := by decide +kernel
theorem d_Sight_tellingState_29 : decode s_Sight_tellingState.2.1 29 = .ok (.istore_n 3, 1) := by decide +kernel
theorem d_Sight_tellingState_30 : decode s_Sight_tellingState.2.1 30 = .ok (.iinc 4 1, 3) := by decide +kernel
theorem d_Sight_tellingState_33 : decode s_Sight_tellingState.2.1 33 = .ok (.goto (-28), 3) := by decide +kernel
theorem d_Sight_tellingState_36 : decode s_Sight_tellingState.2.1 36 = .ok (.iload_n 3, 1) := by decide +kernel
theorem d_Sight_tellingState_37 : decode s_Sight_tellingState.2.1 37 = .ok (.ireturn, 1) := by decide +kernel
theorem d_PA_tells_0 : decode s_PA_tells.2.1 0 = .ok (.aload_n 0, 1) := by decide +kernel
theorem d_PA_tells_1 : decode s_PA_tells.2.1 1 = .ok (.getfield 84, 3) := by decide +kernel
theorem d_PA_tells_4 : decode s_PA_tells.2.1 4 = .ok (.ifCond .eq 12, 3) := by decide +kernel
theorem d_PA_tells_7 : decode s_PA_tells.2.1 7 = .ok (.iload_n 1, 1) := by decide +kernel
theorem d_PA_tells_8 : decode s_PA_tells.2.1 8 = .ok (.ifCond .lt 8, 3) := by decide +kernel
theorem d_PA_tells_11 : decode s_PA_tells.2.1 11 = .ok (.iload_n 1, 1) := by decide +kernel
theorem d_PA_tells_12 : decode s_PA_tells.2.1 12 = .ok (.iconst 1, 1) := by decide +kernel
theorem d_PA_tells_13 : decode s_PA_tells.2.1 13 = .ok (.if_icmp .le 5, 3) := by decide +kernel
theorem d_PA_tells_16 : decode s_PA_tells.2.1 16 = .ok (.iconst (-1), 1) := by decide +kernel
theorem d_PA_tells_17 : decode s_PA_tells.2.1 17 = .ok (.ireturn, 1) := by decide +kernel
theorem d_PA_tells_18 : decode s_PA_tells.2.1 18 = .ok (.aload_n 0, 1) := by decide +kernel
theorem d_PA_tells_19 : decode s_PA_tells.2.1 19 = .ok (.getfield 39, 3) := by decide +kernel
theorem d_PA_tells_22 : decode s_PA_tells.2.1 22 = .ok (.aload_n 0, 1) := by decide +kernel
theorem d_PA_tells_23 : decode s_PA_tells.2.1 23 = .ok (.getfield 32, 3) := by decide +kernel
theorem d_PA_tells_26 : decode s_PA_tells.2.1 26 = .ok (.aload_n 0, 1) := by decide +kernel
theorem d_PA_tells_27 : decode s_PA_tells.2.1 27 = .ok (.getfield 32, 3) := by decide +kernel
theorem d_PA_tells_30 : decode s_PA_tells.2.1 30 = .ok (.aload_n 0, 1) := by decide +kernel
theorem d_PA_tells_31 : decode s_PA_tells.2.1 31 = .ok (.getfield 46, 3) := by decide +kernel
theorem d_PA_tells_34 : decode s_PA_tells.2.1 34 = .ok (.invokevirtual 272, 3) := by decide +kernel
theorem d_PA_tells_37 : decode s_PA_tells.2.1 37 = .ok (.invokevirtual 318, 3) := by decide +kernel
theorem d_PA_tells_40 : decode s_PA_tells.2.1 40 = .ok (.aload_n 0, 1) := by decide +kernel
theorem d_PA_tells_41 : decode s_PA_tells.2.1 41 = .ok (.getfield 39, 3) := by decide +kernel
theorem d_PA_tells_44 : decode s_PA_tells.2.1 44 = .ok (.getfield 322, 3) := by decide +kernel
theorem d_PA_tells_47 : decode s_PA_tells.2.1 47 = .ok (.ifCond .ne 5, 3) := by decide +kernel
theorem d_PA_tells_50 : decode s_PA_tells.2.1 50 = .ok (.iconst (-1), 1) := by decide +kernel
theorem d_PA_tells_51 : decode s_PA_tells.2.1 51 = .ok (.ireturn, 1) := by decide +kernel
theorem d_PA_tells_52 : decode s_PA_tells.2.1 52 = .ok (.aload_n 0, 1) := by decide +kernel
theorem d_PA_tells_53 : decode s_PA_tells.2.1 53 = .ok (.getfield 39, 3) := by decide +kernel
theorem d_PA_tells_56 : decode s_PA_tells.2.1 56 = .ok (.aload_n 0, 1) := by decide +kernel
theorem d_PA_tells_57 : decode s_PA_tells.2.1 57 = .ok (.getfield 32, 3) := by decide +kernel
theorem d_PA_tells_60 : decode s_PA_tells.2.1 60 = .ok (.aload_n 0, 1) := by decide +kernel
theorem d_PA_tells_61 : decode s_PA_tells.2.1 61 = .ok (.getfield 71, 3) := by decide +kernel
theorem d_PA_tells_64 : decode s_PA_tells.2.1 64 = .ok (.getfield 146, 3) := by decide +kernel
theorem d_PA_tells_67 : decode s_PA_tells.2.1 67 = .ok (.iconst 0, 1) := by decide +kernel
theorem d_PA_tells_68 : decode s_PA_tells.2.1 68 = .ok (.iaload, 1) := by decide +kernel
theorem d_PA_tells_69 : decode s_PA_tells.2.1 69 = .ok (.invokevirtual 328, 3) := by decide +kernel
theorem d_PA_tells_72 : decode s_PA_tells.2.1 72 = .ok (.istore_n 2, 1) := by decide +kernel
theorem d_PA_tells_73 : decode s_PA_tells.2.1 73 = .ok (.iload_n 1, 1) := by decide +kernel
theorem d_PA_tells_74 : decode s_PA_tells.2.1 74 = .ok (.ifCond .ne 7, 3) := by decide +kernel
theorem d_PA_tells_77 : decode s_PA_tells.2.1 77 = .ok (.iload_n 2, 1) := by decide +kernel
theorem d_PA_tells_78 : decode s_PA_tells.2.1 78 = .ok (.goto 15, 3) := by decide +kernel
theorem d_PA_tells_81 : decode s_PA_tells.2.1 81 = .ok (.aload_n 0, 1) := by decide +kernel
theorem d_PA_tells_82 : decode s_PA_tells.2.1 82 = .ok (.getfield 39, 3) := by decide +kernel
theorem d_PA_tells_85 : decode s_PA_tells.2.1 85 = .ok (.aload_n 0, 1) := by decide +kernel
theorem d_PA_tells_86 : decode s_PA_tells.2.1 86 = .ok (.getfield 32, 3) := by decide +kernel
theorem d_PA_tells_89 : decode s_PA_tells.2.1 89 = .ok (.iload_n 2, 1) := by decide +kernel
theorem d_PA_tells_90 : decode s_PA_tells.2.1 90 = .ok (.invokevirtual 332, 3) := by decide +kernel
theorem d_PA_tells_93 : decode s_PA_tells.2.1 93 = .ok (.ireturn, 1) := by decide +kernel
theorem d_Bytes_addName_0 : decode s_Bytes_addName.2.1 0 = .ok (.iconst 0, 1) := by decide +kernel
theorem d_Bytes_addName_1 : decode s_Bytes_addName.2.1 1 = .ok (.istore_n 2, 1) := by decide +kernel
theorem d_Bytes_addName_2 : decode s_Bytes_addName.2.1 2 = .ok (.iload_n 2, 1) := by decide +kernel
theorem d_Bytes_addName_3 : decode s_Bytes_addName.2.1 3 = .ok (.bipush 6, 2) := by decide +kernel
theorem d_Bytes_addName_5 : decode s_Bytes_addName.2.1 5 = .ok (.if_icmp .ge 27, 3) := by decide +kernel
theorem d_Bytes_addName_8 : decode s_Bytes_addName.2.1 8 = .ok (.iload_n 1, 1) := by decide +kernel
theorem d_Bytes_addName_9 : decode s_Bytes_addName.2.1 9 = .ok (.iload_n 2, 1) := by decide +kernel
theorem d_Bytes_addName_10 : decode s_Bytes_addName.2.1 10 = .ok (.invokestatic 23, 3) := by decide +kernel
theorem d_Bytes_addName_13 : decode s_Bytes_addName.2.1 13 = .ok (.istore_n 3, 1) := by decide +kernel
theorem d_Bytes_addName_14 : decode s_Bytes_addName.2.1 14 = .ok (.iload_n 3, 1) := by decide +kernel
theorem d_Bytes_addName_15 : decode s_Bytes_addName.2.1 15 = .ok (.ifCond .le 11, 3) := by decide +kernel
theorem d_Bytes_addName_18 : decode s_Bytes_addName.2.1 18 = .ok (.aload_n 0, 1) := by decide +kernel
theorem d_Bytes_addName_19 : decode s_Bytes_addName.2.1 19 = .ok (.bipush 96, 2) := by decide +kernel
theorem d_Bytes_addName_21 : decode s_Bytes_addName.2.1 21 = .ok (.iload_n 3, 1) := by decide +kernel
theorem d_Bytes_addName_22 : decode s_Bytes_addName.2.1 22 = .ok (.iadd, 1) := by decide +kernel
theorem d_Bytes_addName_23 : decode s_Bytes_addName.2.1 23 = .ok (.invokevirtual 19, 3) := by decide +kernel
theorem d_Bytes_addName_26 : decode s_Bytes_addName.2.1 26 = .ok (.iinc 2 1, 3) := by decide +kernel
theorem d_Bytes_addName_29 : decode s_Bytes_addName.2.1 29 = .ok (.goto (-27), 3) := by decide +kernel
theorem d_Bytes_addName_32 : decode s_Bytes_addName.2.1 32 = .ok (.return_, 1) := by decide +kernel
theorem d_PA_writeAgent_0 : decode s_PA_writeAgent.2.1 0 = .ok (.aload_n 2, 1) := by decide +kernel
theorem d_PA_writeAgent_1 : decode s_PA_writeAgent.2.1 1 = .ok (.bipush 32, 2) := by decide +kernel
theorem d_PA_writeAgent_3 : decode s_PA_writeAgent.2.1 3 = .ok (.invokevirtual 346, 3) := by decide +kernel
theorem d_PA_writeAgent_6 : decode s_PA_writeAgent.2.1 6 = .ok (.aload_n 2, 1) := by decide +kernel
theorem d_PA_writeAgent_7 : decode s_PA_writeAgent.2.1 7 = .ok (.aload_n 0, 1) := by decide +kernel
theorem d_PA_writeAgent_8 : decode s_PA_writeAgent.2.1 8 = .ok (.getfield 71, 3) := by decide +kernel
theorem d_PA_writeAgent_11 : decode s_PA_writeAgent.2.1 11 = .ok (.iconst 0, 1) := by decide +kernel
theorem d_PA_writeAgent_12 : decode s_PA_writeAgent.2.1 12 = .ok (.iload_n 1, 1) := by decide +kernel
theorem d_PA_writeAgent_13 : decode s_PA_writeAgent.2.1 13 = .ok (.iconst 0, 1) := by decide +kernel
theorem d_PA_writeAgent_14 : decode s_PA_writeAgent.2.1 14 = .ok (.invokestatic 229, 3) := by decide +kernel
theorem d_PA_writeAgent_17 : decode s_PA_writeAgent.2.1 17 = .ok (.invokevirtual 174, 3) := by decide +kernel
theorem d_PA_writeAgent_20 : decode s_PA_writeAgent.2.1 20 = .ok (.invokevirtual 380, 3) := by decide +kernel
theorem d_PA_writeAgent_23 : decode s_PA_writeAgent.2.1 23 = .ok (.iload_n 1, 1) := by decide +kernel
theorem d_PA_writeAgent_24 : decode s_PA_writeAgent.2.1 24 = .ok (.iconst 1, 1) := by decide +kernel
theorem d_PA_writeAgent_25 : decode s_PA_writeAgent.2.1 25 = .ok (.invokestatic 229, 3) := by decide +kernel
theorem d_PA_writeAgent_28 : decode s_PA_writeAgent.2.1 28 = .ok (.iconst (-1), 1) := by decide +kernel
theorem d_PA_writeAgent_29 : decode s_PA_writeAgent.2.1 29 = .ok (.if_icmp .eq 64, 3) := by decide +kernel
theorem d_PA_writeAgent_32 : decode s_PA_writeAgent.2.1 32 = .ok (.aload_n 2, 1) := by decide +kernel
theorem d_PA_writeAgent_33 : decode s_PA_writeAgent.2.1 33 = .ok (.bipush 60, 2) := by decide +kernel
theorem d_PA_writeAgent_35 : decode s_PA_writeAgent.2.1 35 = .ok (.invokevirtual 346, 3) := by decide +kernel
theorem d_PA_writeAgent_38 : decode s_PA_writeAgent.2.1 38 = .ok (.aload_n 2, 1) := by decide +kernel
theorem d_PA_writeAgent_39 : decode s_PA_writeAgent.2.1 39 = .ok (.aload_n 0, 1) := by decide +kernel
theorem d_PA_writeAgent_40 : decode s_PA_writeAgent.2.1 40 = .ok (.getfield 71, 3) := by decide +kernel
theorem d_PA_writeAgent_43 : decode s_PA_writeAgent.2.1 43 = .ok (.iconst 2, 1) := by decide +kernel
theorem d_PA_writeAgent_44 : decode s_PA_writeAgent.2.1 44 = .ok (.iload_n 1, 1) := by decide +kernel
theorem d_PA_writeAgent_45 : decode s_PA_writeAgent.2.1 45 = .ok (.iconst 1, 1) := by decide +kernel
theorem d_PA_writeAgent_46 : decode s_PA_writeAgent.2.1 46 = .ok (.invokestatic 229, 3) := by decide +kernel
theorem d_PA_writeAgent_49 : decode s_PA_writeAgent.2.1 49 = .ok (.invokevirtual 174, 3) := by decide +kernel
theorem d_PA_writeAgent_52 : decode s_PA_writeAgent.2.1 52 = .ok (.invokevirtual 380, 3) := by decide +kernel
theorem d_PA_writeAgent_55 : decode s_PA_writeAgent.2.1 55 = .ok (.iload_n 1, 1) := by decide +kernel
theorem d_PA_writeAgent_56 : decode s_PA_writeAgent.2.1 56 = .ok (.iconst 2, 1) := by decide +kernel
theorem d_PA_writeAgent_57 : decode s_PA_writeAgent.2.1 57 = .ok (.invokestatic 229, 3) := by decide +kernel
theorem d_PA_writeAgent_60 : decode s_PA_writeAgent.2.1 60 = .ok (.iconst (-1), 1) := by decide +kernel
theorem d_PA_writeAgent_61 : decode s_PA_writeAgent.2.1 61 = .ok (.if_icmp .eq 26, 3) := by decide +kernel
theorem d_PA_writeAgent_64 : decode s_PA_writeAgent.2.1 64 = .ok (.aload_n 2, 1) := by decide +kernel
theorem d_PA_writeAgent_65 : decode s_PA_writeAgent.2.1 65 = .ok (.bipush 44, 2) := by decide +kernel
theorem d_PA_writeAgent_67 : decode s_PA_writeAgent.2.1 67 = .ok (.invokevirtual 346, 3) := by decide +kernel
theorem d_PA_writeAgent_70 : decode s_PA_writeAgent.2.1 70 = .ok (.aload_n 2, 1) := by decide +kernel
theorem d_PA_writeAgent_71 : decode s_PA_writeAgent.2.1 71 = .ok (.aload_n 0, 1) := by decide +kernel
theorem d_PA_writeAgent_72 : decode s_PA_writeAgent.2.1 72 = .ok (.getfield 71, 3) := by decide +kernel
theorem d_PA_writeAgent_75 : decode s_PA_writeAgent.2.1 75 = .ok (.iconst 2, 1) := by decide +kernel
theorem d_PA_writeAgent_76 : decode s_PA_writeAgent.2.1 76 = .ok (.iload_n 1, 1) := by decide +kernel
theorem d_PA_writeAgent_77 : decode s_PA_writeAgent.2.1 77 = .ok (.iconst 2, 1) := by decide +kernel
theorem d_PA_writeAgent_78 : decode s_PA_writeAgent.2.1 78 = .ok (.invokestatic 229, 3) := by decide +kernel
theorem d_PA_writeAgent_81 : decode s_PA_writeAgent.2.1 81 = .ok (.invokevirtual 174, 3) := by decide +kernel
theorem d_PA_writeAgent_84 : decode s_PA_writeAgent.2.1 84 = .ok (.invokevirtual 380, 3) := by decide +kernel
theorem d_PA_writeAgent_87 : decode s_PA_writeAgent.2.1 87 = .ok (.aload_n 2, 1) := by decide +kernel
theorem d_PA_writeAgent_88 : decode s_PA_writeAgent.2.1 88 = .ok (.bipush 62, 2) := by decide +kernel
theorem d_PA_writeAgent_90 : decode s_PA_writeAgent.2.1 90 = .ok (.invokevirtual 346, 3) := by decide +kernel
theorem d_PA_writeAgent_93 : decode s_PA_writeAgent.2.1 93 = .ok (.iload_n 1, 1) := by decide +kernel
theorem d_PA_writeAgent_94 : decode s_PA_writeAgent.2.1 94 = .ok (.iconst 3, 1) := by decide +kernel
theorem d_PA_writeAgent_95 : decode s_PA_writeAgent.2.1 95 = .ok (.invokestatic 229, 3) := by decide +kernel
theorem d_PA_writeAgent_98 : decode s_PA_writeAgent.2.1 98 = .ok (.iconst (-1), 1) := by decide +kernel
theorem d_PA_writeAgent_99 : decode s_PA_writeAgent.2.1 99 = .ok (.if_icmp .eq 26, 3) := by decide +kernel
theorem d_PA_writeAgent_102 : decode s_PA_writeAgent.2.1 102 = .ok (.aload_n 2, 1) := by decide +kernel
theorem d_PA_writeAgent_103 : decode s_PA_writeAgent.2.1 103 = .ok (.bipush 33, 2) := by decide +kernel
theorem d_PA_writeAgent_105 : decode s_PA_writeAgent.2.1 105 = .ok (.invokevirtual 346, 3) := by decide +kernel
theorem d_PA_writeAgent_108 : decode s_PA_writeAgent.2.1 108 = .ok (.aload_n 2, 1) := by decide +kernel
theorem d_PA_writeAgent_109 : decode s_PA_writeAgent.2.1 109 = .ok (.aload_n 0, 1) := by decide +kernel
theorem d_PA_writeAgent_110 : decode s_PA_writeAgent.2.1 110 = .ok (.getfield 71, 3) := by decide +kernel
theorem d_PA_writeAgent_113 : decode s_PA_writeAgent.2.1 113 = .ok (.iconst 2, 1) := by decide +kernel
theorem d_PA_writeAgent_114 : decode s_PA_writeAgent.2.1 114 = .ok (.iload_n 1, 1) := by decide +kernel
theorem d_PA_writeAgent_115 : decode s_PA_writeAgent.2.1 115 = .ok (.iconst 3, 1) := by decide +kernel
theorem d_PA_writeAgent_116 : decode s_PA_writeAgent.2.1 116 = .ok (.invokestatic 229, 3) := by decide +kernel
theorem d_PA_writeAgent_119 : decode s_PA_writeAgent.2.1 119 = .ok (.invokevirtual 174, 3) := by decide +kernel
theorem d_PA_writeAgent_122 : decode s_PA_writeAgent.2.1 122 = .ok (.invokevirtual 380, 3) := by decide +kernel
theorem d_PA_writeAgent_125 : decode s_PA_writeAgent.2.1 125 = .ok (.return_, 1) := by decide +kernel
theorem d_PA_write_0 : decode s_PA_write.2.1 0 = .ok (.aload_n 2, 1) := by decide +kernel
theorem d_PA_write_1 : decode s_PA_write.2.1 1 = .ok (.iconst 0, 1) := by decide +kernel
theorem d_PA_write_2 : decode s_PA_write.2.1 2 = .ok (.invokevirtual 108, 3) := by decide +kernel
theorem d_PA_write_5 : decode s_PA_write.2.1 5 = .ok (.aload_n 0, 1) := by decide +kernel
theorem d_PA_write_6 : decode s_PA_write.2.1 6 = .ok (.getfield 32, 3) := by decide +kernel
theorem d_PA_write_9 : decode s_PA_write.2.1 9 = .ok (.iload_n 1, 1) := by decide +kernel
theorem d_PA_write_10 : decode s_PA_write.2.1 10 = .ok (.invokevirtual 200, 3) := by decide +kernel
theorem d_PA_write_13 : decode s_PA_write.2.1 13 = .ok (.istore_n 3, 1) := by decide +kernel
theorem d_PA_write_14 : decode s_PA_write.2.1 14 = .ok (.iload_n 3, 1) := by decide +kernel
theorem d_PA_write_15 : decode s_PA_write.2.1 15 = .ok (.iconst (-1), 1) := by decide +kernel
theorem d_PA_write_16 : decode s_PA_write.2.1 16 = .ok (.if_icmp .ne 12, 3) := by decide +kernel
theorem d_PA_write_19 : decode s_PA_write.2.1 19 = .ok (.aload_n 2, 1) := by decide +kernel
theorem d_PA_write_20 : decode s_PA_write.2.1 20 = .ok (.bipush 45, 2) := by decide +kernel
theorem d_PA_write_22 : decode s_PA_write.2.1 22 = .ok (.invokevirtual 346, 3) := by decide +kernel
theorem d_PA_write_25 : decode s_PA_write.2.1 25 = .ok (.goto 16, 3) := by decide +kernel
theorem d_PA_write_28 : decode s_PA_write.2.1 28 = .ok (.aload_n 2, 1) := by decide +kernel
theorem d_PA_write_29 : decode s_PA_write.2.1 29 = .ok (.aload_n 0, 1) := by decide +kernel
theorem d_PA_write_30 : decode s_PA_write.2.1 30 = .ok (.getfield 71, 3) := by decide +kernel
theorem d_PA_write_33 : decode s_PA_write.2.1 33 = .ok (.iconst 1, 1) := by decide +kernel
theorem d_PA_write_34 : decode s_PA_write.2.1 34 = .ok (.iload_n 3, 1) := by decide +kernel
theorem d_PA_write_35 : decode s_PA_write.2.1 35 = .ok (.invokevirtual 174, 3) := by decide +kernel
theorem d_PA_write_38 : decode s_PA_write.2.1 38 = .ok (.invokevirtual 380, 3) := by decide +kernel
theorem d_PA_write_41 : decode s_PA_write.2.1 41 = .ok (.iconst 0, 1) := by decide +kernel
theorem d_PA_write_42 : decode s_PA_write.2.1 42 = .ok (.istore 4, 2) := by decide +kernel
theorem d_PA_write_44 : decode s_PA_write.2.1 44 = .ok (.iload 4, 2) := by decide +kernel
theorem d_PA_write_46 : decode s_PA_write.2.1 46 = .ok (.aload_n 0, 1) := by decide +kernel
theorem d_PA_write_47 : decode s_PA_write.2.1 47 = .ok (.getfield 71, 3) := by decide +kernel
theorem d_PA_write_50 : decode s_PA_write.2.1 50 = .ok (.getfield 143, 3) := by decide +kernel
theorem d_PA_write_53 : decode s_PA_write.2.1 53 = .ok (.if_icmp .ge 28, 3) := by decide +kernel
theorem d_PA_write_56 : decode s_PA_write.2.1 56 = .ok (.aload_n 0, 1) := by decide +kernel
theorem d_PA_write_57 : decode s_PA_write.2.1 57 = .ok (.aload_n 0, 1) := by decide +kernel
theorem d_PA_write_58 : decode s_PA_write.2.1 58 = .ok (.getfield 32, 3) := by decide +kernel
theorem d_PA_write_61 : decode s_PA_write.2.1 61 = .ok (.getfield 226, 3) := by decide +kernel
theorem d_PA_write_64 : decode s_PA_write.2.1 64 = .ok (.iload_n 1, 1) := by decide +kernel
theorem d_PA_write_65 : decode s_PA_write.2.1 65 = .ok (.iconst 4, 1) := by decide +kernel
theorem d_PA_write_66 : decode s_PA_write.2.1 66 = .ok (.imul, 1) := by decide +kernel
theorem d_PA_write_67 : decode s_PA_write.2.1 67 = .ok (.iload 4, 2) := by decide +kernel
theorem d_PA_write_69 : decode s_PA_write.2.1 69 = .ok (.iadd, 1) := by decide +kernel
theorem d_PA_write_70 : decode s_PA_write.2.1 70 = .ok (.iaload, 1) := by decide +kernel
theorem d_PA_write_71 : decode s_PA_write.2.1 71 = .ok (.aload_n 2, 1) := by decide +kernel
theorem d_PA_write_72 : decode s_PA_write.2.1 72 = .ok (.invokevirtual 383, 3) := by decide +kernel
theorem d_PA_write_75 : decode s_PA_write.2.1 75 = .ok (.iinc 4 1, 3) := by decide +kernel
theorem d_PA_write_78 : decode s_PA_write.2.1 78 = .ok (.goto (-34), 3) := by decide +kernel
theorem d_PA_write_81 : decode s_PA_write.2.1 81 = .ok (.return_, 1) := by decide +kernel
theorem d_PA_spell_0 : decode s_PA_spell.2.1 0 = .ok (.aload_n 0, 1) := by decide +kernel
theorem d_PA_spell_1 : decode s_PA_spell.2.1 1 = .ok (.iload_n 1, 1) := by decide +kernel
theorem d_PA_spell_2 : decode s_PA_spell.2.1 2 = .ok (.invokevirtual 194, 3) := by decide +kernel
theorem d_PA_spell_5 : decode s_PA_spell.2.1 5 = .ok (.ifCond .ne 5, 3) := by decide +kernel
theorem d_PA_spell_8 : decode s_PA_spell.2.1 8 = .ok (.iconst (-1), 1) := by decide +kernel
theorem d_PA_spell_9 : decode s_PA_spell.2.1 9 = .ok (.ireturn, 1) := by decide +kernel
theorem d_PA_spell_10 : decode s_PA_spell.2.1 10 = .ok (.aload_n 0, 1) := by decide +kernel
theorem d_PA_spell_11 : decode s_PA_spell.2.1 11 = .ok (.iload_n 1, 1) := by decide +kernel
theorem d_PA_spell_12 : decode s_PA_spell.2.1 12 = .ok (.aload_n 0, 1) := by decide +kernel
theorem d_PA_spell_13 : decode s_PA_spell.2.1 13 = .ok (.getfield 16, 3) := by decide +kernel
theorem d_PA_spell_16 : decode s_PA_spell.2.1 16 = .ok (.invokevirtual 335, 3) := by decide +kernel
theorem d_PA_spell_19 : decode s_PA_spell.2.1 19 = .ok (.aload_n 0, 1) := by decide +kernel
theorem d_PA_spell_20 : decode s_PA_spell.2.1 20 = .ok (.getfield 16, 3) := by decide +kernel
theorem d_PA_spell_23 : decode s_PA_spell.2.1 23 = .ok (.invokevirtual 96, 3) := by decide +kernel
theorem d_PA_spell_26 : decode s_PA_spell.2.1 26 = .ok (.ireturn, 1) := by decide +kernel
theorem d_Bytes_isLike_0 : decode s_Bytes_isLike.2.1 0 = .ok (.aload_n 0, 1) := by decide +kernel
theorem d_Bytes_isLike_1 : decode s_Bytes_isLike.2.1 1 = .ok (.getfield 15, 3) := by decide +kernel
theorem d_Bytes_isLike_4 : decode s_Bytes_isLike.2.1 4 = .ok (.aload_n 1, 1) := by decide +kernel
theorem d_Bytes_isLike_5 : decode s_Bytes_isLike.2.1 5 = .ok (.getfield 15, 3) := by decide +kernel
theorem d_Bytes_isLike_8 : decode s_Bytes_isLike.2.1 8 = .ok (.if_icmp .eq 5, 3) := by decide +kernel
theorem d_Bytes_isLike_11 : decode s_Bytes_isLike.2.1 11 = .ok (.iconst 0, 1) := by decide +kernel
theorem d_Bytes_isLike_12 : decode s_Bytes_isLike.2.1 12 = .ok (.ireturn, 1) := by decide +kernel
theorem d_Bytes_isLike_13 : decode s_Bytes_isLike.2.1 13 = .ok (.iconst 0, 1) := by decide +kernel
theorem d_Bytes_isLike_14 : decode s_Bytes_isLike.2.1 14 = .ok (.istore_n 2, 1) := by decide +kernel
theorem d_Bytes_isLike_15 : decode s_Bytes_isLike.2.1 15 = .ok (.iload_n 2, 1) := by decide +kernel
theorem d_Bytes_isLike_16 : decode s_Bytes_isLike.2.1 16 = .ok (.aload_n 0, 1) := by decide +kernel
theorem d_Bytes_isLike_17 : decode s_Bytes_isLike.2.1 17 = .ok (.getfield 15, 3) := by decide +kernel
theorem d_Bytes_isLike_20 : decode s_Bytes_isLike.2.1 20 = .ok (.if_icmp .ge 26, 3) := by decide +kernel
theorem d_Bytes_isLike_23 : decode s_Bytes_isLike.2.1 23 = .ok (.aload_n 0, 1) := by decide +kernel
theorem d_Bytes_isLike_24 : decode s_Bytes_isLike.2.1 24 = .ok (.getfield 9, 3) := by decide +kernel
theorem d_Bytes_isLike_27 : decode s_Bytes_isLike.2.1 27 = .ok (.iload_n 2, 1) := by decide +kernel
theorem d_Bytes_isLike_28 : decode s_Bytes_isLike.2.1 28 = .ok (.iaload, 1) := by decide +kernel
theorem d_Bytes_isLike_29 : decode s_Bytes_isLike.2.1 29 = .ok (.aload_n 1, 1) := by decide +kernel
theorem d_Bytes_isLike_30 : decode s_Bytes_isLike.2.1 30 = .ok (.getfield 9, 3) := by decide +kernel
theorem d_Bytes_isLike_33 : decode s_Bytes_isLike.2.1 33 = .ok (.iload_n 2, 1) := by decide +kernel
theorem d_Bytes_isLike_34 : decode s_Bytes_isLike.2.1 34 = .ok (.iaload, 1) := by decide +kernel
theorem d_Bytes_isLike_35 : decode s_Bytes_isLike.2.1 35 = .ok (.if_icmp .eq 5, 3) := by decide +kernel
theorem d_Bytes_isLike_38 : decode s_Bytes_isLike.2.1 38 = .ok (.iconst 0, 1) := by decide +kernel
theorem d_Bytes_isLike_39 : decode s_Bytes_isLike.2.1 39 = .ok (.ireturn, 1) := by decide +kernel
theorem d_Bytes_isLike_40 : decode s_Bytes_isLike.2.1 40 = .ok (.iinc 2 1, 3) := by decide +kernel
theorem d_Bytes_isLike_43 : decode s_Bytes_isLike.2.1 43 = .ok (.goto (-28), 3) := by decide +kernel
theorem d_Bytes_isLike_46 : decode s_Bytes_isLike.2.1 46 = .ok (.iconst 1, 1) := by decide +kernel
theorem d_Bytes_isLike_47 : decode s_Bytes_isLike.2.1 47 = .ok (.ireturn, 1) := by decide +kernel
theorem d_PA_which_0 : decode s_PA_which.2.1 0 = .ok (.iconst (-1), 1) := by decide +kernel
theorem d_PA_which_1 : decode s_PA_which.2.1 1 = .ok (.istore_n 1, 1) := by decide +kernel
theorem d_PA_which_2 : decode s_PA_which.2.1 2 = .ok (.iconst 0, 1) := by decide +kernel
theorem d_PA_which_3 : decode s_PA_which.2.1 3 = .ok (.istore_n 2, 1) := by decide +kernel
theorem d_PA_which_4 : decode s_PA_which.2.1 4 = .ok (.aload_n 0, 1) := by decide +kernel
theorem d_PA_which_5 : decode s_PA_which.2.1 5 = .ok (.getfield 84, 3) := by decide +kernel
theorem d_PA_which_8 : decode s_PA_which.2.1 8 = .ok (.ifCond .eq 50, 3) := by decide +kernel
theorem d_PA_which_11 : decode s_PA_which.2.1 11 = .ok (.iload_n 2, 1) := by decide +kernel
theorem d_PA_which_12 : decode s_PA_which.2.1 12 = .ok (.aload_n 0, 1) := by decide +kernel
theorem d_PA_which_13 : decode s_PA_which.2.1 13 = .ok (.getfield 32, 3) := by decide +kernel
theorem d_PA_which_16 : decode s_PA_which.2.1 16 = .ok (.getfield 152, 3) := by decide +kernel
theorem d_PA_which_19 : decode s_PA_which.2.1 19 = .ok (.if_icmp .ge 39, 3) := by decide +kernel
theorem d_PA_which_22 : decode s_PA_which.2.1 22 = .ok (.iload_n 1, 1) := by decide +kernel
theorem d_PA_which_23 : decode s_PA_which.2.1 23 = .ok (.iconst (-1), 1) := by decide +kernel
theorem d_PA_which_24 : decode s_PA_which.2.1 24 = .ok (.if_icmp .ne 34, 3) := by decide +kernel
theorem d_PA_which_27 : decode s_PA_which.2.1 27 = .ok (.aload_n 0, 1) := by decide +kernel
theorem d_PA_which_28 : decode s_PA_which.2.1 28 = .ok (.iload_n 2, 1) := by decide +kernel
theorem d_PA_which_29 : decode s_PA_which.2.1 29 = .ok (.aload_n 0, 1) := by decide +kernel
theorem d_PA_which_30 : decode s_PA_which.2.1 30 = .ok (.getfield 19, 3) := by decide +kernel
theorem d_PA_which_33 : decode s_PA_which.2.1 33 = .ok (.invokevirtual 335, 3) := by decide +kernel
theorem d_PA_which_36 : decode s_PA_which.2.1 36 = .ok (.aload_n 0, 1) := by decide +kernel
theorem d_PA_which_37 : decode s_PA_which.2.1 37 = .ok (.getfield 19, 3) := by decide +kernel
theorem d_PA_which_40 : decode s_PA_which.2.1 40 = .ok (.aload_n 0, 1) := by decide +kernel
theorem d_PA_which_41 : decode s_PA_which.2.1 41 = .ok (.getfield 12, 3) := by decide +kernel
theorem d_PA_which_44 : decode s_PA_which.2.1 44 = .ok (.invokevirtual 339, 3) := by decide +kernel
theorem d_PA_which_47 : decode s_PA_which.2.1 47 = .ok (.ifCond .eq 5, 3) := by decide +kernel
theorem d_PA_which_50 : decode s_PA_which.2.1 50 = .ok (.iload_n 2, 1) := by decide +kernel
theorem d_PA_which_51 : decode s_PA_which.2.1 51 = .ok (.istore_n 1, 1) := by decide +kernel
theorem d_PA_which_52 : decode s_PA_which.2.1 52 = .ok (.iinc 2 1, 3) := by decide +kernel
theorem d_PA_which_55 : decode s_PA_which.2.1 55 = .ok (.goto (-51), 3) := by decide +kernel
theorem d_PA_which_58 : decode s_PA_which.2.1 58 = .ok (.aload_n 0, 1) := by decide +kernel
theorem d_PA_which_59 : decode s_PA_which.2.1 59 = .ok (.getfield 12, 3) := by decide +kernel
theorem d_PA_which_62 : decode s_PA_which.2.1 62 = .ok (.iconst 0, 1) := by decide +kernel
theorem d_PA_which_63 : decode s_PA_which.2.1 63 = .ok (.invokevirtual 108, 3) := by decide +kernel
theorem d_PA_which_66 : decode s_PA_which.2.1 66 = .ok (.iload_n 1, 1) := by decide +kernel
theorem d_PA_which_67 : decode s_PA_which.2.1 67 = .ok (.iconst (-1), 1) := by decide +kernel
theorem d_PA_which_68 : decode s_PA_which.2.1 68 = .ok (.if_icmp .ne 11, 3) := by decide +kernel
theorem d_PA_which_71 : decode s_PA_which.2.1 71 = .ok (.aload_n 0, 1) := by decide +kernel
theorem d_PA_which_72 : decode s_PA_which.2.1 72 = .ok (.iconst 5, 1) := by decide +kernel
theorem d_PA_which_73 : decode s_PA_which.2.1 73 = .ok (.invokevirtual 100, 3) := by decide +kernel
theorem d_PA_which_76 : decode s_PA_which.2.1 76 = .ok (.goto 4, 3) := by decide +kernel
theorem d_PA_which_79 : decode s_PA_which.2.1 79 = .ok (.iload_n 1, 1) := by decide +kernel
theorem d_PA_which_80 : decode s_PA_which.2.1 80 = .ok (.ireturn, 1) := by decide +kernel
theorem d_PA_asByte_0 : decode s_PA_asByte.2.1 0 = .ok (.iload_n 0, 1) := by decide +kernel
theorem d_PA_asByte_1 : decode s_PA_asByte.2.1 1 = .ok (.iconst (-1), 1) := by decide +kernel
theorem d_PA_asByte_2 : decode s_PA_asByte.2.1 2 = .ok (.if_icmp .ne 9, 3) := by decide +kernel
theorem d_PA_asByte_5 : decode s_PA_asByte.2.1 5 = .ok (.sipush 255, 3) := by decide +kernel
theorem d_PA_asByte_8 : decode s_PA_asByte.2.1 8 = .ok (.goto 4, 3) := by decide +kernel
theorem d_PA_asByte_11 : decode s_PA_asByte.2.1 11 = .ok (.iload_n 0, 1) := by decide +kernel
theorem d_PA_asByte_12 : decode s_PA_asByte.2.1 12 = .ok (.ireturn, 1) := by decide +kernel
theorem d_Bytes_check_0 : decode s_Bytes_check.2.1 0 = .ok (.sipush 193, 3) := by decide +kernel
theorem d_Bytes_check_3 : decode s_Bytes_check.2.1 3 = .ok (.istore_n 2, 1) := by decide +kernel
theorem d_Bytes_check_4 : decode s_Bytes_check.2.1 4 = .ok (.iconst 0, 1) := by decide +kernel
theorem d_Bytes_check_5 : decode s_Bytes_check.2.1 5 = .ok (.istore_n 3, 1) := by decide +kernel
theorem d_Bytes_check_6 : decode s_Bytes_check.2.1 6 = .ok (.iload_n 3, 1) := by decide +kernel
theorem d_Bytes_check_7 : decode s_Bytes_check.2.1 7 = .ok (.iload_n 1, 1) := by decide +kernel
theorem d_Bytes_check_8 : decode s_Bytes_check.2.1 8 = .ok (.if_icmp .ge 32, 3) := by decide +kernel
theorem d_Bytes_check_11 : decode s_Bytes_check.2.1 11 = .ok (.iload_n 3, 1) := by decide +kernel
theorem d_Bytes_check_12 : decode s_Bytes_check.2.1 12 = .ok (.aload_n 0, 1) := by decide +kernel
theorem d_Bytes_check_13 : decode s_Bytes_check.2.1 13 = .ok (.getfield 15, 3) := by decide +kernel
theorem d_Bytes_check_16 : decode s_Bytes_check.2.1 16 = .ok (.if_icmp .ge 24, 3) := by decide +kernel
theorem d_Bytes_check_19 : decode s_Bytes_check.2.1 19 = .ok (.iconst 5, 1) := by decide +kernel
theorem d_Bytes_check_20 : decode s_Bytes_check.2.1 20 = .ok (.iload_n 2, 1) := by decide +kernel
theorem d_Bytes_check_21 : decode s_Bytes_check.2.1 21 = .ok (.imul, 1) := by decide +kernel
theorem d_Bytes_check_22 : decode s_Bytes_check.2.1 22 = .ok (.aload_n 0, 1) := by decide +kernel
theorem d_Bytes_check_23 : decode s_Bytes_check.2.1 23 = .ok (.getfield 9, 3) := by decide +kernel
theorem d_Bytes_check_26 : decode s_Bytes_check.2.1 26 = .ok (.iload_n 3, 1) := by decide +kernel
theorem d_Bytes_check_27 : decode s_Bytes_check.2.1 27 = .ok (.iaload, 1) := by decide +kernel
theorem d_Bytes_check_28 : decode s_Bytes_check.2.1 28 = .ok (.iadd, 1) := by decide +kernel
theorem d_Bytes_check_29 : decode s_Bytes_check.2.1 29 = .ok (.sipush 251, 3) := by decide +kernel
theorem d_Bytes_check_32 : decode s_Bytes_check.2.1 32 = .ok (.irem, 1) := by decide +kernel
theorem d_Bytes_check_33 : decode s_Bytes_check.2.1 33 = .ok (.istore_n 2, 1) := by decide +kernel
theorem d_Bytes_check_34 : decode s_Bytes_check.2.1 34 = .ok (.iinc 3 1, 3) := by decide +kernel
theorem d_Bytes_check_37 : decode s_Bytes_check.2.1 37 = .ok (.goto (-31), 3) := by decide +kernel
theorem d_Bytes_check_40 : decode s_Bytes_check.2.1 40 = .ok (.iload_n 2, 1) := by decide +kernel
theorem d_Bytes_check_41 : decode s_Bytes_check.2.1 41 = .ok (.ireturn, 1) := by decide +kernel
theorem d_PA_image_0 : decode s_PA_image.2.1 0 = .ok (.aload_n 0, 1) := by decide +kernel
theorem d_PA_image_1 : decode s_PA_image.2.1 1 = .ok (.getfield 84, 3) := by decide +kernel
theorem d_PA_image_4 : decode s_PA_image.2.1 4 = .ok (.ifCond .ne 5, 3) := by decide +kernel
theorem d_PA_image_7 : decode s_PA_image.2.1 7 = .ok (.iconst (-1), 1) := by decide +kernel
theorem d_PA_image_8 : decode s_PA_image.2.1 8 = .ok (.ireturn, 1) := by decide +kernel
theorem d_PA_image_9 : decode s_PA_image.2.1 9 = .ok (.aload_n 0, 1) := by decide +kernel
theorem d_PA_image_10 : decode s_PA_image.2.1 10 = .ok (.getfield 16, 3) := by decide +kernel
theorem d_PA_image_13 : decode s_PA_image.2.1 13 = .ok (.iconst 0, 1) := by decide +kernel
theorem d_PA_image_14 : decode s_PA_image.2.1 14 = .ok (.invokevirtual 108, 3) := by decide +kernel
theorem d_PA_image_17 : decode s_PA_image.2.1 17 = .ok (.aload_n 0, 1) := by decide +kernel
theorem d_PA_image_18 : decode s_PA_image.2.1 18 = .ok (.getfield 16, 3) := by decide +kernel
theorem d_PA_image_21 : decode s_PA_image.2.1 21 = .ok (.aload_n 0, 1) := by decide +kernel
theorem d_PA_image_22 : decode s_PA_image.2.1 22 = .ok (.getfield 46, 3) := by decide +kernel
theorem d_PA_image_25 : decode s_PA_image.2.1 25 = .ok (.getfield 270, 3) := by decide +kernel
theorem d_PA_image_28 : decode s_PA_image.2.1 28 = .ok (.invokestatic 343, 3) := by decide +kernel
theorem d_PA_image_31 : decode s_PA_image.2.1 31 = .ok (.invokevirtual 346, 3) := by decide +kernel
theorem d_PA_image_34 : decode s_PA_image.2.1 34 = .ok (.iconst 0, 1) := by decide +kernel
theorem d_PA_image_35 : decode s_PA_image.2.1 35 = .ok (.istore_n 1, 1) := by decide +kernel
theorem d_PA_image_36 : decode s_PA_image.2.1 36 = .ok (.iload_n 1, 1) := by decide +kernel
theorem d_PA_image_37 : decode s_PA_image.2.1 37 = .ok (.aload_n 0, 1) := by decide +kernel
theorem d_PA_image_38 : decode s_PA_image.2.1 38 = .ok (.getfield 71, 3) := by decide +kernel
theorem d_PA_image_41 : decode s_PA_image.2.1 41 = .ok (.getfield 143, 3) := by decide +kernel
theorem d_PA_image_44 : decode s_PA_image.2.1 44 = .ok (.if_icmp .ge 45, 3) := by decide +kernel
theorem d_PA_image_47 : decode s_PA_image.2.1 47 = .ok (.iconst 0, 1) := by decide +kernel
theorem d_PA_image_48 : decode s_PA_image.2.1 48 = .ok (.istore_n 2, 1) := by decide +kernel
theorem d_PA_image_49 : decode s_PA_image.2.1 49 = .ok (.iload_n 2, 1) := by decide +kernel
theorem d_PA_image_50 : decode s_PA_image.2.1 50 = .ok (.iconst 4, 1) := by decide +kernel
theorem d_PA_image_51 : decode s_PA_image.2.1 51 = .ok (.if_icmp .ge 32, 3) := by decide +kernel
theorem d_PA_image_54 : decode s_PA_image.2.1 54 = .ok (.aload_n 0, 1) := by decide +kernel
theorem d_PA_image_55 : decode s_PA_image.2.1 55 = .ok (.getfield 16, 3) := by decide +kernel
theorem d_PA_image_58 : decode s_PA_image.2.1 58 = .ok (.aload_n 0, 1) := by decide +kernel
theorem d_PA_image_59 : decode s_PA_image.2.1 59 = .ok (.getfield 46, 3) := by decide +kernel
theorem d_PA_image_62 : decode s_PA_image.2.1 62 = .ok (.getfield 280, 3) := by decide +kernel
theorem d_PA_image_65 : decode s_PA_image.2.1 65 = .ok (.iload_n 1, 1) := by decide +kernel
theorem d_PA_image_66 : decode s_PA_image.2.1 66 = .ok (.iaload, 1) := by decide +kernel
theorem d_PA_image_67 : decode s_PA_image.2.1 67 = .ok (.iload_n 2, 1) := by decide +kernel
theorem d_PA_image_68 : decode s_PA_image.2.1 68 = .ok (.invokestatic 229, 3) := by decide +kernel
theorem d_PA_image_71 : decode s_PA_image.2.1 71 = .ok (.invokestatic 343, 3) := by decide +kernel
theorem d_PA_image_74 : decode s_PA_image.2.1 74 = .ok (.invokevirtual 346, 3) := by decide +kernel
theorem d_PA_image_77 : decode s_PA_image.2.1 77 = .ok (.iinc 2 1, 3) := by decide +kernel
theorem d_PA_image_80 : decode s_PA_image.2.1 80 = .ok (.goto (-31), 3) := by decide +kernel
theorem d_PA_image_83 : decode s_PA_image.2.1 83 = .ok (.iinc 1 1, 3) := by decide +kernel
theorem d_PA_image_86 : decode s_PA_image.2.1 86 = .ok (.goto (-50), 3) := by decide +kernel
theorem d_PA_image_89 : decode s_PA_image.2.1 89 = .ok (.aload_n 0, 1) := by decide +kernel
theorem d_PA_image_90 : decode s_PA_image.2.1 90 = .ok (.getfield 16, 3) := by decide +kernel
theorem d_PA_image_93 : decode s_PA_image.2.1 93 = .ok (.aload_n 0, 1) := by decide +kernel
theorem d_PA_image_94 : decode s_PA_image.2.1 94 = .ok (.getfield 16, 3) := by decide +kernel
theorem d_PA_image_97 : decode s_PA_image.2.1 97 = .ok (.aload_n 0, 1) := by decide +kernel
theorem d_PA_image_98 : decode s_PA_image.2.1 98 = .ok (.getfield 16, 3) := by decide +kernel
theorem d_PA_image_101 : decode s_PA_image.2.1 101 = .ok (.invokevirtual 96, 3) := by decide +kernel
theorem d_PA_image_104 : decode s_PA_image.2.1 104 = .ok (.invokevirtual 349, 3) := by decide +kernel
theorem d_PA_image_107 : decode s_PA_image.2.1 107 = .ok (.invokevirtual 346, 3) := by decide +kernel
theorem d_PA_image_110 : decode s_PA_image.2.1 110 = .ok (.aload_n 0, 1) := by decide +kernel
theorem d_PA_image_111 : decode s_PA_image.2.1 111 = .ok (.getfield 16, 3) := by decide +kernel
theorem d_PA_image_114 : decode s_PA_image.2.1 114 = .ok (.invokevirtual 96, 3) := by decide +kernel
theorem d_PA_image_117 : decode s_PA_image.2.1 117 = .ok (.ireturn, 1) := by decide +kernel
theorem d_PA_octet_0 : decode s_PA_octet.2.1 0 = .ok (.aload_n 0, 1) := by decide +kernel
theorem d_PA_octet_1 : decode s_PA_octet.2.1 1 = .ok (.getfield 16, 3) := by decide +kernel
theorem d_PA_octet_4 : decode s_PA_octet.2.1 4 = .ok (.iload_n 1, 1) := by decide +kernel
theorem d_PA_octet_5 : decode s_PA_octet.2.1 5 = .ok (.invokevirtual 352, 3) := by decide +kernel
theorem d_PA_octet_8 : decode s_PA_octet.2.1 8 = .ok (.ireturn, 1) := by decide +kernel
theorem d_Table_isOneOf_0 : decode s_Table_isOneOf.2.1 0 = .ok (.iload_n 1, 1) := by decide +kernel
theorem d_Table_isOneOf_1 : decode s_Table_isOneOf.2.1 1 = .ok (.sipush 255, 3) := by decide +kernel
theorem d_Table_isOneOf_4 : decode s_Table_isOneOf.2.1 4 = .ok (.if_icmp .eq 13, 3) := by decide +kernel
theorem d_Table_isOneOf_7 : decode s_Table_isOneOf.2.1 7 = .ok (.iload_n 1, 1) := by decide +kernel
theorem d_Table_isOneOf_8 : decode s_Table_isOneOf.2.1 8 = .ok (.aload_n 0, 1) := by decide +kernel
theorem d_Table_isOneOf_9 : decode s_Table_isOneOf.2.1 9 = .ok (.getfield 15, 3) := by decide +kernel
theorem d_Table_isOneOf_12 : decode s_Table_isOneOf.2.1 12 = .ok (.iload_n 2, 1) := by decide +kernel
theorem d_Table_isOneOf_13 : decode s_Table_isOneOf.2.1 13 = .ok (.iaload, 1) := by decide +kernel
theorem d_Table_isOneOf_14 : decode s_Table_isOneOf.2.1 14 = .ok (.if_icmp .ge 7, 3) := by decide +kernel
theorem d_Table_isOneOf_17 : decode s_Table_isOneOf.2.1 17 = .ok (.iconst 1, 1) := by decide +kernel
theorem d_Table_isOneOf_18 : decode s_Table_isOneOf.2.1 18 = .ok (.goto 4, 3) := by decide +kernel
theorem d_Table_isOneOf_21 : decode s_Table_isOneOf.2.1 21 = .ok (.iconst 0, 1) := by decide +kernel
theorem d_Table_isOneOf_22 : decode s_Table_isOneOf.2.1 22 = .ok (.ireturn, 1) := by decide +kernel
theorem d_Table_isImage_0 : decode s_Table_isImage.2.1 0 = .ok (.iconst 2, 1) := by decide +kernel
theorem d_Table_isImage_1 : decode s_Table_isImage.2.1 1 = .ok (.iconst 4, 1) := by decide +kernel
theorem d_Table_isImage_2 : decode s_Table_isImage.2.1 2 = .ok (.aload_n 0, 1) := by decide +kernel
theorem d_Table_isImage_3 : decode s_Table_isImage.2.1 3 = .ok (.getfield 9, 3) := by decide +kernel
theorem d_Table_isImage_6 : decode s_Table_isImage.2.1 6 = .ok (.imul, 1) := by decide +kernel
theorem d_Table_isImage_7 : decode s_Table_isImage.2.1 7 = .ok (.iadd, 1) := by decide +kernel
theorem d_Table_isImage_8 : decode s_Table_isImage.2.1 8 = .ok (.istore_n 2, 1) := by decide +kernel
theorem d_Table_isImage_9 : decode s_Table_isImage.2.1 9 = .ok (.aload_n 1, 1) := by decide +kernel
theorem d_Table_isImage_10 : decode s_Table_isImage.2.1 10 = .ok (.invokevirtual 94, 3) := by decide +kernel
theorem d_Table_isImage_13 : decode s_Table_isImage.2.1 13 = .ok (.iload_n 2, 1) := by decide +kernel
theorem d_Table_isImage_14 : decode s_Table_isImage.2.1 14 = .ok (.if_icmp .ne 20, 3) := by decide +kernel
theorem d_Table_isImage_17 : decode s_Table_isImage.2.1 17 = .ok (.aload_n 1, 1) := by decide +kernel
theorem d_Table_isImage_18 : decode s_Table_isImage.2.1 18 = .ok (.iload_n 2, 1) := by decide +kernel
theorem d_Table_isImage_19 : decode s_Table_isImage.2.1 19 = .ok (.iconst 1, 1) := by decide +kernel
theorem d_Table_isImage_20 : decode s_Table_isImage.2.1 20 = .ok (.isub, 1) := by decide +kernel
theorem d_Table_isImage_21 : decode s_Table_isImage.2.1 21 = .ok (.invokevirtual 100, 3) := by decide +kernel
theorem d_Table_isImage_24 : decode s_Table_isImage.2.1 24 = .ok (.aload_n 1, 1) := by decide +kernel
theorem d_Table_isImage_25 : decode s_Table_isImage.2.1 25 = .ok (.iload_n 2, 1) := by decide +kernel
theorem d_Table_isImage_26 : decode s_Table_isImage.2.1 26 = .ok (.iconst 1, 1) := by decide +kernel
theorem d_Table_isImage_27 : decode s_Table_isImage.2.1 27 = .ok (.isub, 1) := by decide +kernel
theorem d_Table_isImage_28 : decode s_Table_isImage.2.1 28 = .ok (.invokevirtual 103, 3) := by decide +kernel
theorem d_Table_isImage_31 : decode s_Table_isImage.2.1 31 = .ok (.if_icmp .eq 5, 3) := by decide +kernel
theorem d_Table_isImage_34 : decode s_Table_isImage.2.1 34 = .ok (.iconst 0, 1) := by decide +kernel
theorem d_Table_isImage_35 : decode s_Table_isImage.2.1 35 = .ok (.ireturn, 1) := by decide +kernel
theorem d_Table_isImage_36 : decode s_Table_isImage.2.1 36 = .ok (.aload_n 0, 1) := by decide +kernel
theorem d_Table_isImage_37 : decode s_Table_isImage.2.1 37 = .ok (.aload_n 1, 1) := by decide +kernel
theorem d_Table_isImage_38 : decode s_Table_isImage.2.1 38 = .ok (.iconst 0, 1) := by decide +kernel
theorem d_Table_isImage_39 : decode s_Table_isImage.2.1 39 = .ok (.invokevirtual 100, 3) := by decide +kernel
theorem d_Table_isImage_42 : decode s_Table_isImage.2.1 42 = .ok (.iconst 1, 1) := by decide +kernel
theorem d_Table_isImage_43 : decode s_Table_isImage.2.1 43 = .ok (.invokevirtual 106, 3) := by decide +kernel
theorem d_Table_isImage_46 : decode s_Table_isImage.2.1 46 = .ok (.ifCond .ne 5, 3) := by decide +kernel
theorem d_Table_isImage_49 : decode s_Table_isImage.2.1 49 = .ok (.iconst 0, 1) := by decide +kernel
theorem d_Table_isImage_50 : decode s_Table_isImage.2.1 50 = .ok (.ireturn, 1) := by decide +kernel
theorem d_Table_isImage_51 : decode s_Table_isImage.2.1 51 = .ok (.iconst 1, 1) := by decide +kernel
theorem d_Table_isImage_52 : decode s_Table_isImage.2.1 52 = .ok (.istore_n 3, 1) := by decide +kernel
theorem d_Table_isImage_53 : decode s_Table_isImage.2.1 53 = .ok (.iload_n 3, 1) := by decide +kernel
theorem d_Table_isImage_54 : decode s_Table_isImage.2.1 54 = .ok (.iload_n 2, 1) := by decide +kernel
theorem d_Table_isImage_55 : decode s_Table_isImage.2.1 55 = .ok (.iconst 1, 1) := by decide +kernel
theorem d_Table_isImage_56 : decode s_Table_isImage.2.1 56 = .ok (.isub, 1) := by decide +kernel
theorem d_Table_isImage_57 : decode s_Table_isImage.2.1 57 = .ok (.if_icmp .ge 60, 3) := by decide +kernel
theorem d_Table_isImage_60 : decode s_Table_isImage.2.1 60 = .ok (.iload_n 3, 1) := by decide +kernel
theorem d_Table_isImage_61 : decode s_Table_isImage.2.1 61 = .ok (.iconst 4, 1) := by decide +kernel
theorem d_Table_isImage_62 : decode s_Table_isImage.2.1 62 = .ok (.irem, 1) := by decide +kernel
theorem d_Table_isImage_63 : decode s_Table_isImage.2.1 63 = .ok (.iconst 1, 1) := by decide +kernel
theorem d_Table_isImage_64 : decode s_Table_isImage.2.1 64 = .ok (.if_icmp .ne 7, 3) := by decide +kernel
theorem d_Table_isImage_67 : decode s_Table_isImage.2.1 67 = .ok (.iconst 1, 1) := by decide +kernel
theorem d_Table_isImage_68 : decode s_Table_isImage.2.1 68 = .ok (.goto 4, 3) := by decide +kernel
theorem d_Table_isImage_71 : decode s_Table_isImage.2.1 71 = .ok (.iconst 0, 1) := by decide +kernel
theorem d_Table_isImage_72 : decode s_Table_isImage.2.1 72 = .ok (.istore 4, 2) := by decide +kernel
theorem d_Table_isImage_74 : decode s_Table_isImage.2.1 74 = .ok (.iload 4, 2) := by decide +kernel
theorem d_Table_isImage_76 : decode s_Table_isImage.2.1 76 = .ok (.ifCond .eq 20, 3) := by decide +kernel
theorem d_Table_isImage_79 : decode s_Table_isImage.2.1 79 = .ok (.aload_n 1, 1) := by decide +kernel
theorem d_Table_isImage_80 : decode s_Table_isImage.2.1 80 = .ok (.iload_n 3, 1) := by decide +kernel
theorem d_Table_isImage_81 : decode s_Table_isImage.2.1 81 = .ok (.invokevirtual 100, 3) := by decide +kernel
theorem d_Table_isImage_84 : decode s_Table_isImage.2.1 84 = .ok (.aload_n 0, 1) := by decide +kernel
theorem d_Table_isImage_85 : decode s_Table_isImage.2.1 85 = .ok (.getfield 15, 3) := by decide +kernel
theorem d_Table_isImage_88 : decode s_Table_isImage.2.1 88 = .ok (.iconst 0, 1) := by decide +kernel
theorem d_Table_isImage_89 : decode s_Table_isImage.2.1 89 = .ok (.iaload, 1) := by decide +kernel
theorem d_Table_isImage_90 : decode s_Table_isImage.2.1 90 = .ok (.if_icmp .lt 21, 3) := by decide +kernel
theorem d_Table_isImage_93 : decode s_Table_isImage.2.1 93 = .ok (.goto 16, 3) := by decide +kernel
theorem d_Table_isImage_96 : decode s_Table_isImage.2.1 96 = .ok (.aload_n 0, 1) := by decide +kernel
theorem d_Table_isImage_97 : decode s_Table_isImage.2.1 97 = .ok (.aload_n 1, 1) := by decide +kernel
theorem d_Table_isImage_98 : decode s_Table_isImage.2.1 98 = .ok (.iload_n 3, 1) := by decide +kernel
theorem d_Table_isImage_99 : decode s_Table_isImage.2.1 99 = .ok (.invokevirtual 100, 3) := by decide +kernel
theorem d_Table_isImage_102 : decode s_Table_isImage.2.1 102 = .ok (.iconst 2, 1) := by decide +kernel
theorem d_Table_isImage_103 : decode s_Table_isImage.2.1 103 = .ok (.invokevirtual 106, 3) := by decide +kernel
theorem d_Table_isImage_106 : decode s_Table_isImage.2.1 106 = .ok (.ifCond .ne 5, 3) := by decide +kernel
theorem d_Table_isImage_109 : decode s_Table_isImage.2.1 109 = .ok (.iconst 0, 1) := by decide +kernel
theorem d_Table_isImage_110 : decode s_Table_isImage.2.1 110 = .ok (.ireturn, 1) := by decide +kernel
theorem d_Table_isImage_111 : decode s_Table_isImage.2.1 111 = .ok (.iinc 3 1, 3) := by decide +kernel
theorem d_Table_isImage_114 : decode s_Table_isImage.2.1 114 = .ok (.goto (-61), 3) := by decide +kernel
theorem d_Table_isImage_117 : decode s_Table_isImage.2.1 117 = .ok (.iconst 1, 1) := by decide +kernel
theorem d_Table_isImage_118 : decode s_Table_isImage.2.1 118 = .ok (.ireturn, 1) := by decide +kernel
theorem d_Table_heldBy_0 : decode s_Table_heldBy.2.1 0 = .ok (.iload_n 0, 1) := by decide +kernel
theorem d_Table_heldBy_1 : decode s_Table_heldBy.2.1 1 = .ok (.sipush 255, 3) := by decide +kernel
theorem d_Table_heldBy_4 : decode s_Table_heldBy.2.1 4 = .ok (.if_icmp .ne 7, 3) := by decide +kernel
theorem d_Table_heldBy_7 : decode s_Table_heldBy.2.1 7 = .ok (.iconst (-1), 1) := by decide +kernel
theorem d_Table_heldBy_8 : decode s_Table_heldBy.2.1 8 = .ok (.goto 4, 3) := by decide +kernel
theorem d_Table_heldBy_11 : decode s_Table_heldBy.2.1 11 = .ok (.iload_n 0, 1) := by decide +kernel
theorem d_Table_heldBy_12 : decode s_Table_heldBy.2.1 12 = .ok (.ireturn, 1) := by decide +kernel
theorem d_Table_develop_0 : decode s_Table_develop.2.1 0 = .ok (.aload_n 2, 1) := by decide +kernel
theorem d_Table_develop_1 : decode s_Table_develop.2.1 1 = .ok (.aload_n 0, 1) := by decide +kernel
theorem d_Table_develop_2 : decode s_Table_develop.2.1 2 = .ok (.getfield 9, 3) := by decide +kernel
theorem d_Table_develop_5 : decode s_Table_develop.2.1 5 = .ok (.putfield 110, 3) := by decide +kernel
theorem d_Table_develop_8 : decode s_Table_develop.2.1 8 = .ok (.aload_n 2, 1) := by decide +kernel
theorem d_Table_develop_9 : decode s_Table_develop.2.1 9 = .ok (.aload_n 1, 1) := by decide +kernel
theorem d_Table_develop_10 : decode s_Table_develop.2.1 10 = .ok (.iconst 0, 1) := by decide +kernel
theorem d_Table_develop_11 : decode s_Table_develop.2.1 11 = .ok (.invokevirtual 100, 3) := by decide +kernel
theorem d_Table_develop_14 : decode s_Table_develop.2.1 14 = .ok (.invokestatic 111, 3) := by decide +kernel
theorem d_Table_develop_17 : decode s_Table_develop.2.1 17 = .ok (.putfield 114, 3) := by decide +kernel
theorem d_Table_develop_20 : decode s_Table_develop.2.1 20 = .ok (.iconst 0, 1) := by decide +kernel
theorem d_Table_develop_21 : decode s_Table_develop.2.1 21 = .ok (.istore_n 3, 1) := by decide +kernel
theorem d_Table_develop_22 : decode s_Table_develop.2.1 22 = .ok (.iload_n 3, 1) := by decide +kernel
theorem d_Table_develop_23 : decode s_Table_develop.2.1 23 = .ok (.aload_n 0, 1) := by decide +kernel
theorem d_Table_develop_24 : decode s_Table_develop.2.1 24 = .ok (.getfield 9, 3) := by decide +kernel
theorem d_Table_develop_27 : decode s_Table_develop.2.1 27 = .ok (.if_icmp .ge 64, 3) := by decide +kernel
theorem d_Table_develop_30 : decode s_Table_develop.2.1 30 = .ok (.iconst 1, 1) := by decide +kernel
theorem d_Table_develop_31 : decode s_Table_develop.2.1 31 = .ok (.iconst 4, 1) := by decide +kernel
theorem d_Table_develop_32 : decode s_Table_develop.2.1 32 = .ok (.iload_n 3, 1) := by decide +kernel
theorem d_Table_develop_33 : decode s_Table_develop.2.1 33 = .ok (.imul, 1) := by decide +kernel
theorem d_Table_develop_34 : decode s_Table_develop.2.1 34 = .ok (.iadd, 1) := by decide +kernel
theorem d_Table_develop_35 : decode s_Table_develop.2.1 35 = .ok (.istore 4, 2) := by decide +kernel
theorem d_Table_develop_37 : decode s_Table_develop.2.1 37 = .ok (.aload_n 2, 1) := by decide +kernel
theorem d_Table_develop_38 : decode s_Table_develop.2.1 38 = .ok (.getfield 117, 3) := by decide +kernel
theorem d_Table_develop_41 : decode s_Table_develop.2.1 41 = .ok (.iload_n 3, 1) := by decide +kernel
theorem d_Table_develop_42 : decode s_Table_develop.2.1 42 = .ok (.aload_n 1, 1) := by decide +kernel
theorem d_Table_develop_43 : decode s_Table_develop.2.1 43 = .ok (.iload 4, 2) := by decide +kernel
theorem d_Table_develop_45 : decode s_Table_develop.2.1 45 = .ok (.invokevirtual 100, 3) := by decide +kernel
theorem d_Table_develop_48 : decode s_Table_develop.2.1 48 = .ok (.aload_n 1, 1) := by decide +kernel
theorem d_Table_develop_49 : decode s_Table_develop.2.1 49 = .ok (.iload 4, 2) := by decide +kernel
theorem d_Table_develop_51 : decode s_Table_develop.2.1 51 = .ok (.iconst 1, 1) := by decide +kernel
theorem d_Table_develop_52 : decode s_Table_develop.2.1 52 = .ok (.iadd, 1) := by decide +kernel
theorem d_Table_develop_53 : decode s_Table_develop.2.1 53 = .ok (.invokevirtual 100, 3) := by decide +kernel
theorem d_Table_develop_56 : decode s_Table_develop.2.1 56 = .ok (.invokestatic 111, 3) := by decide +kernel
theorem d_Table_develop_59 : decode s_Table_develop.2.1 59 = .ok (.aload_n 1, 1) := by decide +kernel
theorem d_Table_develop_60 : decode s_Table_develop.2.1 60 = .ok (.iload 4, 2) := by decide +kernel
theorem d_Table_develop_62 : decode s_Table_develop.2.1 62 = .ok (.iconst 2, 1) := by decide +kernel
theorem d_Table_develop_63 : decode s_Table_develop.2.1 63 = .ok (.iadd, 1) := by decide +kernel
theorem d_Table_develop_64 : decode s_Table_develop.2.1 64 = .ok (.invokevirtual 100, 3) := by decide +kernel
theorem d_Table_develop_67 : decode s_Table_develop.2.1 67 = .ok (.invokestatic 111, 3) := by decide +kernel
theorem d_Table_develop_70 : decode s_Table_develop.2.1 70 = .ok (.aload_n 1, 1) := by decide +kernel
theorem d_Table_develop_71 : decode s_Table_develop.2.1 71 = .ok (.iload 4, 2) := by decide +kernel
theorem d_Table_develop_73 : decode s_Table_develop.2.1 73 = .ok (.iconst 3, 1) := by decide +kernel
theorem d_Table_develop_74 : decode s_Table_develop.2.1 74 = .ok (.iadd, 1) := by decide +kernel
theorem d_Table_develop_75 : decode s_Table_develop.2.1 75 = .ok (.invokevirtual 100, 3) := by decide +kernel
theorem d_Table_develop_78 : decode s_Table_develop.2.1 78 = .ok (.invokestatic 111, 3) := by decide +kernel
theorem d_Table_develop_81 : decode s_Table_develop.2.1 81 = .ok (.invokestatic 120, 3) := by decide +kernel
theorem d_Table_develop_84 : decode s_Table_develop.2.1 84 = .ok (.iastore, 1) := by decide +kernel
theorem d_Table_develop_85 : decode s_Table_develop.2.1 85 = .ok (.iinc 3 1, 3) := by decide +kernel
theorem d_Table_develop_88 : decode s_Table_develop.2.1 88 = .ok (.goto (-66), 3) := by decide +kernel
theorem d_Table_develop_91 : decode s_Table_develop.2.1 91 = .ok (.return_, 1) := by decide +kernel
theorem d_PA_on_0 : decode s_PA_on.2.1 0 = .ok (.aload_n 0, 1) := by decide +kernel
theorem d_PA_on_1 : decode s_PA_on.2.1 1 = .ok (.getfield 84, 3) := by decide +kernel
theorem d_PA_on_4 : decode s_PA_on.2.1 4 = .ok (.ifCond .eq 21, 3) := by decide +kernel
theorem d_PA_on_7 : decode s_PA_on.2.1 7 = .ok (.aload_n 0, 1) := by decide +kernel
theorem d_PA_on_8 : decode s_PA_on.2.1 8 = .ok (.getfield 71, 3) := by decide +kernel
theorem d_PA_on_11 : decode s_PA_on.2.1 11 = .ok (.aload_n 0, 1) := by decide +kernel
theorem d_PA_on_12 : decode s_PA_on.2.1 12 = .ok (.getfield 12, 3) := by decide +kernel
theorem d_PA_on_15 : decode s_PA_on.2.1 15 = .ok (.invokevirtual 355, 3) := by decide +kernel
theorem d_PA_on_18 : decode s_PA_on.2.1 18 = .ok (.ifCond .eq 7, 3) := by decide +kernel
theorem d_PA_on_21 : decode s_PA_on.2.1 21 = .ok (.iconst 1, 1) := by decide +kernel
theorem d_PA_on_22 : decode s_PA_on.2.1 22 = .ok (.goto 4, 3) := by decide +kernel
theorem d_PA_on_25 : decode s_PA_on.2.1 25 = .ok (.iconst 0, 1) := by decide +kernel
theorem d_PA_on_26 : decode s_PA_on.2.1 26 = .ok (.istore_n 1, 1) := by decide +kernel
theorem d_PA_on_27 : decode s_PA_on.2.1 27 = .ok (.iload_n 1, 1) := by decide +kernel
theorem d_PA_on_28 : decode s_PA_on.2.1 28 = .ok (.ifCond .eq 39, 3) := by decide +kernel
theorem d_PA_on_31 : decode s_PA_on.2.1 31 = .ok (.aload_n 0, 1) := by decide +kernel
theorem d_PA_on_32 : decode s_PA_on.2.1 32 = .ok (.getfield 71, 3) := by decide +kernel
theorem d_PA_on_35 : decode s_PA_on.2.1 35 = .ok (.aload_n 0, 1) := by decide +kernel
theorem d_PA_on_36 : decode s_PA_on.2.1 36 = .ok (.getfield 12, 3) := by decide +kernel
theorem d_PA_on_39 : decode s_PA_on.2.1 39 = .ok (.aload_n 0, 1) := by decide +kernel
theorem d_PA_on_40 : decode s_PA_on.2.1 40 = .ok (.getfield 50, 3) := by decide +kernel
theorem d_PA_on_43 : decode s_PA_on.2.1 43 = .ok (.invokevirtual 358, 3) := by decide +kernel
theorem d_PA_on_46 : decode s_PA_on.2.1 46 = .ok (.aload_n 0, 1) := by decide +kernel
theorem d_PA_on_47 : decode s_PA_on.2.1 47 = .ok (.getfield 32, 3) := by decide +kernel
theorem d_PA_on_50 : decode s_PA_on.2.1 50 = .ok (.aload_n 0, 1) := by decide +kernel
theorem d_PA_on_51 : decode s_PA_on.2.1 51 = .ok (.getfield 50, 3) := by decide +kernel
theorem d_PA_on_54 : decode s_PA_on.2.1 54 = .ok (.invokevirtual 272, 3) := by decide +kernel
theorem d_PA_on_57 : decode s_PA_on.2.1 57 = .ok (.iconst (-1), 1) := by decide +kernel
theorem d_PA_on_58 : decode s_PA_on.2.1 58 = .ok (.if_icmp .eq 7, 3) := by decide +kernel
theorem d_PA_on_61 : decode s_PA_on.2.1 61 = .ok (.iconst 1, 1) := by decide +kernel
theorem d_PA_on_62 : decode s_PA_on.2.1 62 = .ok (.goto 4, 3) := by decide +kernel
theorem d_PA_on_65 : decode s_PA_on.2.1 65 = .ok (.iconst 0, 1) := by decide +kernel
theorem d_PA_on_66 : decode s_PA_on.2.1 66 = .ok (.istore_n 1, 1) := by decide +kernel
theorem d_PA_on_67 : decode s_PA_on.2.1 67 = .ok (.aload_n 0, 1) := by decide +kernel
theorem d_PA_on_68 : decode s_PA_on.2.1 68 = .ok (.getfield 12, 3) := by decide +kernel
theorem d_PA_on_71 : decode s_PA_on.2.1 71 = .ok (.iconst 0, 1) := by decide +kernel
theorem d_PA_on_72 : decode s_PA_on.2.1 72 = .ok (.invokevirtual 108, 3) := by decide +kernel
theorem d_PA_on_75 : decode s_PA_on.2.1 75 = .ok (.iload_n 1, 1) := by decide +kernel
theorem d_PA_on_76 : decode s_PA_on.2.1 76 = .ok (.ifCond .ne 11, 3) := by decide +kernel
theorem d_PA_on_79 : decode s_PA_on.2.1 79 = .ok (.aload_n 0, 1) := by decide +kernel
theorem d_PA_on_80 : decode s_PA_on.2.1 80 = .ok (.iconst 5, 1) := by decide +kernel
theorem d_PA_on_81 : decode s_PA_on.2.1 81 = .ok (.invokevirtual 100, 3) := by decide +kernel
theorem d_PA_on_84 : decode s_PA_on.2.1 84 = .ok (.pop, 1) := by decide +kernel
theorem d_PA_on_85 : decode s_PA_on.2.1 85 = .ok (.iconst 0, 1) := by decide +kernel
theorem d_PA_on_86 : decode s_PA_on.2.1 86 = .ok (.ireturn, 1) := by decide +kernel
theorem d_PA_on_87 : decode s_PA_on.2.1 87 = .ok (.aload_n 0, 1) := by decide +kernel
theorem d_PA_on_88 : decode s_PA_on.2.1 88 = .ok (.getfield 46, 3) := by decide +kernel
theorem d_PA_on_91 : decode s_PA_on.2.1 91 = .ok (.aload_n 0, 1) := by decide +kernel
theorem d_PA_on_92 : decode s_PA_on.2.1 92 = .ok (.getfield 50, 3) := by decide +kernel
theorem d_PA_on_95 : decode s_PA_on.2.1 95 = .ok (.invokevirtual 288, 3) := by decide +kernel
theorem d_PA_on_98 : decode s_PA_on.2.1 98 = .ok (.aload_n 0, 1) := by decide +kernel
theorem d_PA_on_99 : decode s_PA_on.2.1 99 = .ok (.iconst 0, 1) := by decide +kernel
theorem d_PA_on_100 : decode s_PA_on.2.1 100 = .ok (.putfield 88, 3) := by decide +kernel
theorem d_PA_on_103 : decode s_PA_on.2.1 103 = .ok (.iconst 1, 1) := by decide +kernel
theorem d_PA_on_104 : decode s_PA_on.2.1 104 = .ok (.ireturn, 1) := by decide +kernel
theorem d_PA_status_0 : decode s_PA_status.2.1 0 = .ok (.iload_n 1, 1) := by decide +kernel
theorem d_PA_status_1 : decode s_PA_status.2.1 1 = .ok (.ifCond .lt 21, 3) := by decide +kernel
theorem d_PA_status_4 : decode s_PA_status.2.1 4 = .ok (.iload_n 1, 1) := by decide +kernel
theorem d_PA_status_5 : decode s_PA_status.2.1 5 = .ok (.aload_n 0, 1) := by decide +kernel
theorem d_PA_status_6 : decode s_PA_status.2.1 6 = .ok (.getfield 57, 3) := by decide +kernel
theorem d_PA_status_9 : decode s_PA_status.2.1 9 = .ok (.arraylength, 1) := by decide +kernel
theorem d_PA_status_10 : decode s_PA_status.2.1 10 = .ok (.if_icmp .ge 12, 3) := by decide +kernel
theorem d_PA_status_13 : decode s_PA_status.2.1 13 = .ok (.aload_n 0, 1) := by decide +kernel
theorem d_PA_status_14 : decode s_PA_status.2.1 14 = .ok (.getfield 57, 3) := by decide +kernel
theorem d_PA_status_17 : decode s_PA_status.2.1 17 = .ok (.iload_n 1, 1) := by decide +kernel
theorem d_PA_status_18 : decode s_PA_status.2.1 18 = .ok (.iaload, 1) := by decide +kernel
theorem d_PA_status_19 : decode s_PA_status.2.1 19 = .ok (.goto 4, 3) := by decide +kernel
theorem d_PA_status_22 : decode s_PA_status.2.1 22 = .ok (.iconst (-1), 1) := by decide +kernel
theorem d_PA_status_23 : decode s_PA_status.2.1 23 = .ok (.ireturn, 1) := by decide +kernel
