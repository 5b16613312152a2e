theorem d_MO_refuses_0 : decode s_MO_refuses.2.1 0 = .ok (.aload_n 0, 1) := by decide +kernel
theorem d_MO_refuses_1 : decode s_MO_refuses.2.1 1 = .ok (.getfield 17, 3) := by decide +kernel
theorem d_MO_refuses_4 : decode s_MO_refuses.2.1 4 = .ok (.iload_n 1, 1) := by decide +kernel
theorem d_MO_refuses_5 : decode s_MO_refuses.2.1 5 = .ok (.dup2, 1) := by decide +kernel
theorem d_MO_refuses_6 : decode s_MO_refuses.2.1 6 = .ok (.iaload, 1) := by decide +kernel
theorem d_MO_refuses_7 : decode s_MO_refuses.2.1 7 = .ok (.iconst 1, 1) := by decide +kernel
theorem d_MO_refuses_8 : decode s_MO_refuses.2.1 8 = .ok (.iadd, 1) := by decide +kernel
theorem d_MO_refuses_9 : decode s_MO_refuses.2.1 9 = .ok (.iastore, 1) := by decide +kernel
theorem d_MO_refuses_10 : decode s_MO_refuses.2.1 10 = .ok (.iconst (-1), 1) := by decide +kernel
theorem d_MO_refuses_11 : decode s_MO_refuses.2.1 11 = .ok (.ireturn, 1) := by decide +kernel
theorem d_MO_feed_0 : decode s_MO_feed.2.1 0 = .ok (.aload_n 0, 1) := by decide +kernel
theorem d_MO_feed_1 : decode s_MO_feed.2.1 1 = .ok (.getfield 197, 3) := by decide +kernel
theorem d_MO_feed_4 : decode s_MO_feed.2.1 4 = .ok (.bipush 20, 2) := by decide +kernel
theorem d_MO_feed_6 : decode s_MO_feed.2.1 6 = .ok (.iadd, 1) := by decide +kernel
theorem d_MO_feed_7 : decode s_MO_feed.2.1 7 = .ok (.sipush 1600, 3) := by decide +kernel
theorem d_MO_feed_10 : decode s_MO_feed.2.1 10 = .ok (.if_icmp .le 9, 3) := by decide +kernel
theorem d_MO_feed_13 : decode s_MO_feed.2.1 13 = .ok (.aload_n 0, 1) := by decide +kernel
theorem d_MO_feed_14 : decode s_MO_feed.2.1 14 = .ok (.iconst 0, 1) := by decide +kernel
theorem d_MO_feed_15 : decode s_MO_feed.2.1 15 = .ok (.invokevirtual 200, 3) := by decide +kernel
theorem d_MO_feed_18 : decode s_MO_feed.2.1 18 = .ok (.ireturn, 1) := by decide +kernel
theorem d_MO_feed_19 : decode s_MO_feed.2.1 19 = .ok (.iconst 0, 1) := by decide +kernel
theorem d_MO_feed_20 : decode s_MO_feed.2.1 20 = .ok (.istore 6, 2) := by decide +kernel
theorem d_MO_feed_22 : decode s_MO_feed.2.1 22 = .ok (.iload 6, 2) := by decide +kernel
theorem d_MO_feed_24 : decode s_MO_feed.2.1 24 = .ok (.bipush 20, 2) := by decide +kernel
theorem d_MO_feed_26 : decode s_MO_feed.2.1 26 = .ok (.if_icmp .ge 92, 3) := by decide +kernel
theorem d_MO_feed_29 : decode s_MO_feed.2.1 29 = .ok (.iload 6, 2) := by decide +kernel
theorem d_MO_feed_31 : decode s_MO_feed.2.1 31 = .ok (.iconst 4, 1) := by decide +kernel
theorem d_MO_feed_32 : decode s_MO_feed.2.1 32 = .ok (.if_icmp .ge 7, 3) := by decide +kernel
theorem d_MO_feed_35 : decode s_MO_feed.2.1 35 = .ok (.iload_n 1, 1) := by decide +kernel
theorem d_MO_feed_36 : decode s_MO_feed.2.1 36 = .ok (.goto 39, 3) := by decide +kernel
theorem d_MO_feed_39 : decode s_MO_feed.2.1 39 = .ok (.iload 6, 2) := by decide +kernel
theorem d_MO_feed_41 : decode s_MO_feed.2.1 41 = .ok (.bipush 8, 2) := by decide +kernel
theorem d_MO_feed_43 : decode s_MO_feed.2.1 43 = .ok (.if_icmp .ge 7, 3) := by decide +kernel
theorem d_MO_feed_46 : decode s_MO_feed.2.1 46 = .ok (.iload_n 2, 1) := by decide +kernel
theorem d_MO_feed_47 : decode s_MO_feed.2.1 47 = .ok (.goto 28, 3) := by decide +kernel
theorem d_MO_feed_50 : decode s_MO_feed.2.1 50 = .ok (.iload 6, 2) := by decide +kernel
theorem d_MO_feed_52 : decode s_MO_feed.2.1 52 = .ok (.bipush 12, 2) := by decide +kernel
theorem d_MO_feed_54 : decode s_MO_feed.2.1 54 = .ok (.if_icmp .ge 7, 3) := by decide +kernel
theorem d_MO_feed_57 : decode s_MO_feed.2.1 57 = .ok (.iload_n 3, 1) := by decide +kernel
theorem d_MO_feed_58 : decode s_MO_feed.2.1 58 = .ok (.goto 17, 3) := by decide +kernel
theorem d_MO_feed_61 : decode s_MO_feed.2.1 61 = .ok (.iload 6, 2) := by decide +kernel
theorem d_MO_feed_63 : decode s_MO_feed.2.1 63 = .ok (.bipush 16, 2) := by decide +kernel
theorem d_MO_feed_65 : decode s_MO_feed.2.1 65 = .ok (.if_icmp .ge 8, 3) := by decide +kernel
theorem d_MO_feed_68 : decode s_MO_feed.2.1 68 = .ok (.iload 4, 2) := by decide +kernel
theorem d_MO_feed_70 : decode s_MO_feed.2.1 70 = .ok (.goto 5, 3) := by decide +kernel
theorem d_MO_feed_73 : decode s_MO_feed.2.1 73 = .ok (.iload 5, 2) := by decide +kernel
theorem d_MO_feed_75 : decode s_MO_feed.2.1 75 = .ok (.istore 7, 2) := by decide +kernel
theorem d_MO_feed_77 : decode s_MO_feed.2.1 77 = .ok (.aload_n 0, 1) := by decide +kernel
theorem d_MO_feed_78 : decode s_MO_feed.2.1 78 = .ok (.getfield 7, 3) := by decide +kernel
theorem d_MO_feed_81 : decode s_MO_feed.2.1 81 = .ok (.aload_n 0, 1) := by decide +kernel
theorem d_MO_feed_82 : decode s_MO_feed.2.1 82 = .ok (.getfield 197, 3) := by decide +kernel
theorem d_MO_feed_85 : decode s_MO_feed.2.1 85 = .ok (.iload 7, 2) := by decide +kernel
theorem d_MO_feed_87 : decode s_MO_feed.2.1 87 = .ok (.bipush 8, 2) := by decide +kernel
theorem d_MO_feed_89 : decode s_MO_feed.2.1 89 = .ok (.iconst 3, 1) := by decide +kernel
theorem d_MO_feed_90 : decode s_MO_feed.2.1 90 = .ok (.iload 6, 2) := by decide +kernel
theorem d_MO_feed_92 : decode s_MO_feed.2.1 92 = .ok (.iconst 4, 1) := by decide +kernel
theorem d_MO_feed_93 : decode s_MO_feed.2.1 93 = .ok (.irem, 1) := by decide +kernel
theorem d_MO_feed_94 : decode s_MO_feed.2.1 94 = .ok (.isub, 1) := by decide +kernel
theorem d_MO_feed_95 : decode s_MO_feed.2.1 95 = .ok (.imul, 1) := by decide +kernel
theorem d_MO_feed_96 : decode s_MO_feed.2.1 96 = .ok (.ishr, 1) := by decide +kernel
theorem d_MO_feed_97 : decode s_MO_feed.2.1 97 = .ok (.sipush 255, 3) := by decide +kernel
theorem d_MO_feed_100 : decode s_MO_feed.2.1 100 = .ok (.iand, 1) := by decide +kernel
theorem d_MO_feed_101 : decode s_MO_feed.2.1 101 = .ok (.iastore, 1) := by decide +kernel
theorem d_MO_feed_102 : decode s_MO_feed.2.1 102 = .ok (.aload_n 0, 1) := by decide +kernel
theorem d_MO_feed_103 : decode s_MO_feed.2.1 103 = .ok (.dup, 1) := by decide +kernel
theorem d_MO_feed_104 : decode s_MO_feed.2.1 104 = .ok (.getfield 197, 3) := by decide +kernel
theorem d_MO_feed_107 : decode s_MO_feed.2.1 107 = .ok (.iconst 1, 1) := by decide +kernel
theorem d_MO_feed_108 : decode s_MO_feed.2.1 108 = .ok (.iadd, 1) := by decide +kernel
theorem d_MO_feed_109 : decode s_MO_feed.2.1 109 = .ok (.putfield 197, 3) := by decide +kernel
theorem d_MO_feed_112 : decode s_MO_feed.2.1 112 = .ok (.iinc 6 1, 3) := by decide +kernel
theorem d_MO_feed_115 : decode s_MO_feed.2.1 115 = .ok (.goto (-93), 3) := by decide +kernel
theorem d_MO_feed_118 : decode s_MO_feed.2.1 118 = .ok (.aload_n 0, 1) := by decide +kernel
theorem d_MO_feed_119 : decode s_MO_feed.2.1 119 = .ok (.getfield 197, 3) := by decide +kernel
theorem d_MO_feed_122 : decode s_MO_feed.2.1 122 = .ok (.ireturn, 1) := by decide +kernel
theorem d_MO_isRefused_0 : decode s_MO_isRefused.2.1 0 = .ok (.aload_n 0, 1) := by decide +kernel
theorem d_MO_isRefused_1 : decode s_MO_isRefused.2.1 1 = .ok (.getfield 17, 3) := by decide +kernel
theorem d_MO_isRefused_4 : decode s_MO_isRefused.2.1 4 = .ok (.iload_n 1, 1) := by decide +kernel
theorem d_MO_isRefused_5 : decode s_MO_isRefused.2.1 5 = .ok (.dup2, 1) := by decide +kernel
theorem d_MO_isRefused_6 : decode s_MO_isRefused.2.1 6 = .ok (.iaload, 1) := by decide +kernel
theorem d_MO_isRefused_7 : decode s_MO_isRefused.2.1 7 = .ok (.iconst 1, 1) := by decide +kernel
theorem d_MO_isRefused_8 : decode s_MO_isRefused.2.1 8 = .ok (.iadd, 1) := by decide +kernel
theorem d_MO_isRefused_9 : decode s_MO_isRefused.2.1 9 = .ok (.iastore, 1) := by decide +kernel
theorem d_MO_isRefused_10 : decode s_MO_isRefused.2.1 10 = .ok (.iconst 0, 1) := by decide +kernel
theorem d_MO_isRefused_11 : decode s_MO_isRefused.2.1 11 = .ok (.ireturn, 1) := by decide +kernel
theorem d_MO_end_0 : decode s_MO_end.2.1 0 = .ok (.iload_n 1, 1) := by decide +kernel
theorem d_MO_end_1 : decode s_MO_end.2.1 1 = .ok (.ifCond .lt 11, 3) := by decide +kernel
theorem d_MO_end_4 : decode s_MO_end.2.1 4 = .ok (.iload_n 1, 1) := by decide +kernel
theorem d_MO_end_5 : decode s_MO_end.2.1 5 = .ok (.aload_n 0, 1) := by decide +kernel
theorem d_MO_end_6 : decode s_MO_end.2.1 6 = .ok (.getfield 197, 3) := by decide +kernel
theorem d_MO_end_9 : decode s_MO_end.2.1 9 = .ok (.if_icmp .le 9, 3) := by decide +kernel
theorem d_MO_end_12 : decode s_MO_end.2.1 12 = .ok (.aload_n 0, 1) := by decide +kernel
theorem d_MO_end_13 : decode s_MO_end.2.1 13 = .ok (.iconst 0, 1) := by decide +kernel
theorem d_MO_end_14 : decode s_MO_end.2.1 14 = .ok (.invokevirtual 204, 3) := by decide +kernel
theorem d_MO_end_17 : decode s_MO_end.2.1 17 = .ok (.ireturn, 1) := by decide +kernel
theorem d_MO_end_18 : decode s_MO_end.2.1 18 = .ok (.aload_n 0, 1) := by decide +kernel
theorem d_MO_end_19 : decode s_MO_end.2.1 19 = .ok (.iload_n 1, 1) := by decide +kernel
theorem d_MO_end_20 : decode s_MO_end.2.1 20 = .ok (.putfield 197, 3) := by decide +kernel
theorem d_MO_end_23 : decode s_MO_end.2.1 23 = .ok (.iconst 1, 1) := by decide +kernel
theorem d_MO_end_24 : decode s_MO_end.2.1 24 = .ok (.ireturn, 1) := by decide +kernel
theorem d_MO_isIn_0 : decode s_MO_isIn.2.1 0 = .ok (.lload_n 0, 1) := by decide +kernel
theorem d_MO_isIn_1 : decode s_MO_isIn.2.1 1 = .ok (.lload_n 2, 1) := by decide +kernel
theorem d_MO_isIn_2 : decode s_MO_isIn.2.1 2 = .ok (.lcmp, 1) := by decide +kernel
theorem d_MO_isIn_3 : decode s_MO_isIn.2.1 3 = .ok (.ifCond .lt 14, 3) := by decide +kernel
theorem d_MO_isIn_6 : decode s_MO_isIn.2.1 6 = .ok (.lload_n 0, 1) := by decide +kernel
theorem d_MO_isIn_7 : decode s_MO_isIn.2.1 7 = .ok (.lload 4, 2) := by decide +kernel
theorem d_MO_isIn_9 : decode s_MO_isIn.2.1 9 = .ok (.lcmp, 1) := by decide +kernel
theorem d_MO_isIn_10 : decode s_MO_isIn.2.1 10 = .ok (.ifCond .gt 7, 3) := by decide +kernel
theorem d_MO_isIn_13 : decode s_MO_isIn.2.1 13 = .ok (.iconst 1, 1) := by decide +kernel
theorem d_MO_isIn_14 : decode s_MO_isIn.2.1 14 = .ok (.goto 4, 3) := by decide +kernel
theorem d_MO_isIn_17 : decode s_MO_isIn.2.1 17 = .ok (.iconst 0, 1) := by decide +kernel
theorem d_MO_isIn_18 : decode s_MO_isIn.2.1 18 = .ok (.ireturn, 1) := by decide +kernel
theorem d_MO_status_0 : decode s_MO_status.2.1 0 = .ok (.iload_n 1, 1) := by decide +kernel
theorem d_MO_status_1 : decode s_MO_status.2.1 1 = .ok (.i2l, 1) := by decide +kernel
theorem d_MO_status_2 : decode s_MO_status.2.1 2 = .ok (.lconst 0, 1) := by decide +kernel
theorem d_MO_status_3 : decode s_MO_status.2.1 3 = .ok (.ldc2_w 208, 3) := by decide +kernel
theorem d_MO_status_6 : decode s_MO_status.2.1 6 = .ok (.invokestatic 210, 3) := by decide +kernel
theorem d_MO_status_9 : decode s_MO_status.2.1 9 = .ok (.ifCond .eq 12, 3) := by decide +kernel
theorem d_MO_status_12 : decode s_MO_status.2.1 12 = .ok (.aload_n 0, 1) := by decide +kernel
theorem d_MO_status_13 : decode s_MO_status.2.1 13 = .ok (.getfield 17, 3) := by decide +kernel
theorem d_MO_status_16 : decode s_MO_status.2.1 16 = .ok (.iload_n 1, 1) := by decide +kernel
theorem d_MO_status_17 : decode s_MO_status.2.1 17 = .ok (.iaload, 1) := by decide +kernel
theorem d_MO_status_18 : decode s_MO_status.2.1 18 = .ok (.goto 4, 3) := by decide +kernel
theorem d_MO_status_21 : decode s_MO_status.2.1 21 = .ok (.iconst (-1), 1) := by decide +kernel
theorem d_MO_status_22 : decode s_MO_status.2.1 22 = .ok (.ireturn, 1) := by decide +kernel
theorem d_MO_fault_0 : decode s_MO_fault.2.1 0 = .ok (.iload_n 1, 1) := by decide +kernel
theorem d_MO_fault_1 : decode s_MO_fault.2.1 1 = .ok (.ifCond .ne 10, 3) := by decide +kernel
theorem d_MO_fault_4 : decode s_MO_fault.2.1 4 = .ok (.aload_n 0, 1) := by decide +kernel
theorem d_MO_fault_5 : decode s_MO_fault.2.1 5 = .ok (.getfield 214, 3) := by decide +kernel
theorem d_MO_fault_8 : decode s_MO_fault.2.1 8 = .ok (.goto 16, 3) := by decide +kernel
theorem d_MO_fault_11 : decode s_MO_fault.2.1 11 = .ok (.iload_n 1, 1) := by decide +kernel
theorem d_MO_fault_12 : decode s_MO_fault.2.1 12 = .ok (.iconst 1, 1) := by decide +kernel
theorem d_MO_fault_13 : decode s_MO_fault.2.1 13 = .ok (.if_icmp .ne 10, 3) := by decide +kernel
theorem d_MO_fault_16 : decode s_MO_fault.2.1 16 = .ok (.aload_n 0, 1) := by decide +kernel
theorem d_MO_fault_17 : decode s_MO_fault.2.1 17 = .ok (.getfield 13, 3) := by decide +kernel
theorem d_MO_fault_20 : decode s_MO_fault.2.1 20 = .ok (.goto 4, 3) := by decide +kernel
theorem d_MO_fault_23 : decode s_MO_fault.2.1 23 = .ok (.iconst (-1), 1) := by decide +kernel
theorem d_MO_fault_24 : decode s_MO_fault.2.1 24 = .ok (.ireturn, 1) := by decide +kernel
theorem d_MO_look_0 : decode s_MO_look.2.1 0 = .ok (.aload_n 0, 1) := by decide +kernel
theorem d_MO_look_1 : decode s_MO_look.2.1 1 = .ok (.getfield 223, 3) := by decide +kernel
theorem d_MO_look_4 : decode s_MO_look.2.1 4 = .ok (.aload_n 0, 1) := by decide +kernel
theorem d_MO_look_5 : decode s_MO_look.2.1 5 = .ok (.getfield 226, 3) := by decide +kernel
theorem d_MO_look_8 : decode s_MO_look.2.1 8 = .ok (.if_icmp .ge 44, 3) := by decide +kernel
theorem d_MO_look_11 : decode s_MO_look.2.1 11 = .ok (.aload_n 0, 1) := by decide +kernel
theorem d_MO_look_12 : decode s_MO_look.2.1 12 = .ok (.getfield 7, 3) := by decide +kernel
theorem d_MO_look_15 : decode s_MO_look.2.1 15 = .ok (.aload_n 0, 1) := by decide +kernel
theorem d_MO_look_16 : decode s_MO_look.2.1 16 = .ok (.getfield 223, 3) := by decide +kernel
theorem d_MO_look_19 : decode s_MO_look.2.1 19 = .ok (.iaload, 1) := by decide +kernel
theorem d_MO_look_20 : decode s_MO_look.2.1 20 = .ok (.bipush 10, 2) := by decide +kernel
theorem d_MO_look_22 : decode s_MO_look.2.1 22 = .ok (.if_icmp .eq 17, 3) := by decide +kernel
theorem d_MO_look_25 : decode s_MO_look.2.1 25 = .ok (.aload_n 0, 1) := by decide +kernel
theorem d_MO_look_26 : decode s_MO_look.2.1 26 = .ok (.getfield 7, 3) := by decide +kernel
theorem d_MO_look_29 : decode s_MO_look.2.1 29 = .ok (.aload_n 0, 1) := by decide +kernel
theorem d_MO_look_30 : decode s_MO_look.2.1 30 = .ok (.getfield 223, 3) := by decide +kernel
theorem d_MO_look_33 : decode s_MO_look.2.1 33 = .ok (.iaload, 1) := by decide +kernel
theorem d_MO_look_34 : decode s_MO_look.2.1 34 = .ok (.bipush 32, 2) := by decide +kernel
theorem d_MO_look_36 : decode s_MO_look.2.1 36 = .ok (.if_icmp .ne 16, 3) := by decide +kernel
theorem d_MO_look_39 : decode s_MO_look.2.1 39 = .ok (.aload_n 0, 1) := by decide +kernel
theorem d_MO_look_40 : decode s_MO_look.2.1 40 = .ok (.dup, 1) := by decide +kernel
theorem d_MO_look_41 : decode s_MO_look.2.1 41 = .ok (.getfield 223, 3) := by decide +kernel
theorem d_MO_look_44 : decode s_MO_look.2.1 44 = .ok (.iconst 1, 1) := by decide +kernel
theorem d_MO_look_45 : decode s_MO_look.2.1 45 = .ok (.iadd, 1) := by decide +kernel
theorem d_MO_look_46 : decode s_MO_look.2.1 46 = .ok (.putfield 223, 3) := by decide +kernel
theorem d_MO_look_49 : decode s_MO_look.2.1 49 = .ok (.goto (-49), 3) := by decide +kernel
theorem d_MO_look_52 : decode s_MO_look.2.1 52 = .ok (.aload_n 0, 1) := by decide +kernel
theorem d_MO_look_53 : decode s_MO_look.2.1 53 = .ok (.getfield 223, 3) := by decide +kernel
theorem d_MO_look_56 : decode s_MO_look.2.1 56 = .ok (.aload_n 0, 1) := by decide +kernel
theorem d_MO_look_57 : decode s_MO_look.2.1 57 = .ok (.getfield 226, 3) := by decide +kernel
theorem d_MO_look_60 : decode s_MO_look.2.1 60 = .ok (.if_icmp .ge 15, 3) := by decide +kernel
theorem d_MO_look_63 : decode s_MO_look.2.1 63 = .ok (.aload_n 0, 1) := by decide +kernel
theorem d_MO_look_64 : decode s_MO_look.2.1 64 = .ok (.getfield 7, 3) := by decide +kernel
theorem d_MO_look_67 : decode s_MO_look.2.1 67 = .ok (.aload_n 0, 1) := by decide +kernel
theorem d_MO_look_68 : decode s_MO_look.2.1 68 = .ok (.getfield 223, 3) := by decide +kernel
theorem d_MO_look_71 : decode s_MO_look.2.1 71 = .ok (.iaload, 1) := by decide +kernel
theorem d_MO_look_72 : decode s_MO_look.2.1 72 = .ok (.goto 4, 3) := by decide +kernel
theorem d_MO_look_75 : decode s_MO_look.2.1 75 = .ok (.iconst (-1), 1) := by decide +kernel
theorem d_MO_look_76 : decode s_MO_look.2.1 76 = .ok (.ireturn, 1) := by decide +kernel
theorem d_MO_isLetter_0 : decode s_MO_isLetter.2.1 0 = .ok (.iload_n 0, 1) := by decide +kernel
theorem d_MO_isLetter_1 : decode s_MO_isLetter.2.1 1 = .ok (.bipush 97, 2) := by decide +kernel
theorem d_MO_isLetter_3 : decode s_MO_isLetter.2.1 3 = .ok (.if_icmp .lt 13, 3) := by decide +kernel
theorem d_MO_isLetter_6 : decode s_MO_isLetter.2.1 6 = .ok (.iload_n 0, 1) := by decide +kernel
theorem d_MO_isLetter_7 : decode s_MO_isLetter.2.1 7 = .ok (.bipush 122, 2) := by decide +kernel
theorem d_MO_isLetter_9 : decode s_MO_isLetter.2.1 9 = .ok (.if_icmp .gt 7, 3) := by decide +kernel
theorem d_MO_isLetter_12 : decode s_MO_isLetter.2.1 12 = .ok (.iconst 1, 1) := by decide +kernel
theorem d_MO_isLetter_13 : decode s_MO_isLetter.2.1 13 = .ok (.goto 4, 3) := by decide +kernel
theorem d_MO_isLetter_16 : decode s_MO_isLetter.2.1 16 = .ok (.iconst 0, 1) := by decide +kernel
theorem d_MO_isLetter_17 : decode s_MO_isLetter.2.1 17 = .ok (.ireturn, 1) := by decide +kernel
theorem d_MO_isHere_0 : decode s_MO_isHere.2.1 0 = .ok (.aload_n 0, 1) := by decide +kernel
theorem d_MO_isHere_1 : decode s_MO_isHere.2.1 1 = .ok (.getfield 217, 3) := by decide +kernel
theorem d_MO_isHere_4 : decode s_MO_isHere.2.1 4 = .ok (.ifCond .ne 24, 3) := by decide +kernel
theorem d_MO_isHere_7 : decode s_MO_isHere.2.1 7 = .ok (.aload_n 0, 1) := by decide +kernel
theorem d_MO_isHere_8 : decode s_MO_isHere.2.1 8 = .ok (.invokevirtual 229, 3) := by decide +kernel
theorem d_MO_isHere_11 : decode s_MO_isHere.2.1 11 = .ok (.invokestatic 233, 3) := by decide +kernel
theorem d_MO_isHere_14 : decode s_MO_isHere.2.1 14 = .ok (.ifCond .eq 14, 3) := by decide +kernel
theorem d_MO_isHere_17 : decode s_MO_isHere.2.1 17 = .ok (.aload_n 0, 1) := by decide +kernel
theorem d_MO_isHere_18 : decode s_MO_isHere.2.1 18 = .ok (.getfield 223, 3) := by decide +kernel
theorem d_MO_isHere_21 : decode s_MO_isHere.2.1 21 = .ok (.aload_n 0, 1) := by decide +kernel
theorem d_MO_isHere_22 : decode s_MO_isHere.2.1 22 = .ok (.getfield 236, 3) := by decide +kernel
theorem d_MO_isHere_25 : decode s_MO_isHere.2.1 25 = .ok (.if_icmp .ne 5, 3) := by decide +kernel
theorem d_MO_isHere_28 : decode s_MO_isHere.2.1 28 = .ok (.iconst 0, 1) := by decide +kernel
theorem d_MO_isHere_29 : decode s_MO_isHere.2.1 29 = .ok (.ireturn, 1) := by decide +kernel
theorem d_MO_isHere_30 : decode s_MO_isHere.2.1 30 = .ok (.aload_n 0, 1) := by decide +kernel
theorem d_MO_isHere_31 : decode s_MO_isHere.2.1 31 = .ok (.getfield 223, 3) := by decide +kernel
theorem d_MO_isHere_34 : decode s_MO_isHere.2.1 34 = .ok (.istore_n 2, 1) := by decide +kernel
theorem d_MO_isHere_35 : decode s_MO_isHere.2.1 35 = .ok (.iload_n 2, 1) := by decide +kernel
theorem d_MO_isHere_36 : decode s_MO_isHere.2.1 36 = .ok (.aload_n 0, 1) := by decide +kernel
theorem d_MO_isHere_37 : decode s_MO_isHere.2.1 37 = .ok (.getfield 226, 3) := by decide +kernel
theorem d_MO_isHere_40 : decode s_MO_isHere.2.1 40 = .ok (.if_icmp .ge 21, 3) := by decide +kernel
theorem d_MO_isHere_43 : decode s_MO_isHere.2.1 43 = .ok (.aload_n 0, 1) := by decide +kernel
theorem d_MO_isHere_44 : decode s_MO_isHere.2.1 44 = .ok (.getfield 7, 3) := by decide +kernel
theorem d_MO_isHere_47 : decode s_MO_isHere.2.1 47 = .ok (.iload_n 2, 1) := by decide +kernel
theorem d_MO_isHere_48 : decode s_MO_isHere.2.1 48 = .ok (.iaload, 1) := by decide +kernel
theorem d_MO_isHere_49 : decode s_MO_isHere.2.1 49 = .ok (.invokestatic 233, 3) := by decide +kernel
theorem d_MO_isHere_52 : decode s_MO_isHere.2.1 52 = .ok (.ifCond .eq 9, 3) := by decide +kernel
theorem d_MO_isHere_55 : decode s_MO_isHere.2.1 55 = .ok (.iinc 2 1, 3) := by decide +kernel
theorem d_MO_isHere_58 : decode s_MO_isHere.2.1 58 = .ok (.goto (-23), 3) := by decide +kernel
theorem d_MO_isHere_61 : decode s_MO_isHere.2.1 61 = .ok (.iload_n 2, 1) := by decide +kernel
theorem d_MO_isHere_62 : decode s_MO_isHere.2.1 62 = .ok (.aload_n 0, 1) := by decide +kernel
theorem d_MO_isHere_63 : decode s_MO_isHere.2.1 63 = .ok (.getfield 223, 3) := by decide +kernel
theorem d_MO_isHere_66 : decode s_MO_isHere.2.1 66 = .ok (.isub, 1) := by decide +kernel
theorem d_MO_isHere_67 : decode s_MO_isHere.2.1 67 = .ok (.aload_n 1, 1) := by decide +kernel
theorem d_MO_isHere_68 : decode s_MO_isHere.2.1 68 = .ok (.arraylength, 1) := by decide +kernel
theorem d_MO_isHere_69 : decode s_MO_isHere.2.1 69 = .ok (.if_icmp .eq 5, 3) := by decide +kernel
theorem d_MO_isHere_72 : decode s_MO_isHere.2.1 72 = .ok (.iconst 0, 1) := by decide +kernel
theorem d_MO_isHere_73 : decode s_MO_isHere.2.1 73 = .ok (.ireturn, 1) := by decide +kernel
theorem d_MO_isHere_74 : decode s_MO_isHere.2.1 74 = .ok (.iconst 0, 1) := by decide +kernel
theorem d_MO_isHere_75 : decode s_MO_isHere.2.1 75 = .ok (.istore_n 3, 1) := by decide +kernel
theorem d_MO_isHere_76 : decode s_MO_isHere.2.1 76 = .ok (.iload_n 3, 1) := by decide +kernel
theorem d_MO_isHere_77 : decode s_MO_isHere.2.1 77 = .ok (.aload_n 1, 1) := by decide +kernel
theorem d_MO_isHere_78 : decode s_MO_isHere.2.1 78 = .ok (.arraylength, 1) := by decide +kernel
theorem d_MO_isHere_79 : decode s_MO_isHere.2.1 79 = .ok (.if_icmp .ge 28, 3) := by decide +kernel
theorem d_MO_isHere_82 : decode s_MO_isHere.2.1 82 = .ok (.aload_n 0, 1) := by decide +kernel
theorem d_MO_isHere_83 : decode s_MO_isHere.2.1 83 = .ok (.getfield 7, 3) := by decide +kernel
theorem d_MO_isHere_86 : decode s_MO_isHere.2.1 86 = .ok (.aload_n 0, 1) := by decide +kernel
theorem d_MO_isHere_87 : decode s_MO_isHere.2.1 87 = .ok (.getfield 223, 3) := by decide +kernel
theorem d_MO_isHere_90 : decode s_MO_isHere.2.1 90 = .ok (.iload_n 3, 1) := by decide +kernel
theorem d_MO_isHere_91 : decode s_MO_isHere.2.1 91 = .ok (.iadd, 1) := by decide +kernel
theorem d_MO_isHere_92 : decode s_MO_isHere.2.1 92 = .ok (.iaload, 1) := by decide +kernel
theorem d_MO_isHere_93 : decode s_MO_isHere.2.1 93 = .ok (.aload_n 1, 1) := by decide +kernel
theorem d_MO_isHere_94 : decode s_MO_isHere.2.1 94 = .ok (.iload_n 3, 1) := by decide +kernel
theorem d_MO_isHere_95 : decode s_MO_isHere.2.1 95 = .ok (.caload, 1) := by decide +kernel
theorem d_MO_isHere_96 : decode s_MO_isHere.2.1 96 = .ok (.if_icmp .eq 5, 3) := by decide +kernel
theorem d_MO_isHere_99 : decode s_MO_isHere.2.1 99 = .ok (.iconst 0, 1) := by decide +kernel
theorem d_MO_isHere_100 : decode s_MO_isHere.2.1 100 = .ok (.ireturn, 1) := by decide +kernel
theorem d_MO_isHere_101 : decode s_MO_isHere.2.1 101 = .ok (.iinc 3 1, 3) := by decide +kernel
theorem d_MO_isHere_104 : decode s_MO_isHere.2.1 104 = .ok (.goto (-28), 3) := by decide +kernel
theorem d_MO_isHere_107 : decode s_MO_isHere.2.1 107 = .ok (.iconst 1, 1) := by decide +kernel
theorem d_MO_isHere_108 : decode s_MO_isHere.2.1 108 = .ok (.ireturn, 1) := by decide +kernel
theorem d_MO_takes_0 : decode s_MO_takes.2.1 0 = .ok (.aload_n 0, 1) := by decide +kernel
theorem d_MO_takes_1 : decode s_MO_takes.2.1 1 = .ok (.aload_n 1, 1) := by decide +kernel
theorem d_MO_takes_2 : decode s_MO_takes.2.1 2 = .ok (.invokevirtual 239, 3) := by decide +kernel
theorem d_MO_takes_5 : decode s_MO_takes.2.1 5 = .ok (.ifCond .ne 5, 3) := by decide +kernel
theorem d_MO_takes_8 : decode s_MO_takes.2.1 8 = .ok (.iconst 0, 1) := by decide +kernel
theorem d_MO_takes_9 : decode s_MO_takes.2.1 9 = .ok (.ireturn, 1) := by decide +kernel
theorem d_MO_takes_10 : decode s_MO_takes.2.1 10 = .ok (.aload_n 0, 1) := by decide +kernel
theorem d_MO_takes_11 : decode s_MO_takes.2.1 11 = .ok (.dup, 1) := by decide +kernel
theorem d_MO_takes_12 : decode s_MO_takes.2.1 12 = .ok (.getfield 223, 3) := by decide +kernel
theorem d_MO_takes_15 : decode s_MO_takes.2.1 15 = .ok (.aload_n 1, 1) := by decide +kernel
theorem d_MO_takes_16 : decode s_MO_takes.2.1 16 = .ok (.arraylength, 1) := by decide +kernel
theorem d_MO_takes_17 : decode s_MO_takes.2.1 17 = .ok (.iadd, 1) := by decide +kernel
theorem d_MO_takes_18 : decode s_MO_takes.2.1 18 = .ok (.putfield 223, 3) := by decide +kernel
theorem d_MO_takes_21 : decode s_MO_takes.2.1 21 = .ok (.aload_n 0, 1) := by decide +kernel
theorem d_MO_takes_22 : decode s_MO_takes.2.1 22 = .ok (.aload_n 0, 1) := by decide +kernel
theorem d_MO_takes_23 : decode s_MO_takes.2.1 23 = .ok (.getfield 223, 3) := by decide +kernel
theorem d_MO_takes_26 : decode s_MO_takes.2.1 26 = .ok (.putfield 236, 3) := by decide +kernel
theorem d_MO_takes_29 : decode s_MO_takes.2.1 29 = .ok (.iconst 1, 1) := by decide +kernel
theorem d_MO_takes_30 : decode s_MO_takes.2.1 30 = .ok (.ireturn, 1) := by decide +kernel
theorem d_MO_fail_0 : decode s_MO_fail.2.1 0 = .ok (.aload_n 0, 1) := by decide +kernel
theorem d_MO_fail_1 : decode s_MO_fail.2.1 1 = .ok (.getfield 217, 3) := by decide +kernel
theorem d_MO_fail_4 : decode s_MO_fail.2.1 4 = .ok (.ifCond .eq 4, 3) := by decide +kernel
theorem d_MO_fail_7 : decode s_MO_fail.2.1 7 = .ok (.return_, 1) := by decide +kernel
theorem d_MO_fail_8 : decode s_MO_fail.2.1 8 = .ok (.aload_n 0, 1) := by decide +kernel
theorem d_MO_fail_9 : decode s_MO_fail.2.1 9 = .ok (.iload_n 1, 1) := by decide +kernel
theorem d_MO_fail_10 : decode s_MO_fail.2.1 10 = .ok (.putfield 217, 3) := by decide +kernel
theorem d_MO_fail_13 : decode s_MO_fail.2.1 13 = .ok (.aload_n 0, 1) := by decide +kernel
theorem d_MO_fail_14 : decode s_MO_fail.2.1 14 = .ok (.iload_n 2, 1) := by decide +kernel
theorem d_MO_fail_15 : decode s_MO_fail.2.1 15 = .ok (.putfield 220, 3) := by decide +kernel
theorem d_MO_fail_18 : decode s_MO_fail.2.1 18 = .ok (.return_, 1) := by decide +kernel
theorem d_MO_asks_0 : decode s_MO_asks.2.1 0 = .ok (.aload_n 0, 1) := by decide +kernel
theorem d_MO_asks_1 : decode s_MO_asks.2.1 1 = .ok (.getfield 217, 3) := by decide +kernel
theorem d_MO_asks_4 : decode s_MO_asks.2.1 4 = .ok (.ifCond .ne 20, 3) := by decide +kernel
theorem d_MO_asks_7 : decode s_MO_asks.2.1 7 = .ok (.aload_n 0, 1) := by decide +kernel
theorem d_MO_asks_8 : decode s_MO_asks.2.1 8 = .ok (.aload_n 1, 1) := by decide +kernel
theorem d_MO_asks_9 : decode s_MO_asks.2.1 9 = .ok (.invokevirtual 243, 3) := by decide +kernel
theorem d_MO_asks_12 : decode s_MO_asks.2.1 12 = .ok (.ifCond .ne 12, 3) := by decide +kernel
theorem d_MO_asks_15 : decode s_MO_asks.2.1 15 = .ok (.aload_n 0, 1) := by decide +kernel
theorem d_MO_asks_16 : decode s_MO_asks.2.1 16 = .ok (.iconst 1, 1) := by decide +kernel
theorem d_MO_asks_17 : decode s_MO_asks.2.1 17 = .ok (.aload_n 0, 1) := by decide +kernel
theorem d_MO_asks_18 : decode s_MO_asks.2.1 18 = .ok (.getfield 223, 3) := by decide +kernel
theorem d_MO_asks_21 : decode s_MO_asks.2.1 21 = .ok (.invokevirtual 246, 3) := by decide +kernel
theorem d_MO_asks_24 : decode s_MO_asks.2.1 24 = .ok (.return_, 1) := by decide +kernel
theorem d_MO_isDigit_0 : decode s_MO_isDigit.2.1 0 = .ok (.iload_n 0, 1) := by decide +kernel
theorem d_MO_isDigit_1 : decode s_MO_isDigit.2.1 1 = .ok (.bipush 48, 2) := by decide +kernel
theorem d_MO_isDigit_3 : decode s_MO_isDigit.2.1 3 = .ok (.if_icmp .lt 13, 3) := by decide +kernel
theorem d_MO_isDigit_6 : decode s_MO_isDigit.2.1 6 = .ok (.iload_n 0, 1) := by decide +kernel
theorem d_MO_isDigit_7 : decode s_MO_isDigit.2.1 7 = .ok (.bipush 57, 2) := by decide +kernel
theorem d_MO_isDigit_9 : decode s_MO_isDigit.2.1 9 = .ok (.if_icmp .gt 7, 3) := by decide +kernel
theorem d_MO_isDigit_12 : decode s_MO_isDigit.2.1 12 = .ok (.iconst 1, 1) := by decide +kernel
theorem d_MO_isDigit_13 : decode s_MO_isDigit.2.1 13 = .ok (.goto 4, 3) := by decide +kernel
theorem d_MO_isDigit_16 : decode s_MO_isDigit.2.1 16 = .ok (.iconst 0, 1) := by decide +kernel
theorem d_MO_isDigit_17 : decode s_MO_isDigit.2.1 17 = .ok (.ireturn, 1) := by decide +kernel
theorem d_MO_number_0 : decode s_MO_number.2.1 0 = .ok (.aload_n 0, 1) := by decide +kernel
theorem d_MO_number_1 : decode s_MO_number.2.1 1 = .ok (.getfield 217, 3) := by decide +kernel
theorem d_MO_number_4 : decode s_MO_number.2.1 4 = .ok (.ifCond .eq 5, 3) := by decide +kernel
theorem d_MO_number_7 : decode s_MO_number.2.1 7 = .ok (.iload_n 1, 1) := by decide +kernel
theorem d_MO_number_8 : decode s_MO_number.2.1 8 = .ok (.ireturn, 1) := by decide +kernel
theorem d_MO_number_9 : decode s_MO_number.2.1 9 = .ok (.aload_n 0, 1) := by decide +kernel
theorem d_MO_number_10 : decode s_MO_number.2.1 10 = .ok (.invokevirtual 229, 3) := by decide +kernel
theorem d_MO_number_13 : decode s_MO_number.2.1 13 = .ok (.invokestatic 253, 3) := by decide +kernel
theorem d_MO_number_16 : decode s_MO_number.2.1 16 = .ok (.ifCond .eq 14, 3) := by decide +kernel
theorem d_MO_number_19 : decode s_MO_number.2.1 19 = .ok (.aload_n 0, 1) := by decide +kernel
theorem d_MO_number_20 : decode s_MO_number.2.1 20 = .ok (.getfield 223, 3) := by decide +kernel
theorem d_MO_number_23 : decode s_MO_number.2.1 23 = .ok (.aload_n 0, 1) := by decide +kernel
theorem d_MO_number_24 : decode s_MO_number.2.1 24 = .ok (.getfield 236, 3) := by decide +kernel
theorem d_MO_number_27 : decode s_MO_number.2.1 27 = .ok (.if_icmp .ne 14, 3) := by decide +kernel
theorem d_MO_number_30 : decode s_MO_number.2.1 30 = .ok (.aload_n 0, 1) := by decide +kernel
theorem d_MO_number_31 : decode s_MO_number.2.1 31 = .ok (.iconst 1, 1) := by decide +kernel
theorem d_MO_number_32 : decode s_MO_number.2.1 32 = .ok (.aload_n 0, 1) := by decide +kernel
theorem d_MO_number_33 : decode s_MO_number.2.1 33 = .ok (.getfield 223, 3) := by decide +kernel
theorem d_MO_number_36 : decode s_MO_number.2.1 36 = .ok (.invokevirtual 246, 3) := by decide +kernel
theorem d_MO_number_39 : decode s_MO_number.2.1 39 = .ok (.iload_n 1, 1) := by decide +kernel
theorem d_MO_number_40 : decode s_MO_number.2.1 40 = .ok (.ireturn, 1) := by decide +kernel
theorem d_MO_number_41 : decode s_MO_number.2.1 41 = .ok (.aload_n 0, 1) := by decide +kernel
theorem d_MO_number_42 : decode s_MO_number.2.1 42 = .ok (.getfield 223, 3) := by decide +kernel
theorem d_MO_number_45 : decode s_MO_number.2.1 45 = .ok (.istore_n 3, 1) := by decide +kernel
theorem d_MO_number_46 : decode s_MO_number.2.1 46 = .ok (.aload_n 0, 1) := by decide +kernel
theorem d_MO_number_47 : decode s_MO_number.2.1 47 = .ok (.getfield 7, 3) := by decide +kernel
theorem d_MO_number_50 : decode s_MO_number.2.1 50 = .ok (.aload_n 0, 1) := by decide +kernel
theorem d_MO_number_51 : decode s_MO_number.2.1 51 = .ok (.getfield 223, 3) := by decide +kernel
theorem d_MO_number_54 : decode s_MO_number.2.1 54 = .ok (.iaload, 1) := by decide +kernel
theorem d_MO_number_55 : decode s_MO_number.2.1 55 = .ok (.bipush 48, 2) := by decide +kernel
theorem d_MO_number_57 : decode s_MO_number.2.1 57 = .ok (.isub, 1) := by decide +kernel
theorem d_MO_number_58 : decode s_MO_number.2.1 58 = .ok (.istore 4, 2) := by decide +kernel
theorem d_MO_number_60 : decode s_MO_number.2.1 60 = .ok (.aload_n 0, 1) := by decide +kernel
theorem d_MO_number_61 : decode s_MO_number.2.1 61 = .ok (.dup, 1) := by decide +kernel
theorem d_MO_number_62 : decode s_MO_number.2.1 62 = .ok (.getfield 223, 3) := by decide +kernel
theorem d_MO_number_65 : decode s_MO_number.2.1 65 = .ok (.iconst 1, 1) := by decide +kernel
theorem d_MO_number_66 : decode s_MO_number.2.1 66 = .ok (.iadd, 1) := by decide +kernel
theorem d_MO_number_67 : decode s_MO_number.2.1 67 = .ok (.putfield 223, 3) := by decide +kernel
theorem d_MO_number_70 : decode s_MO_number.2.1 70 = .ok (.aload_n 0, 1) := by decide +kernel
theorem d_MO_number_71 : decode s_MO_number.2.1 71 = .ok (.aload_n 0, 1) := by decide +kernel
theorem d_MO_number_72 : decode s_MO_number.2.1 72 = .ok (.getfield 223, 3) := by decide +kernel
theorem d_MO_number_75 : decode s_MO_number.2.1 75 = .ok (.putfield 236, 3) := by decide +kernel
theorem d_MO_number_78 : decode s_MO_number.2.1 78 = .ok (.aload_n 0, 1) := by decide +kernel
theorem d_MO_number_79 : decode s_MO_number.2.1 79 = .ok (.getfield 223, 3) := by decide +kernel
theorem d_MO_number_82 : decode s_MO_number.2.1 82 = .ok (.aload_n 0, 1) := by decide +kernel
theorem d_MO_number_83 : decode s_MO_number.2.1 83 = .ok (.getfield 226, 3) := by decide +kernel
theorem d_MO_number_86 : decode s_MO_number.2.1 86 = .ok (.if_icmp .ge 30, 3) := by decide +kernel
theorem d_MO_number_89 : decode s_MO_number.2.1 89 = .ok (.aload_n 0, 1) := by decide +kernel
theorem d_MO_number_90 : decode s_MO_number.2.1 90 = .ok (.getfield 7, 3) := by decide +kernel
theorem d_MO_number_93 : decode s_MO_number.2.1 93 = .ok (.aload_n 0, 1) := by decide +kernel
theorem d_MO_number_94 : decode s_MO_number.2.1 94 = .ok (.getfield 223, 3) := by decide +kernel
theorem d_MO_number_97 : decode s_MO_number.2.1 97 = .ok (.iaload, 1) := by decide +kernel
theorem d_MO_number_98 : decode s_MO_number.2.1 98 = .ok (.invokestatic 253, 3) := by decide +kernel
theorem d_MO_number_101 : decode s_MO_number.2.1 101 = .ok (.ifCond .eq 15, 3) := by decide +kernel
theorem d_MO_number_104 : decode s_MO_number.2.1 104 = .ok (.aload_n 0, 1) := by decide +kernel
theorem d_MO_number_105 : decode s_MO_number.2.1 105 = .ok (.iconst 1, 1) := by decide +kernel
theorem d_MO_number_106 : decode s_MO_number.2.1 106 = .ok (.aload_n 0, 1) := by decide +kernel
theorem d_MO_number_107 : decode s_MO_number.2.1 107 = .ok (.getfield 223, 3) := by decide +kernel
theorem d_MO_number_110 : decode s_MO_number.2.1 110 = .ok (.invokevirtual 246, 3) := by decide +kernel
theorem d_MO_number_113 : decode s_MO_number.2.1 113 = .ok (.goto 22, 3) := by decide +kernel
theorem d_MO_number_116 : decode s_MO_number.2.1 116 = .ok (.iload 4, 2) := by decide +kernel
theorem d_MO_number_118 : decode s_MO_number.2.1 118 = .ok (.i2l, 1) := by decide +kernel
theorem d_MO_number_119 : decode s_MO_number.2.1 119 = .ok (.iload_n 1, 1) := by decide +kernel
theorem d_MO_number_120 : decode s_MO_number.2.1 120 = .ok (.i2l, 1) := by decide +kernel
theorem d_MO_number_121 : decode s_MO_number.2.1 121 = .ok (.iload_n 2, 1) := by decide +kernel
theorem d_MO_number_122 : decode s_MO_number.2.1 122 = .ok (.i2l, 1) := by decide +kernel
theorem d_MO_number_123 : decode s_MO_number.2.1 123 = .ok (.invokestatic 210, 3) := by decide +kernel
theorem d_MO_number_126 : decode s_MO_number.2.1 126 = .ok (.ifCond .ne 9, 3) := by decide +kernel
theorem d_MO_number_129 : decode s_MO_number.2.1 129 = .ok (.aload_n 0, 1) := by decide +kernel
theorem d_MO_number_130 : decode s_MO_number.2.1 130 = .ok (.iconst 2, 1) := by decide +kernel
theorem d_MO_number_131 : decode s_MO_number.2.1 131 = .ok (.iload_n 3, 1) := by decide +kernel
theorem d_MO_number_132 : decode s_MO_number.2.1 132 = .ok (.invokevirtual 246, 3) := by decide +kernel
theorem d_MO_number_135 : decode s_MO_number.2.1 135 = .ok (.iload 4, 2) := by decide +kernel
theorem d_MO_number_137 : decode s_MO_number.2.1 137 = .ok (.ireturn, 1) := by decide +kernel
theorem d_MO_isOwnHere_0 : decode s_MO_isOwnHere.2.1 0 = .ok (.aload_n 0, 1) := by decide +kernel
theorem d_MO_isOwnHere_1 : decode s_MO_isOwnHere.2.1 1 = .ok (.aload_n 0, 1) := by decide +kernel
theorem d_MO_isOwnHere_2 : decode s_MO_isOwnHere.2.1 2 = .ok (.getfield 20, 3) := by decide +kernel
theorem d_MO_isOwnHere_5 : decode s_MO_isOwnHere.2.1 5 = .ok (.invokevirtual 239, 3) := by decide +kernel
theorem d_MO_isOwnHere_8 : decode s_MO_isOwnHere.2.1 8 = .ok (.ifCond .ne 47, 3) := by decide +kernel
theorem d_MO_isOwnHere_11 : decode s_MO_isOwnHere.2.1 11 = .ok (.aload_n 0, 1) := by decide +kernel
theorem d_MO_isOwnHere_12 : decode s_MO_isOwnHere.2.1 12 = .ok (.aload_n 0, 1) := by decide +kernel
theorem d_MO_isOwnHere_13 : decode s_MO_isOwnHere.2.1 13 = .ok (.getfield 24, 3) := by decide +kernel
theorem d_MO_isOwnHere_16 : decode s_MO_isOwnHere.2.1 16 = .ok (.invokevirtual 239, 3) := by decide +kernel
theorem d_MO_isOwnHere_19 : decode s_MO_isOwnHere.2.1 19 = .ok (.ifCond .ne 36, 3) := by decide +kernel
theorem d_MO_isOwnHere_22 : decode s_MO_isOwnHere.2.1 22 = .ok (.aload_n 0, 1) := by decide +kernel
theorem d_MO_isOwnHere_23 : decode s_MO_isOwnHere.2.1 23 = .ok (.aload_n 0, 1) := by decide +kernel
theorem d_MO_isOwnHere_24 : decode s_MO_isOwnHere.2.1 24 = .ok (.getfield 27, 3) := by decide +kernel
theorem d_MO_isOwnHere_27 : decode s_MO_isOwnHere.2.1 27 = .ok (.invokevirtual 239, 3) := by decide +kernel
theorem d_MO_isOwnHere_30 : decode s_MO_isOwnHere.2.1 30 = .ok (.ifCond .ne 25, 3) := by decide +kernel
theorem d_MO_isOwnHere_33 : decode s_MO_isOwnHere.2.1 33 = .ok (.aload_n 0, 1) := by decide +kernel
theorem d_MO_isOwnHere_34 : decode s_MO_isOwnHere.2.1 34 = .ok (.aload_n 0, 1) := by decide +kernel
theorem d_MO_isOwnHere_35 : decode s_MO_isOwnHere.2.1 35 = .ok (.getfield 30, 3) := by decide +kernel
theorem d_MO_isOwnHere_38 : decode s_MO_isOwnHere.2.1 38 = .ok (.invokevirtual 239, 3) := by decide +kernel
theorem d_MO_isOwnHere_41 : decode s_MO_isOwnHere.2.1 41 = .ok (.ifCond .ne 14, 3) := by decide +kernel
theorem d_MO_isOwnHere_44 : decode s_MO_isOwnHere.2.1 44 = .ok (.aload_n 0, 1) := by decide +kernel
theorem d_MO_isOwnHere_45 : decode s_MO_isOwnHere.2.1 45 = .ok (.aload_n 0, 1) := by decide +kernel
theorem d_MO_isOwnHere_46 : decode s_MO_isOwnHere.2.1 46 = .ok (.getfield 33, 3) := by decide +kernel
theorem d_MO_isOwnHere_49 : decode s_MO_isOwnHere.2.1 49 = .ok (.invokevirtual 239, 3) := by decide +kernel
theorem d_MO_isOwnHere_52 : decode s_MO_isOwnHere.2.1 52 = .ok (.ifCond .eq 7, 3) := by decide +kernel
theorem d_MO_isOwnHere_55 : decode s_MO_isOwnHere.2.1 55 = .ok (.iconst 1, 1) := by decide +kernel
theorem d_MO_isOwnHere_56 : decode s_MO_isOwnHere.2.1 56 = .ok (.goto 4, 3) := by decide +kernel
theorem d_MO_isOwnHere_59 : decode s_MO_isOwnHere.2.1 59 = .ok (.iconst 0, 1) := by decide +kernel
theorem d_MO_isOwnHere_60 : decode s_MO_isOwnHere.2.1 60 = .ok (.istore_n 1, 1) := by decide +kernel
theorem d_MO_isOwnHere_61 : decode s_MO_isOwnHere.2.1 61 = .ok (.iload_n 1, 1) := by decide +kernel
theorem d_MO_isOwnHere_62 : decode s_MO_isOwnHere.2.1 62 = .ok (.ifCond .ne 58, 3) := by decide +kernel
theorem d_MO_isOwnHere_65 : decode s_MO_isOwnHere.2.1 65 = .ok (.aload_n 0, 1) := by decide +kernel
theorem d_MO_isOwnHere_66 : decode s_MO_isOwnHere.2.1 66 = .ok (.aload_n 0, 1) := by decide +kernel
theorem d_MO_isOwnHere_67 : decode s_MO_isOwnHere.2.1 67 = .ok (.getfield 36, 3) := by decide +kernel
theorem d_MO_isOwnHere_70 : decode s_MO_isOwnHere.2.1 70 = .ok (.invokevirtual 239, 3) := by decide +kernel
theorem d_MO_isOwnHere_73 : decode s_MO_isOwnHere.2.1 73 = .ok (.ifCond .ne 47, 3) := by decide +kernel
theorem d_MO_isOwnHere_76 : decode s_MO_isOwnHere.2.1 76 = .ok (.aload_n 0, 1) := by decide +kernel
theorem d_MO_isOwnHere_77 : decode s_MO_isOwnHere.2.1 77 = .ok (.aload_n 0, 1) := by decide +kernel
theorem d_MO_isOwnHere_78 : decode s_MO_isOwnHere.2.1 78 = .ok (.getfield 39, 3) := by decide +kernel
theorem d_MO_isOwnHere_81 : decode s_MO_isOwnHere.2.1 81 = .ok (.invokevirtual 239, 3) := by decide +kernel
theorem d_MO_isOwnHere_84 : decode s_MO_isOwnHere.2.1 84 = .ok (.ifCond .ne 36, 3) := by decide +kernel
theorem d_MO_isOwnHere_87 : decode s_MO_isOwnHere.2.1 87 = .ok (.aload_n 0, 1) := by decide +kernel
theorem d_MO_isOwnHere_88 : decode s_MO_isOwnHere.2.1 88 = .ok (.aload_n 0, 1) := by decide +kernel
theorem d_MO_isOwnHere_89 : decode s_MO_isOwnHere.2.1 89 = .ok (.getfield 42, 3) := by decide +kernel
theorem d_MO_isOwnHere_92 : decode s_MO_isOwnHere.2.1 92 = .ok (.invokevirtual 239, 3) := by decide +kernel
theorem d_MO_isOwnHere_95 : decode s_MO_isOwnHere.2.1 95 = .ok (.ifCond .ne 25, 3) := by decide +kernel
theorem d_MO_isOwnHere_98 : decode s_MO_isOwnHere.2.1 98 = .ok (.aload_n 0, 1) := by decide +kernel
theorem d_MO_isOwnHere_99 : decode s_MO_isOwnHere.2.1 99 = .ok (.aload_n 0, 1) := by decide +kernel
theorem d_MO_isOwnHere_100 : decode s_MO_isOwnHere.2.1 100 = .ok (.getfield 45, 3) := by decide +kernel
theorem d_MO_isOwnHere_103 : decode s_MO_isOwnHere.2.1 103 = .ok (.invokevirtual 239, 3) := by decide +kernel
theorem d_MO_isOwnHere_106 : decode s_MO_isOwnHere.2.1 106 = .ok (.ifCond .ne 14, 3) := by decide +kernel
theorem d_MO_isOwnHere_109 : decode s_MO_isOwnHere.2.1 109 = .ok (.aload_n 0, 1) := by decide +kernel
theorem d_MO_isOwnHere_110 : decode s_MO_isOwnHere.2.1 110 = .ok (.aload_n 0, 1) := by decide +kernel
theorem d_MO_isOwnHere_111 : decode s_MO_isOwnHere.2.1 111 = .ok (.getfield 48, 3) := by decide +kernel
theorem d_MO_isOwnHere_114 : decode s_MO_isOwnHere.2.1 114 = .ok (.invokevirtual 239, 3) := by decide +kernel
theorem d_MO_isOwnHere_117 : decode s_MO_isOwnHere.2.1 117 = .ok (.ifCond .eq 7, 3) := by decide +kernel
theorem d_MO_isOwnHere_120 : decode s_MO_isOwnHere.2.1 120 = .ok (.iconst 1, 1) := by decide +kernel
theorem d_MO_isOwnHere_121 : decode s_MO_isOwnHere.2.1 121 = .ok (.goto 4, 3) := by decide +kernel
theorem d_MO_isOwnHere_124 : decode s_MO_isOwnHere.2.1 124 = .ok (.iconst 0, 1) := by decide +kernel
theorem d_MO_isOwnHere_125 : decode s_MO_isOwnHere.2.1 125 = .ok (.istore_n 1, 1) := by decide +kernel
theorem d_MO_isOwnHere_126 : decode s_MO_isOwnHere.2.1 126 = .ok (.iload_n 1, 1) := by decide +kernel
theorem d_MO_isOwnHere_127 : decode s_MO_isOwnHere.2.1 127 = .ok (.ifCond .ne 58, 3) := by decide +kernel
theorem d_MO_isOwnHere_130 : decode s_MO_isOwnHere.2.1 130 = .ok (.aload_n 0, 1) := by decide +kernel
theorem d_MO_isOwnHere_131 : decode s_MO_isOwnHere.2.1 131 = .ok (.aload_n 0, 1) := by decide +kernel
theorem d_MO_isOwnHere_132 : decode s_MO_isOwnHere.2.1 132 = .ok (.getfield 51, 3) := by decide +kernel
theorem d_MO_isOwnHere_135 : decode s_MO_isOwnHere.2.1 135 = .ok (.invokevirtual 239, 3) := by decide +kernel
theorem d_MO_isOwnHere_138 : decode s_MO_isOwnHere.2.1 138 = .ok (.ifCond .ne 47, 3) := by decide +kernel
theorem d_MO_isOwnHere_141 : decode s_MO_isOwnHere.2.1 141 = .ok (.aload_n 0, 1) := by decide +kernel
theorem d_MO_isOwnHere_142 : decode s_MO_isOwnHere.2.1 142 = .ok (.aload_n 0, 1) := by decide +kernel
theorem d_MO_isOwnHere_143 : decode s_MO_isOwnHere.2.1 143 = .ok (.getfield 54, 3) := by decide +kernel
theorem d_MO_isOwnHere_146 : decode s_MO_isOwnHere.2.1 146 = .ok (.invokevirtual 239, 3) := by decide +kernel
theorem d_MO_isOwnHere_149 : decode s_MO_isOwnHere.2.1 149 = .ok (.ifCond .ne 36, 3) := by decide +kernel
theorem d_MO_isOwnHere_152 : decode s_MO_isOwnHere.2.1 152 = .ok (.aload_n 0, 1) := by decide +kernel
theorem d_MO_isOwnHere_153 : decode s_MO_isOwnHere.2.1 153 = .ok (.aload_n 0, 1) := by decide +kernel
theorem d_MO_isOwnHere_154 : decode s_MO_isOwnHere.2.1 154 = .ok (.getfield 57, 3) := by decide +kernel
theorem d_MO_isOwnHere_157 : decode s_MO_isOwnHere.2.1 157 = .ok (.invokevirtual 239, 3) := by decide +kernel
theorem d_MO_isOwnHere_160 : decode s_MO_isOwnHere.2.1 160 = .ok (.ifCond .ne 25, 3) := by decide +kernel
theorem d_MO_isOwnHere_163 : decode s_MO_isOwnHere.2.1 163 = .ok (.aload_n 0, 1) := by decide +kernel
theorem d_MO_isOwnHere_164 : decode s_MO_isOwnHere.2.1 164 = .ok (.aload_n 0, 1) := by decide +kernel
theorem d_MO_isOwnHere_165 : decode s_MO_isOwnHere.2.1 165 = .ok (.getfield 60, 3) := by decide +kernel
theorem d_MO_isOwnHere_168 : decode s_MO_isOwnHere.2.1 168 = .ok (.invokevirtual 239, 3) := by decide +kernel
theorem d_MO_isOwnHere_171 : decode s_MO_isOwnHere.2.1 171 = .ok (.ifCond .ne 14, 3) := by decide +kernel
theorem d_MO_isOwnHere_174 : decode s_MO_isOwnHere.2.1 174 = .ok (.aload_n 0, 1) := by decide +kernel
theorem d_MO_isOwnHere_175 : decode s_MO_isOwnHere.2.1 175 = .ok (.aload_n 0, 1) := by decide +kernel
theorem d_MO_isOwnHere_176 : decode s_MO_isOwnHere.2.1 176 = .ok (.getfield 63, 3) := by decide +kernel
theorem d_MO_isOwnHere_179 : decode s_MO_isOwnHere.2.1 179 = .ok (.invokevirtual 239, 3) := by decide +kernel
theorem d_MO_isOwnHere_182 : decode s_MO_isOwnHere.2.1 182 = .ok (.ifCond .eq 7, 3) := by decide +kernel
theorem d_MO_isOwnHere_185 : decode s_MO_isOwnHere.2.1 185 = .ok (.iconst 1, 1) := by decide +kernel
theorem d_MO_isOwnHere_186 : decode s_MO_isOwnHere.2.1 186 = .ok (.goto 4, 3) := by decide +kernel
theorem d_MO_isOwnHere_189 : decode s_MO_isOwnHere.2.1 189 = .ok (.iconst 0, 1) := by decide +kernel
theorem d_MO_isOwnHere_190 : decode s_MO_isOwnHere.2.1 190 = .ok (.istore_n 1, 1) := by decide +kernel
theorem d_MO_isOwnHere_191 : decode s_MO_isOwnHere.2.1 191 = .ok (.iload_n 1, 1) := by decide +kernel
theorem d_MO_isOwnHere_192 : decode s_MO_isOwnHere.2.1 192 = .ok (.ifCond .ne 47, 3) := by decide +kernel
theorem d_MO_isOwnHere_195 : decode s_MO_isOwnHere.2.1 195 = .ok (.aload_n 0, 1) := by decide +kernel
theorem d_MO_isOwnHere_196 : decode s_MO_isOwnHere.2.1 196 = .ok (.aload_n 0, 1) := by decide +kernel
theorem d_MO_isOwnHere_197 : decode s_MO_isOwnHere.2.1 197 = .ok (.getfield 66, 3) := by decide +kernel
theorem d_MO_isOwnHere_200 : decode s_MO_isOwnHere.2.1 200 = .ok (.invokevirtual 239, 3) := by decide +kernel
theorem d_MO_isOwnHere_203 : decode s_MO_isOwnHere.2.1 203 = .ok (.ifCond .ne 36, 3) := by decide +kernel
theorem d_MO_isOwnHere_206 : decode s_MO_isOwnHere.2.1 206 = .ok (.aload_n 0, 1) := by decide +kernel
theorem d_MO_isOwnHere_207 : decode s_MO_isOwnHere.2.1 207 = .ok (.aload_n 0, 1) := by decide +kernel
theorem d_MO_isOwnHere_208 : decode s_MO_isOwnHere.2.1 208 = .ok (.getfield 69, 3) := by decide +kernel
theorem d_MO_isOwnHere_211 : decode s_MO_isOwnHere.2.1 211 = .ok (.invokevirtual 239, 3) := by decide +kernel
theorem d_MO_isOwnHere_214 : decode s_MO_isOwnHere.2.1 214 = .ok (.ifCond .ne 25, 3) := by decide +kernel
theorem d_MO_isOwnHere_217 : decode s_MO_isOwnHere.2.1 217 = .ok (.aload_n 0, 1) := by decide +kernel
theorem d_MO_isOwnHere_218 : decode s_MO_isOwnHere.2.1 218 = .ok (.aload_n 0, 1) := by decide +kernel
theorem d_MO_isOwnHere_219 : decode s_MO_isOwnHere.2.1 219 = .ok (.getfield 72, 3) := by decide +kernel
theorem d_MO_isOwnHere_222 : decode s_MO_isOwnHere.2.1 222 = .ok (.invokevirtual 239, 3) := by decide +kernel
theorem d_MO_isOwnHere_225 : decode s_MO_isOwnHere.2.1 225 = .ok (.ifCond .ne 14, 3) := by decide +kernel
theorem d_MO_isOwnHere_228 : decode s_MO_isOwnHere.2.1 228 = .ok (.aload_n 0, 1) := by decide +kernel
theorem d_MO_isOwnHere_229 : decode s_MO_isOwnHere.2.1 229 = .ok (.aload_n 0, 1) := by decide +kernel
theorem d_MO_isOwnHere_230 : decode s_MO_isOwnHere.2.1 230 = .ok (.getfield 75, 3) := by decide +kernel
theorem d_MO_isOwnHere_233 : decode s_MO_isOwnHere.2.1 233 = .ok (.invokevirtual 239, 3) := by decide +kernel
theorem d_MO_isOwnHere_236 : decode s_MO_isOwnHere.2.1 236 = .ok (.ifCond .eq 7, 3) := by decide +kernel
theorem d_MO_isOwnHere_239 : decode s_MO_isOwnHere.2.1 239 = .ok (.iconst 1, 1) := by decide +kernel
theorem d_MO_isOwnHere_240 : decode s_MO_isOwnHere.2.1 240 = .ok (.goto 4, 3) := by decide +kernel
theorem d_MO_isOwnHere_243 : decode s_MO_isOwnHere.2.1 243 = .ok (.iconst 0, 1) := by decide +kernel
theorem d_MO_isOwnHere_244 : decode s_MO_isOwnHere.2.1 244 = .ok (.ireturn, 1) := by decide +kernel
theorem d_MO_name_0 : decode s_MO_name.2.1 0 = .ok (.aload_n 0, 1) := by decide +kernel
theorem d_MO_name_1 : decode s_MO_name.2.1 1 = .ok (.getfield 217, 3) := by decide +kernel
theorem d_MO_name_4 : decode s_MO_name.2.1 4 = .ok (.ifCond .eq 5, 3) := by decide +kernel
theorem d_MO_name_7 : decode s_MO_name.2.1 7 = .ok (.iconst 0, 1) := by decide +kernel
theorem d_MO_name_8 : decode s_MO_name.2.1 8 = .ok (.ireturn, 1) := by decide +kernel
theorem d_MO_name_9 : decode s_MO_name.2.1 9 = .ok (.aload_n 0, 1) := by decide +kernel
theorem d_MO_name_10 : decode s_MO_name.2.1 10 = .ok (.invokevirtual 229, 3) := by decide +kernel
theorem d_MO_name_13 : decode s_MO_name.2.1 13 = .ok (.invokestatic 233, 3) := by decide +kernel
theorem d_MO_name_16 : decode s_MO_name.2.1 16 = .ok (.ifCond .eq 21, 3) := by decide +kernel
theorem d_MO_name_19 : decode s_MO_name.2.1 19 = .ok (.aload_n 0, 1) := by decide +kernel
theorem d_MO_name_20 : decode s_MO_name.2.1 20 = .ok (.getfield 223, 3) := by decide +kernel
theorem d_MO_name_23 : decode s_MO_name.2.1 23 = .ok (.aload_n 0, 1) := by decide +kernel
theorem d_MO_name_24 : decode s_MO_name.2.1 24 = .ok (.getfield 236, 3) := by decide +kernel
theorem d_MO_name_27 : decode s_MO_name.2.1 27 = .ok (.if_icmp .eq 10, 3) := by decide +kernel
theorem d_MO_name_30 : decode s_MO_name.2.1 30 = .ok (.aload_n 0, 1) := by decide +kernel
theorem d_MO_name_31 : decode s_MO_name.2.1 31 = .ok (.invokevirtual 256, 3) := by decide +kernel
theorem d_MO_name_34 : decode s_MO_name.2.1 34 = .ok (.ifCond .eq 14, 3) := by decide +kernel
theorem d_MO_name_37 : decode s_MO_name.2.1 37 = .ok (.aload_n 0, 1) := by decide +kernel
theorem d_MO_name_38 : decode s_MO_name.2.1 38 = .ok (.iconst 1, 1) := by decide +kernel
theorem d_MO_name_39 : decode s_MO_name.2.1 39 = .ok (.aload_n 0, 1) := by decide +kernel
theorem d_MO_name_40 : decode s_MO_name.2.1 40 = .ok (.getfield 223, 3) := by decide +kernel
theorem d_MO_name_43 : decode s_MO_name.2.1 43 = .ok (.invokevirtual 246, 3) := by decide +kernel
theorem d_MO_name_46 : decode s_MO_name.2.1 46 = .ok (.iconst 0, 1) := by decide +kernel
theorem d_MO_name_47 : decode s_MO_name.2.1 47 = .ok (.ireturn, 1) := by decide +kernel
theorem d_MO_name_48 : decode s_MO_name.2.1 48 = .ok (.aload_n 0, 1) := by decide +kernel
theorem d_MO_name_49 : decode s_MO_name.2.1 49 = .ok (.aload_n 0, 1) := by decide +kernel
theorem d_MO_name_50 : decode s_MO_name.2.1 50 = .ok (.getfield 223, 3) := by decide +kernel
theorem d_MO_name_53 : decode s_MO_name.2.1 53 = .ok (.putfield 260, 3) := by decide +kernel
theorem d_MO_name_56 : decode s_MO_name.2.1 56 = .ok (.iconst 0, 1) := by decide +kernel
theorem d_MO_name_57 : decode s_MO_name.2.1 57 = .ok (.istore_n 1, 1) := by decide +kernel
theorem d_MO_name_58 : decode s_MO_name.2.1 58 = .ok (.aload_n 0, 1) := by decide +kernel
theorem d_MO_name_59 : decode s_MO_name.2.1 59 = .ok (.getfield 223, 3) := by decide +kernel
theorem d_MO_name_62 : decode s_MO_name.2.1 62 = .ok (.aload_n 0, 1) := by decide +kernel
theorem d_MO_name_63 : decode s_MO_name.2.1 63 = .ok (.getfield 226, 3) := by decide +kernel
theorem d_MO_name_66 : decode s_MO_name.2.1 66 = .ok (.if_icmp .ge 76, 3) := by decide +kernel
theorem d_MO_name_69 : decode s_MO_name.2.1 69 = .ok (.aload_n 0, 1) := by decide +kernel
theorem d_MO_name_70 : decode s_MO_name.2.1 70 = .ok (.getfield 7, 3) := by decide +kernel
theorem d_MO_name_73 : decode s_MO_name.2.1 73 = .ok (.aload_n 0, 1) := by decide +kernel
theorem d_MO_name_74 : decode s_MO_name.2.1 74 = .ok (.getfield 223, 3) := by decide +kernel
theorem d_MO_name_77 : decode s_MO_name.2.1 77 = .ok (.iaload, 1) := by decide +kernel
theorem d_MO_name_78 : decode s_MO_name.2.1 78 = .ok (.invokestatic 233, 3) := by decide +kernel
theorem d_MO_name_81 : decode s_MO_name.2.1 81 = .ok (.ifCond .eq 61, 3) := by decide +kernel
theorem d_MO_name_84 : decode s_MO_name.2.1 84 = .ok (.aload_n 0, 1) := by decide +kernel
theorem d_MO_name_85 : decode s_MO_name.2.1 85 = .ok (.getfield 223, 3) := by decide +kernel
theorem d_MO_name_88 : decode s_MO_name.2.1 88 = .ok (.aload_n 0, 1) := by decide +kernel
theorem d_MO_name_89 : decode s_MO_name.2.1 89 = .ok (.getfield 260, 3) := by decide +kernel
theorem d_MO_name_92 : decode s_MO_name.2.1 92 = .ok (.isub, 1) := by decide +kernel
theorem d_MO_name_93 : decode s_MO_name.2.1 93 = .ok (.bipush 6, 2) := by decide +kernel
theorem d_MO_name_95 : decode s_MO_name.2.1 95 = .ok (.if_icmp .ne 14, 3) := by decide +kernel
theorem d_MO_name_98 : decode s_MO_name.2.1 98 = .ok (.aload_n 0, 1) := by decide +kernel
theorem d_MO_name_99 : decode s_MO_name.2.1 99 = .ok (.iconst 1, 1) := by decide +kernel
theorem d_MO_name_100 : decode s_MO_name.2.1 100 = .ok (.aload_n 0, 1) := by decide +kernel
theorem d_MO_name_101 : decode s_MO_name.2.1 101 = .ok (.getfield 223, 3) := by decide +kernel
theorem d_MO_name_104 : decode s_MO_name.2.1 104 = .ok (.invokevirtual 246, 3) := by decide +kernel
theorem d_MO_name_107 : decode s_MO_name.2.1 107 = .ok (.iconst 0, 1) := by decide +kernel
theorem d_MO_name_108 : decode s_MO_name.2.1 108 = .ok (.ireturn, 1) := by decide +kernel
theorem d_MO_name_109 : decode s_MO_name.2.1 109 = .ok (.bipush 27, 2) := by decide +kernel
theorem d_MO_name_111 : decode s_MO_name.2.1 111 = .ok (.iload_n 1, 1) := by decide +kernel
theorem d_MO_name_112 : decode s_MO_name.2.1 112 = .ok (.imul, 1) := by decide +kernel
theorem d_MO_name_113 : decode s_MO_name.2.1 113 = .ok (.aload_n 0, 1) := by decide +kernel
theorem d_MO_name_114 : decode s_MO_name.2.1 114 = .ok (.getfield 7, 3) := by decide +kernel
theorem d_MO_name_117 : decode s_MO_name.2.1 117 = .ok (.aload_n 0, 1) := by decide +kernel
theorem d_MO_name_118 : decode s_MO_name.2.1 118 = .ok (.getfield 223, 3) := by decide +kernel
theorem d_MO_name_121 : decode s_MO_name.2.1 121 = .ok (.iaload, 1) := by decide +kernel
theorem d_MO_name_122 : decode s_MO_name.2.1 122 = .ok (.iadd, 1) := by decide +kernel
theorem d_MO_name_123 : decode s_MO_name.2.1 123 = .ok (.bipush 97, 2) := by decide +kernel
theorem d_MO_name_125 : decode s_MO_name.2.1 125 = .ok (.isub, 1) := by decide +kernel
theorem d_MO_name_126 : decode s_MO_name.2.1 126 = .ok (.iconst 1, 1) := by decide +kernel
theorem d_MO_name_127 : decode s_MO_name.2.1 127 = .ok (.iadd, 1) := by decide +kernel
theorem d_MO_name_128 : decode s_MO_name.2.1 128 = .ok (.istore_n 1, 1) := by decide +kernel
theorem d_MO_name_129 : decode s_MO_name.2.1 129 = .ok (.aload_n 0, 1) := by decide +kernel
theorem d_MO_name_130 : decode s_MO_name.2.1 130 = .ok (.dup, 1) := by decide +kernel
theorem d_MO_name_131 : decode s_MO_name.2.1 131 = .ok (.getfield 223, 3) := by decide +kernel
theorem d_MO_name_134 : decode s_MO_name.2.1 134 = .ok (.iconst 1, 1) := by decide +kernel
theorem d_MO_name_135 : decode s_MO_name.2.1 135 = .ok (.iadd, 1) := by decide +kernel
theorem d_MO_name_136 : decode s_MO_name.2.1 136 = .ok (.putfield 223, 3) := by decide +kernel
theorem d_MO_name_139 : decode s_MO_name.2.1 139 = .ok (.goto (-81), 3) := by decide +kernel
theorem d_MO_name_142 : decode s_MO_name.2.1 142 = .ok (.aload_n 0, 1) := by decide +kernel
theorem d_MO_name_143 : decode s_MO_name.2.1 143 = .ok (.aload_n 0, 1) := by decide +kernel
theorem d_MO_name_144 : decode s_MO_name.2.1 144 = .ok (.getfield 223, 3) := by decide +kernel
theorem d_MO_name_147 : decode s_MO_name.2.1 147 = .ok (.putfield 236, 3) := by decide +kernel
theorem d_MO_name_150 : decode s_MO_name.2.1 150 = .ok (.iload_n 1, 1) := by decide +kernel
theorem d_MO_name_151 : decode s_MO_name.2.1 151 = .ok (.ireturn, 1) := by decide +kernel
theorem d_MO_nameAt_0 : decode s_MO_nameAt.2.1 0 = .ok (.bipush 10, 2) := by decide +kernel
theorem d_MO_nameAt_2 : decode s_MO_nameAt.2.1 2 = .ok (.bipush 6, 2) := by decide +kernel
theorem d_MO_nameAt_4 : decode s_MO_nameAt.2.1 4 = .ok (.iload_n 0, 1) := by decide +kernel
theorem d_MO_nameAt_5 : decode s_MO_nameAt.2.1 5 = .ok (.imul, 1) := by decide +kernel
theorem d_MO_nameAt_6 : decode s_MO_nameAt.2.1 6 = .ok (.iadd, 1) := by decide +kernel
theorem d_MO_nameAt_7 : decode s_MO_nameAt.2.1 7 = .ok (.iload_n 1, 1) := by decide +kernel
theorem d_MO_nameAt_8 : decode s_MO_nameAt.2.1 8 = .ok (.iadd, 1) := by decide +kernel
theorem d_MO_nameAt_9 : decode s_MO_nameAt.2.1 9 = .ok (.ireturn, 1) := by decide +kernel
theorem d_MO_known_0 : decode s_MO_known.2.1 0 = .ok (.iconst 0, 1) := by decide +kernel
theorem d_MO_known_1 : decode s_MO_known.2.1 1 = .ok (.istore_n 3, 1) := by decide +kernel
theorem d_MO_known_2 : decode s_MO_known.2.1 2 = .ok (.iload_n 3, 1) := by decide +kernel
theorem d_MO_known_3 : decode s_MO_known.2.1 3 = .ok (.aload_n 0, 1) := by decide +kernel
theorem d_MO_known_4 : decode s_MO_known.2.1 4 = .ok (.getfield 78, 3) := by decide +kernel
theorem d_MO_known_7 : decode s_MO_known.2.1 7 = .ok (.iconst 0, 1) := by decide +kernel
theorem d_MO_known_8 : decode s_MO_known.2.1 8 = .ok (.iload_n 1, 1) := by decide +kernel
theorem d_MO_known_9 : decode s_MO_known.2.1 9 = .ok (.iadd, 1) := by decide +kernel
theorem d_MO_known_10 : decode s_MO_known.2.1 10 = .ok (.iaload, 1) := by decide +kernel
theorem d_MO_known_11 : decode s_MO_known.2.1 11 = .ok (.if_icmp .ge 25, 3) := by decide +kernel
theorem d_MO_known_14 : decode s_MO_known.2.1 14 = .ok (.aload_n 0, 1) := by decide +kernel
theorem d_MO_known_15 : decode s_MO_known.2.1 15 = .ok (.getfield 78, 3) := by decide +kernel
theorem d_MO_known_18 : decode s_MO_known.2.1 18 = .ok (.iload_n 1, 1) := by decide +kernel
theorem d_MO_known_19 : decode s_MO_known.2.1 19 = .ok (.iload_n 3, 1) := by decide +kernel
theorem d_MO_known_20 : decode s_MO_known.2.1 20 = .ok (.invokestatic 263, 3) := by decide +kernel
theorem d_MO_known_23 : decode s_MO_known.2.1 23 = .ok (.iaload, 1) := by decide +kernel
theorem d_MO_known_24 : decode s_MO_known.2.1 24 = .ok (.iload_n 2, 1) := by decide +kernel
theorem d_MO_known_25 : decode s_MO_known.2.1 25 = .ok (.if_icmp .ne 5, 3) := by decide +kernel
theorem d_MO_known_28 : decode s_MO_known.2.1 28 = .ok (.iload_n 3, 1) := by decide +kernel
theorem d_MO_known_29 : decode s_MO_known.2.1 29 = .ok (.ireturn, 1) := by decide +kernel
theorem d_MO_known_30 : decode s_MO_known.2.1 30 = .ok (.iinc 3 1, 3) := by decide +kernel
theorem d_MO_known_33 : decode s_MO_known.2.1 33 = .ok (.goto (-31), 3) := by decide +kernel
theorem d_MO_known_36 : decode s_MO_known.2.1 36 = .ok (.iconst (-1), 1) := by decide +kernel
theorem d_MO_known_37 : decode s_MO_known.2.1 37 = .ok (.ireturn, 1) := by decide +kernel
theorem d_MO_takesSign_0 : decode s_MO_takesSign.2.1 0 = .ok (.aload_n 0, 1) := by decide +kernel
theorem d_MO_takesSign_1 : decode s_MO_takesSign.2.1 1 = .ok (.getfield 217, 3) := by decide +kernel
theorem d_MO_takesSign_4 : decode s_MO_takesSign.2.1 4 = .ok (.ifCond .ne 11, 3) := by decide +kernel
theorem d_MO_takesSign_7 : decode s_MO_takesSign.2.1 7 = .ok (.aload_n 0, 1) := by decide +kernel
theorem d_MO_takesSign_8 : decode s_MO_takesSign.2.1 8 = .ok (.invokevirtual 229, 3) := by decide +kernel
theorem d_MO_takesSign_11 : decode s_MO_takesSign.2.1 11 = .ok (.iload_n 1, 1) := by decide +kernel
theorem d_MO_takesSign_12 : decode s_MO_takesSign.2.1 12 = .ok (.if_icmp .eq 5, 3) := by decide +kernel
theorem d_MO_takesSign_15 : decode s_MO_takesSign.2.1 15 = .ok (.iconst 0, 1) := by decide +kernel
theorem d_MO_takesSign_16 : decode s_MO_takesSign.2.1 16 = .ok (.ireturn, 1) := by decide +kernel
theorem d_MO_takesSign_17 : decode s_MO_takesSign.2.1 17 = .ok (.aload_n 0, 1) := by decide +kernel
theorem d_MO_takesSign_18 : decode s_MO_takesSign.2.1 18 = .ok (.dup, 1) := by decide +kernel
theorem d_MO_takesSign_19 : decode s_MO_takesSign.2.1 19 = .ok (.getfield 223, 3) := by decide +kernel
theorem d_MO_takesSign_22 : decode s_MO_takesSign.2.1 22 = .ok (.iconst 1, 1) := by decide +kernel
theorem d_MO_takesSign_23 : decode s_MO_takesSign.2.1 23 = .ok (.iadd, 1) := by decide +kernel
theorem d_MO_takesSign_24 : decode s_MO_takesSign.2.1 24 = .ok (.putfield 223, 3) := by decide +kernel
theorem d_MO_takesSign_27 : decode s_MO_takesSign.2.1 27 = .ok (.iconst 1, 1) := by decide +kernel
theorem d_MO_takesSign_28 : decode s_MO_takesSign.2.1 28 = .ok (.ireturn, 1) := by decide +kernel
theorem d_MO_newNames_0 : decode s_MO_newNames.2.1 0 = .ok (.iconst 0, 1) := by decide +kernel
theorem d_MO_newNames_1 : decode s_MO_newNames.2.1 1 = .ok (.istore_n 2, 1) := by decide +kernel
theorem d_MO_newNames_2 : decode s_MO_newNames.2.1 2 = .ok (.aload_n 0, 1) := by decide +kernel
theorem d_MO_newNames_3 : decode s_MO_newNames.2.1 3 = .ok (.getfield 217, 3) := by decide +kernel
theorem d_MO_newNames_6 : decode s_MO_newNames.2.1 6 = .ok (.ifCond .ne 30, 3) := by decide +kernel
theorem d_MO_newNames_9 : decode s_MO_newNames.2.1 9 = .ok (.iload_n 2, 1) := by decide +kernel
theorem d_MO_newNames_10 : decode s_MO_newNames.2.1 10 = .ok (.bipush 6, 2) := by decide +kernel
theorem d_MO_newNames_12 : decode s_MO_newNames.2.1 12 = .ok (.if_icmp .ne 24, 3) := by decide +kernel
theorem d_MO_newNames_15 : decode s_MO_newNames.2.1 15 = .ok (.aload_n 0, 1) := by decide +kernel
theorem d_MO_newNames_16 : decode s_MO_newNames.2.1 16 = .ok (.aload_n 0, 1) := by decide +kernel
theorem d_MO_newNames_17 : decode s_MO_newNames.2.1 17 = .ok (.invokevirtual 229, 3) := by decide +kernel
theorem d_MO_newNames_20 : decode s_MO_newNames.2.1 20 = .ok (.iconst (-1), 1) := by decide +kernel
theorem d_MO_newNames_21 : decode s_MO_newNames.2.1 21 = .ok (.if_icmp .ne 7, 3) := by decide +kernel
theorem d_MO_newNames_24 : decode s_MO_newNames.2.1 24 = .ok (.iconst 1, 1) := by decide +kernel
theorem d_MO_newNames_25 : decode s_MO_newNames.2.1 25 = .ok (.goto 4, 3) := by decide +kernel
theorem d_MO_newNames_28 : decode s_MO_newNames.2.1 28 = .ok (.iconst 5, 1) := by decide +kernel
theorem d_MO_newNames_29 : decode s_MO_newNames.2.1 29 = .ok (.aload_n 0, 1) := by decide +kernel
theorem d_MO_newNames_30 : decode s_MO_newNames.2.1 30 = .ok (.getfield 223, 3) := by decide +kernel
theorem d_MO_newNames_33 : decode s_MO_newNames.2.1 33 = .ok (.invokevirtual 246, 3) := by decide +kernel
theorem d_MO_newNames_36 : decode s_MO_newNames.2.1 36 = .ok (.aload_n 0, 1) := by decide +kernel
theorem d_MO_newNames_37 : decode s_MO_newNames.2.1 37 = .ok (.invokevirtual 267, 3) := by decide +kernel
theorem d_MO_newNames_40 : decode s_MO_newNames.2.1 40 = .ok (.istore_n 3, 1) := by decide +kernel
theorem d_MO_newNames_41 : decode s_MO_newNames.2.1 41 = .ok (.aload_n 0, 1) := by decide +kernel
theorem d_MO_newNames_42 : decode s_MO_newNames.2.1 42 = .ok (.getfield 217, 3) := by decide +kernel
theorem d_MO_newNames_45 : decode s_MO_newNames.2.1 45 = .ok (.ifCond .ne 42, 3) := by decide +kernel
theorem d_MO_newNames_48 : decode s_MO_newNames.2.1 48 = .ok (.aload_n 0, 1) := by decide +kernel
theorem d_MO_newNames_49 : decode s_MO_newNames.2.1 49 = .ok (.iconst 0, 1) := by decide +kernel
theorem d_MO_newNames_50 : decode s_MO_newNames.2.1 50 = .ok (.iload_n 3, 1) := by decide +kernel
theorem d_MO_newNames_51 : decode s_MO_newNames.2.1 51 = .ok (.invokevirtual 270, 3) := by decide +kernel
theorem d_MO_newNames_54 : decode s_MO_newNames.2.1 54 = .ok (.iconst (-1), 1) := by decide +kernel
theorem d_MO_newNames_55 : decode s_MO_newNames.2.1 55 = .ok (.if_icmp .ne 23, 3) := by decide +kernel
theorem d_MO_newNames_58 : decode s_MO_newNames.2.1 58 = .ok (.aload_n 0, 1) := by decide +kernel
theorem d_MO_newNames_59 : decode s_MO_newNames.2.1 59 = .ok (.iconst 1, 1) := by decide +kernel
theorem d_MO_newNames_60 : decode s_MO_newNames.2.1 60 = .ok (.iload_n 3, 1) := by decide +kernel
theorem d_MO_newNames_61 : decode s_MO_newNames.2.1 61 = .ok (.invokevirtual 270, 3) := by decide +kernel
theorem d_MO_newNames_64 : decode s_MO_newNames.2.1 64 = .ok (.iconst (-1), 1) := by decide +kernel
theorem d_MO_newNames_65 : decode s_MO_newNames.2.1 65 = .ok (.if_icmp .ne 13, 3) := by decide +kernel
theorem d_MO_newNames_68 : decode s_MO_newNames.2.1 68 = .ok (.aload_n 0, 1) := by decide +kernel
theorem d_MO_newNames_69 : decode s_MO_newNames.2.1 69 = .ok (.iconst 2, 1) := by decide +kernel
theorem d_MO_newNames_70 : decode s_MO_newNames.2.1 70 = .ok (.iload_n 3, 1) := by decide +kernel
theorem d_MO_newNames_71 : decode s_MO_newNames.2.1 71 = .ok (.invokevirtual 270, 3) := by decide +kernel
theorem d_MO_newNames_74 : decode s_MO_newNames.2.1 74 = .ok (.iconst (-1), 1) := by decide +kernel
theorem d_MO_newNames_75 : decode s_MO_newNames.2.1 75 = .ok (.if_icmp .eq 12, 3) := by decide +kernel
theorem d_MO_newNames_78 : decode s_MO_newNames.2.1 78 = .ok (.aload_n 0, 1) := by decide +kernel
theorem d_MO_newNames_79 : decode s_MO_newNames.2.1 79 = .ok (.iconst 3, 1) := by decide +kernel
theorem d_MO_newNames_80 : decode s_MO_newNames.2.1 80 = .ok (.aload_n 0, 1) := by decide +kernel
theorem d_MO_newNames_81 : decode s_MO_newNames.2.1 81 = .ok (.getfield 260, 3) := by decide +kernel
theorem d_MO_newNames_84 : decode s_MO_newNames.2.1 84 = .ok (.invokevirtual 246, 3) := by decide +kernel
theorem d_MO_newNames_87 : decode s_MO_newNames.2.1 87 = .ok (.aload_n 0, 1) := by decide +kernel
theorem d_MO_newNames_88 : decode s_MO_newNames.2.1 88 = .ok (.getfield 217, 3) := by decide +kernel
theorem d_MO_newNames_91 : decode s_MO_newNames.2.1 91 = .ok (.ifCond .eq 4, 3) := by decide +kernel
theorem d_MO_newNames_94 : decode s_MO_newNames.2.1 94 = .ok (.return_, 1) := by decide +kernel
theorem d_MO_newNames_95 : decode s_MO_newNames.2.1 95 = .ok (.aload_n 0, 1) := by decide +kernel
theorem d_MO_newNames_96 : decode s_MO_newNames.2.1 96 = .ok (.getfield 78, 3) := by decide +kernel
theorem d_MO_newNames_99 : decode s_MO_newNames.2.1 99 = .ok (.iload_n 1, 1) := by decide +kernel
theorem d_MO_newNames_100 : decode s_MO_newNames.2.1 100 = .ok (.iload_n 2, 1) := by decide +kernel
theorem d_MO_newNames_101 : decode s_MO_newNames.2.1 101 = .ok (.invokestatic 263, 3) := by decide +kernel
theorem d_MO_newNames_104 : decode s_MO_newNames.2.1 104 = .ok (.iload_n 3, 1) := by decide +kernel
theorem d_MO_newNames_105 : decode s_MO_newNames.2.1 105 = .ok (.iastore, 1) := by decide +kernel
theorem d_MO_newNames_106 : decode s_MO_newNames.2.1 106 = .ok (.iinc 2 1, 3) := by decide +kernel
theorem d_MO_newNames_109 : decode s_MO_newNames.2.1 109 = .ok (.aload_n 0, 1) := by decide +kernel
theorem d_MO_newNames_110 : decode s_MO_newNames.2.1 110 = .ok (.getfield 78, 3) := by decide +kernel
theorem d_MO_newNames_113 : decode s_MO_newNames.2.1 113 = .ok (.iconst 0, 1) := by decide +kernel
theorem d_MO_newNames_114 : decode s_MO_newNames.2.1 114 = .ok (.iload_n 1, 1) := by decide +kernel
theorem d_MO_newNames_115 : decode s_MO_newNames.2.1 115 = .ok (.iadd, 1) := by decide +kernel
theorem d_MO_newNames_116 : decode s_MO_newNames.2.1 116 = .ok (.iload_n 2, 1) := by decide +kernel
theorem d_MO_newNames_117 : decode s_MO_newNames.2.1 117 = .ok (.iastore, 1) := by decide +kernel
theorem d_MO_newNames_118 : decode s_MO_newNames.2.1 118 = .ok (.aload_n 0, 1) := by decide +kernel
theorem d_MO_newNames_119 : decode s_MO_newNames.2.1 119 = .ok (.bipush 44, 2) := by decide +kernel
theorem d_MO_newNames_121 : decode s_MO_newNames.2.1 121 = .ok (.invokevirtual 250, 3) := by decide +kernel
theorem d_MO_newNames_124 : decode s_MO_newNames.2.1 124 = .ok (.ifCond .ne (-122), 3) := by decide +kernel
theorem d_MO_newNames_127 : decode s_MO_newNames.2.1 127 = .ok (.return_, 1) := by decide +kernel
theorem d_MO_asksSign_0 : decode s_MO_asksSign.2.1 0 = .ok (.aload_n 0, 1) := by decide +kernel
theorem d_MO_asksSign_1 : decode s_MO_asksSign.2.1 1 = .ok (.getfield 217, 3) := by decide +kernel
theorem d_MO_asksSign_4 : decode s_MO_asksSign.2.1 4 = .ok (.ifCond .ne 20, 3) := by decide +kernel
theorem d_MO_asksSign_7 : decode s_MO_asksSign.2.1 7 = .ok (.aload_n 0, 1) := by decide +kernel
theorem d_MO_asksSign_8 : decode s_MO_asksSign.2.1 8 = .ok (.iload_n 1, 1) := by decide +kernel
theorem d_MO_asksSign_9 : decode s_MO_asksSign.2.1 9 = .ok (.invokevirtual 250, 3) := by decide +kernel
theorem d_MO_asksSign_12 : decode s_MO_asksSign.2.1 12 = .ok (.ifCond .ne 12, 3) := by decide +kernel
theorem d_MO_asksSign_15 : decode s_MO_asksSign.2.1 15 = .ok (.aload_n 0, 1) := by decide +kernel
theorem d_MO_asksSign_16 : decode s_MO_asksSign.2.1 16 = .ok (.iconst 1, 1) := by decide +kernel
theorem d_MO_asksSign_17 : decode s_MO_asksSign.2.1 17 = .ok (.aload_n 0, 1) := by decide +kernel
theorem d_MO_asksSign_18 : decode s_MO_asksSign.2.1 18 = .ok (.getfield 223, 3) := by decide +kernel
theorem d_MO_asksSign_21 : decode s_MO_asksSign.2.1 21 = .ok (.invokevirtual 246, 3) := by decide +kernel
theorem d_MO_asksSign_24 : decode s_MO_asksSign.2.1 24 = .ok (.return_, 1) := by decide +kernel
theorem d_MO_isOnce_0 : decode s_MO_isOnce.2.1 0 = .ok (.aload_n 0, 1) := by decide +kernel
theorem d_MO_isOnce_1 : decode s_MO_isOnce.2.1 1 = .ok (.aload_n 1, 1) := by decide +kernel
theorem d_MO_isOnce_2 : decode s_MO_isOnce.2.1 2 = .ok (.invokevirtual 243, 3) := by decide +kernel
theorem d_MO_isOnce_5 : decode s_MO_isOnce.2.1 5 = .ok (.ifCond .ne 5, 3) := by decide +kernel
theorem d_MO_isOnce_8 : decode s_MO_isOnce.2.1 8 = .ok (.iconst 0, 1) := by decide +kernel
theorem d_MO_isOnce_9 : decode s_MO_isOnce.2.1 9 = .ok (.ireturn, 1) := by decide +kernel
theorem d_MO_isOnce_10 : decode s_MO_isOnce.2.1 10 = .ok (.aload_n 0, 1) := by decide +kernel
theorem d_MO_isOnce_11 : decode s_MO_isOnce.2.1 11 = .ok (.getfield 286, 3) := by decide +kernel
theorem d_MO_isOnce_14 : decode s_MO_isOnce.2.1 14 = .ok (.iload_n 2, 1) := by decide +kernel
theorem d_MO_isOnce_15 : decode s_MO_isOnce.2.1 15 = .ok (.iand, 1) := by decide +kernel
theorem d_MO_isOnce_16 : decode s_MO_isOnce.2.1 16 = .ok (.ifCond .eq 9, 3) := by decide +kernel
theorem d_MO_isOnce_19 : decode s_MO_isOnce.2.1 19 = .ok (.aload_n 0, 1) := by decide +kernel
theorem d_MO_isOnce_20 : decode s_MO_isOnce.2.1 20 = .ok (.iconst 5, 1) := by decide +kernel
theorem d_MO_isOnce_21 : decode s_MO_isOnce.2.1 21 = .ok (.iload_n 3, 1) := by decide +kernel
theorem d_MO_isOnce_22 : decode s_MO_isOnce.2.1 22 = .ok (.invokevirtual 246, 3) := by decide +kernel
theorem d_MO_isOnce_25 : decode s_MO_isOnce.2.1 25 = .ok (.aload_n 0, 1) := by decide +kernel
theorem d_MO_isOnce_26 : decode s_MO_isOnce.2.1 26 = .ok (.dup, 1) := by decide +kernel
theorem d_MO_isOnce_27 : decode s_MO_isOnce.2.1 27 = .ok (.getfield 286, 3) := by decide +kernel
theorem d_MO_isOnce_30 : decode s_MO_isOnce.2.1 30 = .ok (.iload_n 2, 1) := by decide +kernel
theorem d_MO_isOnce_31 : decode s_MO_isOnce.2.1 31 = .ok (.ior, 1) := by decide +kernel
theorem d_MO_isOnce_32 : decode s_MO_isOnce.2.1 32 = .ok (.putfield 286, 3) := by decide +kernel
theorem d_MO_isOnce_35 : decode s_MO_isOnce.2.1 35 = .ok (.iconst 1, 1) := by decide +kernel
theorem d_MO_isOnce_36 : decode s_MO_isOnce.2.1 36 = .ok (.ireturn, 1) := by decide +kernel
theorem d_MO_named_0 : decode s_MO_named.2.1 0 = .ok (.aload_n 0, 1) := by decide +kernel
theorem d_MO_named_1 : decode s_MO_named.2.1 1 = .ok (.invokevirtual 267, 3) := by decide +kernel
theorem d_MO_named_4 : decode s_MO_named.2.1 4 = .ok (.istore_n 2, 1) := by decide +kernel
theorem d_MO_named_5 : decode s_MO_named.2.1 5 = .ok (.aload_n 0, 1) := by decide +kernel
theorem d_MO_named_6 : decode s_MO_named.2.1 6 = .ok (.getfield 217, 3) := by decide +kernel
theorem d_MO_named_9 : decode s_MO_named.2.1 9 = .ok (.ifCond .ne 12, 3) := by decide +kernel
theorem d_MO_named_12 : decode s_MO_named.2.1 12 = .ok (.aload_n 0, 1) := by decide +kernel
theorem d_MO_named_13 : decode s_MO_named.2.1 13 = .ok (.iload_n 1, 1) := by decide +kernel
theorem d_MO_named_14 : decode s_MO_named.2.1 14 = .ok (.iload_n 2, 1) := by decide +kernel
theorem d_MO_named_15 : decode s_MO_named.2.1 15 = .ok (.invokevirtual 270, 3) := by decide +kernel
theorem d_MO_named_18 : decode s_MO_named.2.1 18 = .ok (.goto 4, 3) := by decide +kernel
theorem d_MO_named_21 : decode s_MO_named.2.1 21 = .ok (.iconst 0, 1) := by decide +kernel
theorem d_MO_named_22 : decode s_MO_named.2.1 22 = .ok (.istore_n 3, 1) := by decide +kernel
theorem d_MO_named_23 : decode s_MO_named.2.1 23 = .ok (.aload_n 0, 1) := by decide +kernel
theorem d_MO_named_24 : decode s_MO_named.2.1 24 = .ok (.getfield 217, 3) := by decide +kernel
theorem d_MO_named_27 : decode s_MO_named.2.1 27 = .ok (.ifCond .ne 17, 3) := by decide +kernel
theorem d_MO_named_30 : decode s_MO_named.2.1 30 = .ok (.iload_n 3, 1) := by decide +kernel
theorem d_MO_named_31 : decode s_MO_named.2.1 31 = .ok (.iconst (-1), 1) := by decide +kernel
theorem d_MO_named_32 : decode s_MO_named.2.1 32 = .ok (.if_icmp .ne 12, 3) := by decide +kernel
theorem d_MO_named_35 : decode s_MO_named.2.1 35 = .ok (.aload_n 0, 1) := by decide +kernel
theorem d_MO_named_36 : decode s_MO_named.2.1 36 = .ok (.iconst 3, 1) := by decide +kernel
theorem d_MO_named_37 : decode s_MO_named.2.1 37 = .ok (.aload_n 0, 1) := by decide +kernel
theorem d_MO_named_38 : decode s_MO_named.2.1 38 = .ok (.getfield 260, 3) := by decide +kernel
theorem d_MO_named_41 : decode s_MO_named.2.1 41 = .ok (.invokevirtual 246, 3) := by decide +kernel
theorem d_MO_named_44 : decode s_MO_named.2.1 44 = .ok (.iload_n 3, 1) := by decide +kernel
theorem d_MO_named_45 : decode s_MO_named.2.1 45 = .ok (.ireturn, 1) := by decide +kernel
theorem d_MO_neverTold_0 : decode s_MO_neverTold.2.1 0 = .ok (.bipush 28, 2) := by decide +kernel
theorem d_MO_neverTold_2 : decode s_MO_neverTold.2.1 2 = .ok (.bipush 7, 2) := by decide +kernel
theorem d_MO_neverTold_4 : decode s_MO_neverTold.2.1 4 = .ok (.aload_n 0, 1) := by decide +kernel
theorem d_MO_neverTold_5 : decode s_MO_neverTold.2.1 5 = .ok (.getfield 78, 3) := by decide +kernel
theorem d_MO_neverTold_8 : decode s_MO_neverTold.2.1 8 = .ok (.iconst 5, 1) := by decide +kernel
theorem d_MO_neverTold_9 : decode s_MO_neverTold.2.1 9 = .ok (.iaload, 1) := by decide +kernel
theorem d_MO_neverTold_10 : decode s_MO_neverTold.2.1 10 = .ok (.imul, 1) := by decide +kernel
theorem d_MO_neverTold_11 : decode s_MO_neverTold.2.1 11 = .ok (.iadd, 1) := by decide +kernel
theorem d_MO_neverTold_12 : decode s_MO_neverTold.2.1 12 = .ok (.istore_n 1, 1) := by decide +kernel
theorem d_MO_neverTold_13 : decode s_MO_neverTold.2.1 13 = .ok (.iconst 0, 1) := by decide +kernel
theorem d_MO_neverTold_14 : decode s_MO_neverTold.2.1 14 = .ok (.istore_n 2, 1) := by decide +kernel
theorem d_MO_neverTold_15 : decode s_MO_neverTold.2.1 15 = .ok (.aload_n 0, 1) := by decide +kernel
theorem d_MO_neverTold_16 : decode s_MO_neverTold.2.1 16 = .ok (.getfield 217, 3) := by decide +kernel
theorem d_MO_neverTold_19 : decode s_MO_neverTold.2.1 19 = .ok (.ifCond .ne 29, 3) := by decide +kernel
theorem d_MO_neverTold_22 : decode s_MO_neverTold.2.1 22 = .ok (.iload_n 2, 1) := by decide +kernel
theorem d_MO_neverTold_23 : decode s_MO_neverTold.2.1 23 = .ok (.iconst 3, 1) := by decide +kernel
theorem d_MO_neverTold_24 : decode s_MO_neverTold.2.1 24 = .ok (.if_icmp .ne 24, 3) := by decide +kernel
theorem d_MO_neverTold_27 : decode s_MO_neverTold.2.1 27 = .ok (.aload_n 0, 1) := by decide +kernel
theorem d_MO_neverTold_28 : decode s_MO_neverTold.2.1 28 = .ok (.aload_n 0, 1) := by decide +kernel
theorem d_MO_neverTold_29 : decode s_MO_neverTold.2.1 29 = .ok (.invokevirtual 229, 3) := by decide +kernel
theorem d_MO_neverTold_32 : decode s_MO_neverTold.2.1 32 = .ok (.iconst (-1), 1) := by decide +kernel
theorem d_MO_neverTold_33 : decode s_MO_neverTold.2.1 33 = .ok (.if_icmp .ne 7, 3) := by decide +kernel
theorem d_MO_neverTold_36 : decode s_MO_neverTold.2.1 36 = .ok (.iconst 1, 1) := by decide +kernel
theorem d_MO_neverTold_37 : decode s_MO_neverTold.2.1 37 = .ok (.goto 4, 3) := by decide +kernel
theorem d_MO_neverTold_40 : decode s_MO_neverTold.2.1 40 = .ok (.iconst 5, 1) := by decide +kernel
theorem d_MO_neverTold_41 : decode s_MO_neverTold.2.1 41 = .ok (.aload_n 0, 1) := by decide +kernel
theorem d_MO_neverTold_42 : decode s_MO_neverTold.2.1 42 = .ok (.getfield 223, 3) := by decide +kernel
theorem d_MO_neverTold_45 : decode s_MO_neverTold.2.1 45 = .ok (.invokevirtual 246, 3) := by decide +kernel
theorem d_MO_neverTold_48 : decode s_MO_neverTold.2.1 48 = .ok (.aload_n 0, 1) := by decide +kernel
theorem d_MO_neverTold_49 : decode s_MO_neverTold.2.1 49 = .ok (.iconst 1, 1) := by decide +kernel
theorem d_MO_neverTold_50 : decode s_MO_neverTold.2.1 50 = .ok (.iconst 4, 1) := by decide +kernel
theorem d_MO_neverTold_51 : decode s_MO_neverTold.2.1 51 = .ok (.invokevirtual 273, 3) := by decide +kernel
theorem d_MO_neverTold_54 : decode s_MO_neverTold.2.1 54 = .ok (.istore_n 3, 1) := by decide +kernel
theorem d_MO_neverTold_55 : decode s_MO_neverTold.2.1 55 = .ok (.aload_n 0, 1) := by decide +kernel
theorem d_MO_neverTold_56 : decode s_MO_neverTold.2.1 56 = .ok (.iconst 0, 1) := by decide +kernel
theorem d_MO_neverTold_57 : decode s_MO_neverTold.2.1 57 = .ok (.invokevirtual 276, 3) := by decide +kernel
theorem d_MO_neverTold_60 : decode s_MO_neverTold.2.1 60 = .ok (.istore 4, 2) := by decide +kernel
theorem d_MO_neverTold_62 : decode s_MO_neverTold.2.1 62 = .ok (.aload_n 0, 1) := by decide +kernel
theorem d_MO_neverTold_63 : decode s_MO_neverTold.2.1 63 = .ok (.getfield 217, 3) := by decide +kernel
theorem d_MO_neverTold_66 : decode s_MO_neverTold.2.1 66 = .ok (.ifCond .eq 4, 3) := by decide +kernel
theorem d_MO_neverTold_69 : decode s_MO_neverTold.2.1 69 = .ok (.return_, 1) := by decide +kernel
theorem d_MO_neverTold_70 : decode s_MO_neverTold.2.1 70 = .ok (.aload_n 0, 1) := by decide +kernel
theorem d_MO_neverTold_71 : decode s_MO_neverTold.2.1 71 = .ok (.getfield 78, 3) := by decide +kernel
theorem d_MO_neverTold_74 : decode s_MO_neverTold.2.1 74 = .ok (.iload_n 1, 1) := by decide +kernel
theorem d_MO_neverTold_75 : decode s_MO_neverTold.2.1 75 = .ok (.iconst 1, 1) := by decide +kernel
theorem d_MO_neverTold_76 : decode s_MO_neverTold.2.1 76 = .ok (.iadd, 1) := by decide +kernel
theorem d_MO_neverTold_77 : decode s_MO_neverTold.2.1 77 = .ok (.iconst 2, 1) := by decide +kernel
theorem d_MO_neverTold_78 : decode s_MO_neverTold.2.1 78 = .ok (.iload_n 2, 1) := by decide +kernel
theorem d_MO_neverTold_79 : decode s_MO_neverTold.2.1 79 = .ok (.imul, 1) := by decide +kernel
theorem d_MO_neverTold_80 : decode s_MO_neverTold.2.1 80 = .ok (.iadd, 1) := by decide +kernel
theorem d_MO_neverTold_81 : decode s_MO_neverTold.2.1 81 = .ok (.iload_n 3, 1) := by decide +kernel
theorem d_MO_neverTold_82 : decode s_MO_neverTold.2.1 82 = .ok (.iastore, 1) := by decide +kernel
theorem d_MO_neverTold_83 : decode s_MO_neverTold.2.1 83 = .ok (.aload_n 0, 1) := by decide +kernel
theorem d_MO_neverTold_84 : decode s_MO_neverTold.2.1 84 = .ok (.getfield 78, 3) := by decide +kernel
theorem d_MO_neverTold_87 : decode s_MO_neverTold.2.1 87 = .ok (.iload_n 1, 1) := by decide +kernel
theorem d_MO_neverTold_88 : decode s_MO_neverTold.2.1 88 = .ok (.iconst 2, 1) := by decide +kernel
theorem d_MO_neverTold_89 : decode s_MO_neverTold.2.1 89 = .ok (.iadd, 1) := by decide +kernel
theorem d_MO_neverTold_90 : decode s_MO_neverTold.2.1 90 = .ok (.iconst 2, 1) := by decide +kernel
theorem d_MO_neverTold_91 : decode s_MO_neverTold.2.1 91 = .ok (.iload_n 2, 1) := by decide +kernel
theorem d_MO_neverTold_92 : decode s_MO_neverTold.2.1 92 = .ok (.imul, 1) := by decide +kernel
theorem d_MO_neverTold_93 : decode s_MO_neverTold.2.1 93 = .ok (.iadd, 1) := by decide +kernel
theorem d_MO_neverTold_94 : decode s_MO_neverTold.2.1 94 = .ok (.iload 4, 2) := by decide +kernel
theorem d_MO_neverTold_96 : decode s_MO_neverTold.2.1 96 = .ok (.iastore, 1) := by decide +kernel
theorem d_MO_neverTold_97 : decode s_MO_neverTold.2.1 97 = .ok (.iinc 2 1, 3) := by decide +kernel
theorem d_MO_neverTold_100 : decode s_MO_neverTold.2.1 100 = .ok (.aload_n 0, 1) := by decide +kernel
theorem d_MO_neverTold_101 : decode s_MO_neverTold.2.1 101 = .ok (.aload_n 0, 1) := by decide +kernel
theorem d_MO_neverTold_102 : decode s_MO_neverTold.2.1 102 = .ok (.getfield 45, 3) := by decide +kernel
theorem d_MO_neverTold_105 : decode s_MO_neverTold.2.1 105 = .ok (.invokevirtual 243, 3) := by decide +kernel
theorem d_MO_neverTold_108 : decode s_MO_neverTold.2.1 108 = .ok (.ifCond .ne (-93), 3) := by decide +kernel
theorem d_MO_neverTold_111 : decode s_MO_neverTold.2.1 111 = .ok (.aload_n 0, 1) := by decide +kernel
theorem d_MO_neverTold_112 : decode s_MO_neverTold.2.1 112 = .ok (.getfield 78, 3) := by decide +kernel
theorem d_MO_neverTold_115 : decode s_MO_neverTold.2.1 115 = .ok (.iload_n 1, 1) := by decide +kernel
theorem d_MO_neverTold_116 : decode s_MO_neverTold.2.1 116 = .ok (.iload_n 2, 1) := by decide +kernel
theorem d_MO_neverTold_117 : decode s_MO_neverTold.2.1 117 = .ok (.iastore, 1) := by decide +kernel
theorem d_MO_neverTold_118 : decode s_MO_neverTold.2.1 118 = .ok (.aload_n 0, 1) := by decide +kernel
theorem d_MO_neverTold_119 : decode s_MO_neverTold.2.1 119 = .ok (.getfield 78, 3) := by decide +kernel
theorem d_MO_neverTold_122 : decode s_MO_neverTold.2.1 122 = .ok (.iconst 5, 1) := by decide +kernel
theorem d_MO_neverTold_123 : decode s_MO_neverTold.2.1 123 = .ok (.dup2, 1) := by decide +kernel
theorem d_MO_neverTold_124 : decode s_MO_neverTold.2.1 124 = .ok (.iaload, 1) := by decide +kernel
theorem d_MO_neverTold_125 : decode s_MO_neverTold.2.1 125 = .ok (.iconst 1, 1) := by decide +kernel
theorem d_MO_neverTold_126 : decode s_MO_neverTold.2.1 126 = .ok (.iadd, 1) := by decide +kernel
theorem d_MO_neverTold_127 : decode s_MO_neverTold.2.1 127 = .ok (.iastore, 1) := by decide +kernel
theorem d_MO_neverTold_128 : decode s_MO_neverTold.2.1 128 = .ok (.return_, 1) := by decide +kernel
theorem d_MO_ruleField_0 : decode s_MO_ruleField.2.1 0 = .ok (.aload_n 0, 1) := by decide +kernel
theorem d_MO_ruleField_1 : decode s_MO_ruleField.2.1 1 = .ok (.getfield 217, 3) := by decide +kernel
theorem d_MO_ruleField_4 : decode s_MO_ruleField.2.1 4 = .ok (.ifCond .ne 24, 3) := by decide +kernel
theorem d_MO_ruleField_7 : decode s_MO_ruleField.2.1 7 = .ok (.aload_n 0, 1) := by decide +kernel
theorem d_MO_ruleField_8 : decode s_MO_ruleField.2.1 8 = .ok (.getfield 78, 3) := by decide +kernel
theorem d_MO_ruleField_11 : decode s_MO_ruleField.2.1 11 = .ok (.bipush 56, 2) := by decide +kernel
theorem d_MO_ruleField_13 : decode s_MO_ruleField.2.1 13 = .ok (.bipush 8, 2) := by decide +kernel
theorem d_MO_ruleField_15 : decode s_MO_ruleField.2.1 15 = .ok (.aload_n 0, 1) := by decide +kernel
theorem d_MO_ruleField_16 : decode s_MO_ruleField.2.1 16 = .ok (.getfield 78, 3) := by decide +kernel
theorem d_MO_ruleField_19 : decode s_MO_ruleField.2.1 19 = .ok (.bipush 8, 2) := by decide +kernel
theorem d_MO_ruleField_21 : decode s_MO_ruleField.2.1 21 = .ok (.iaload, 1) := by decide +kernel
theorem d_MO_ruleField_22 : decode s_MO_ruleField.2.1 22 = .ok (.imul, 1) := by decide +kernel
theorem d_MO_ruleField_23 : decode s_MO_ruleField.2.1 23 = .ok (.iadd, 1) := by decide +kernel
theorem d_MO_ruleField_24 : decode s_MO_ruleField.2.1 24 = .ok (.iload_n 1, 1) := by decide +kernel
theorem d_MO_ruleField_25 : decode s_MO_ruleField.2.1 25 = .ok (.iadd, 1) := by decide +kernel
theorem d_MO_ruleField_26 : decode s_MO_ruleField.2.1 26 = .ok (.iload_n 2, 1) := by decide +kernel
theorem d_MO_ruleField_27 : decode s_MO_ruleField.2.1 27 = .ok (.iastore, 1) := by decide +kernel
theorem d_MO_ruleField_28 : decode s_MO_ruleField.2.1 28 = .ok (.return_, 1) := by decide +kernel
theorem d_MO_onTold_0 : decode s_MO_onTold.2.1 0 = .ok (.iconst 0, 1) := by decide +kernel
theorem d_MO_onTold_1 : decode s_MO_onTold.2.1 1 = .ok (.istore_n 1, 1) := by decide +kernel
theorem d_MO_onTold_2 : decode s_MO_onTold.2.1 2 = .ok (.iload_n 1, 1) := by decide +kernel
theorem d_MO_onTold_3 : decode s_MO_onTold.2.1 3 = .ok (.bipush 8, 2) := by decide +kernel
theorem d_MO_onTold_5 : decode s_MO_onTold.2.1 5 = .ok (.if_icmp .ge 29, 3) := by decide +kernel
theorem d_MO_onTold_8 : decode s_MO_onTold.2.1 8 = .ok (.aload_n 0, 1) := by decide +kernel
theorem d_MO_onTold_9 : decode s_MO_onTold.2.1 9 = .ok (.iload_n 1, 1) := by decide +kernel
theorem d_MO_onTold_10 : decode s_MO_onTold.2.1 10 = .ok (.iload_n 1, 1) := by decide +kernel
theorem d_MO_onTold_11 : decode s_MO_onTold.2.1 11 = .ok (.ifCond .eq 9, 3) := by decide +kernel
theorem d_MO_onTold_14 : decode s_MO_onTold.2.1 14 = .ok (.iload_n 1, 1) := by decide +kernel
theorem d_MO_onTold_15 : decode s_MO_onTold.2.1 15 = .ok (.bipush 7, 2) := by decide +kernel
theorem d_MO_onTold_17 : decode s_MO_onTold.2.1 17 = .ok (.if_icmp .ne 7, 3) := by decide +kernel
theorem d_MO_onTold_20 : decode s_MO_onTold.2.1 20 = .ok (.iconst 0, 1) := by decide +kernel
theorem d_MO_onTold_21 : decode s_MO_onTold.2.1 21 = .ok (.goto 4, 3) := by decide +kernel
theorem d_MO_onTold_24 : decode s_MO_onTold.2.1 24 = .ok (.iconst (-1), 1) := by decide +kernel
theorem d_MO_onTold_25 : decode s_MO_onTold.2.1 25 = .ok (.invokevirtual 279, 3) := by decide +kernel
theorem d_MO_onTold_28 : decode s_MO_onTold.2.1 28 = .ok (.iinc 1 1, 3) := by decide +kernel
theorem d_MO_onTold_31 : decode s_MO_onTold.2.1 31 = .ok (.goto (-29), 3) := by decide +kernel
theorem d_MO_onTold_34 : decode s_MO_onTold.2.1 34 = .ok (.aload_n 0, 1) := by decide +kernel
theorem d_MO_onTold_35 : decode s_MO_onTold.2.1 35 = .ok (.iconst 1, 1) := by decide +kernel
theorem d_MO_onTold_36 : decode s_MO_onTold.2.1 36 = .ok (.aload_n 0, 1) := by decide +kernel
theorem d_MO_onTold_37 : decode s_MO_onTold.2.1 37 = .ok (.iconst 0, 1) := by decide +kernel
theorem d_MO_onTold_38 : decode s_MO_onTold.2.1 38 = .ok (.invokevirtual 276, 3) := by decide +kernel
theorem d_MO_onTold_41 : decode s_MO_onTold.2.1 41 = .ok (.invokevirtual 279, 3) := by decide +kernel
theorem d_MO_onTold_44 : decode s_MO_onTold.2.1 44 = .ok (.aload_n 0, 1) := by decide +kernel
theorem d_MO_onTold_45 : decode s_MO_onTold.2.1 45 = .ok (.aload_n 0, 1) := by decide +kernel
theorem d_MO_onTold_46 : decode s_MO_onTold.2.1 46 = .ok (.getfield 54, 3) := by decide +kernel
theorem d_MO_onTold_49 : decode s_MO_onTold.2.1 49 = .ok (.invokevirtual 243, 3) := by decide +kernel
theorem d_MO_onTold_52 : decode s_MO_onTold.2.1 52 = .ok (.ifCond .eq 13, 3) := by decide +kernel
theorem d_MO_onTold_55 : decode s_MO_onTold.2.1 55 = .ok (.aload_n 0, 1) := by decide +kernel
theorem d_MO_onTold_56 : decode s_MO_onTold.2.1 56 = .ok (.iconst 2, 1) := by decide +kernel
theorem d_MO_onTold_57 : decode s_MO_onTold.2.1 57 = .ok (.aload_n 0, 1) := by decide +kernel
theorem d_MO_onTold_58 : decode s_MO_onTold.2.1 58 = .ok (.iconst 2, 1) := by decide +kernel
theorem d_MO_onTold_59 : decode s_MO_onTold.2.1 59 = .ok (.invokevirtual 276, 3) := by decide +kernel
theorem d_MO_onTold_62 : decode s_MO_onTold.2.1 62 = .ok (.invokevirtual 279, 3) := by decide +kernel
theorem d_MO_onTold_65 : decode s_MO_onTold.2.1 65 = .ok (.aload_n 0, 1) := by decide +kernel
theorem d_MO_onTold_66 : decode s_MO_onTold.2.1 66 = .ok (.aload_n 0, 1) := by decide +kernel
theorem d_MO_onTold_67 : decode s_MO_onTold.2.1 67 = .ok (.getfield 57, 3) := by decide +kernel
theorem d_MO_onTold_70 : decode s_MO_onTold.2.1 70 = .ok (.invokevirtual 282, 3) := by decide +kernel
theorem d_MO_onTold_73 : decode s_MO_onTold.2.1 73 = .ok (.aload_n 0, 1) := by decide +kernel
theorem d_MO_onTold_74 : decode s_MO_onTold.2.1 74 = .ok (.iconst 3, 1) := by decide +kernel
theorem d_MO_onTold_75 : decode s_MO_onTold.2.1 75 = .ok (.aload_n 0, 1) := by decide +kernel
theorem d_MO_onTold_76 : decode s_MO_onTold.2.1 76 = .ok (.iconst 0, 1) := by decide +kernel
theorem d_MO_onTold_77 : decode s_MO_onTold.2.1 77 = .ok (.invokevirtual 276, 3) := by decide +kernel
theorem d_MO_onTold_80 : decode s_MO_onTold.2.1 80 = .ok (.invokevirtual 279, 3) := by decide +kernel
theorem d_MO_onTold_83 : decode s_MO_onTold.2.1 83 = .ok (.aload_n 0, 1) := by decide +kernel
theorem d_MO_onTold_84 : decode s_MO_onTold.2.1 84 = .ok (.aload_n 0, 1) := by decide +kernel
theorem d_MO_onTold_85 : decode s_MO_onTold.2.1 85 = .ok (.getfield 60, 3) := by decide +kernel
theorem d_MO_onTold_88 : decode s_MO_onTold.2.1 88 = .ok (.invokevirtual 243, 3) := by decide +kernel
theorem d_MO_onTold_91 : decode s_MO_onTold.2.1 91 = .ok (.ifCond .eq 13, 3) := by decide +kernel
theorem d_MO_onTold_94 : decode s_MO_onTold.2.1 94 = .ok (.aload_n 0, 1) := by decide +kernel
theorem d_MO_onTold_95 : decode s_MO_onTold.2.1 95 = .ok (.iconst 4, 1) := by decide +kernel
theorem d_MO_onTold_96 : decode s_MO_onTold.2.1 96 = .ok (.aload_n 0, 1) := by decide +kernel
theorem d_MO_onTold_97 : decode s_MO_onTold.2.1 97 = .ok (.iconst 2, 1) := by decide +kernel
theorem d_MO_onTold_98 : decode s_MO_onTold.2.1 98 = .ok (.invokevirtual 276, 3) := by decide +kernel
theorem d_MO_onTold_101 : decode s_MO_onTold.2.1 101 = .ok (.invokevirtual 279, 3) := by decide +kernel
theorem d_MO_onTold_104 : decode s_MO_onTold.2.1 104 = .ok (.aload_n 0, 1) := by decide +kernel
theorem d_MO_onTold_105 : decode s_MO_onTold.2.1 105 = .ok (.getfield 78, 3) := by decide +kernel
theorem d_MO_onTold_108 : decode s_MO_onTold.2.1 108 = .ok (.bipush 8, 2) := by decide +kernel
theorem d_MO_onTold_110 : decode s_MO_onTold.2.1 110 = .ok (.dup2, 1) := by decide +kernel
theorem d_MO_onTold_111 : decode s_MO_onTold.2.1 111 = .ok (.iaload, 1) := by decide +kernel
theorem d_MO_onTold_112 : decode s_MO_onTold.2.1 112 = .ok (.iconst 1, 1) := by decide +kernel
theorem d_MO_onTold_113 : decode s_MO_onTold.2.1 113 = .ok (.iadd, 1) := by decide +kernel
theorem d_MO_onTold_114 : decode s_MO_onTold.2.1 114 = .ok (.iastore, 1) := by decide +kernel
theorem d_MO_onTold_115 : decode s_MO_onTold.2.1 115 = .ok (.return_, 1) := by decide +kernel
theorem d_MO_atTold_0 : decode s_MO_atTold.2.1 0 = .ok (.iconst 0, 1) := by decide +kernel
theorem d_MO_atTold_1 : decode s_MO_atTold.2.1 1 = .ok (.istore_n 1, 1) := by decide +kernel
theorem d_MO_atTold_2 : decode s_MO_atTold.2.1 2 = .ok (.iload_n 1, 1) := by decide +kernel
theorem d_MO_atTold_3 : decode s_MO_atTold.2.1 3 = .ok (.bipush 8, 2) := by decide +kernel
theorem d_MO_atTold_5 : decode s_MO_atTold.2.1 5 = .ok (.if_icmp .ge 33, 3) := by decide +kernel
theorem d_MO_atTold_8 : decode s_MO_atTold.2.1 8 = .ok (.aload_n 0, 1) := by decide +kernel
theorem d_MO_atTold_9 : decode s_MO_atTold.2.1 9 = .ok (.iload_n 1, 1) := by decide +kernel
theorem d_MO_atTold_10 : decode s_MO_atTold.2.1 10 = .ok (.iload_n 1, 1) := by decide +kernel
theorem d_MO_atTold_11 : decode s_MO_atTold.2.1 11 = .ok (.ifCond .ne 7, 3) := by decide +kernel
theorem d_MO_atTold_14 : decode s_MO_atTold.2.1 14 = .ok (.iconst 1, 1) := by decide +kernel
theorem d_MO_atTold_15 : decode s_MO_atTold.2.1 15 = .ok (.goto 14, 3) := by decide +kernel
theorem d_MO_atTold_18 : decode s_MO_atTold.2.1 18 = .ok (.iload_n 1, 1) := by decide +kernel
theorem d_MO_atTold_19 : decode s_MO_atTold.2.1 19 = .ok (.bipush 7, 2) := by decide +kernel
theorem d_MO_atTold_21 : decode s_MO_atTold.2.1 21 = .ok (.if_icmp .ne 7, 3) := by decide +kernel
theorem d_MO_atTold_24 : decode s_MO_atTold.2.1 24 = .ok (.iconst 0, 1) := by decide +kernel
theorem d_MO_atTold_25 : decode s_MO_atTold.2.1 25 = .ok (.goto 4, 3) := by decide +kernel
theorem d_MO_atTold_28 : decode s_MO_atTold.2.1 28 = .ok (.iconst (-1), 1) := by decide +kernel
theorem d_MO_atTold_29 : decode s_MO_atTold.2.1 29 = .ok (.invokevirtual 279, 3) := by decide +kernel
theorem d_MO_atTold_32 : decode s_MO_atTold.2.1 32 = .ok (.iinc 1 1, 3) := by decide +kernel
theorem d_MO_atTold_35 : decode s_MO_atTold.2.1 35 = .ok (.goto (-33), 3) := by decide +kernel
theorem d_MO_atTold_38 : decode s_MO_atTold.2.1 38 = .ok (.aload_n 0, 1) := by decide +kernel
theorem d_MO_atTold_39 : decode s_MO_atTold.2.1 39 = .ok (.iconst 1, 1) := by decide +kernel
theorem d_MO_atTold_40 : decode s_MO_atTold.2.1 40 = .ok (.aload_n 0, 1) := by decide +kernel
theorem d_MO_atTold_41 : decode s_MO_atTold.2.1 41 = .ok (.iconst 1, 1) := by decide +kernel
theorem d_MO_atTold_42 : decode s_MO_atTold.2.1 42 = .ok (.invokevirtual 276, 3) := by decide +kernel
theorem d_MO_atTold_45 : decode s_MO_atTold.2.1 45 = .ok (.invokevirtual 279, 3) := by decide +kernel
theorem d_MO_atTold_48 : decode s_MO_atTold.2.1 48 = .ok (.aload_n 0, 1) := by decide +kernel
theorem d_MO_atTold_49 : decode s_MO_atTold.2.1 49 = .ok (.aload_n 0, 1) := by decide +kernel
theorem d_MO_atTold_50 : decode s_MO_atTold.2.1 50 = .ok (.getfield 54, 3) := by decide +kernel
theorem d_MO_atTold_53 : decode s_MO_atTold.2.1 53 = .ok (.invokevirtual 282, 3) := by decide +kernel
theorem d_MO_atTold_56 : decode s_MO_atTold.2.1 56 = .ok (.aload_n 0, 1) := by decide +kernel
theorem d_MO_atTold_57 : decode s_MO_atTold.2.1 57 = .ok (.iconst 2, 1) := by decide +kernel
theorem d_MO_atTold_58 : decode s_MO_atTold.2.1 58 = .ok (.aload_n 0, 1) := by decide +kernel
theorem d_MO_atTold_59 : decode s_MO_atTold.2.1 59 = .ok (.iconst 2, 1) := by decide +kernel
theorem d_MO_atTold_60 : decode s_MO_atTold.2.1 60 = .ok (.invokevirtual 276, 3) := by decide +kernel
theorem d_MO_atTold_63 : decode s_MO_atTold.2.1 63 = .ok (.invokevirtual 279, 3) := by decide +kernel
theorem d_MO_atTold_66 : decode s_MO_atTold.2.1 66 = .ok (.aload_n 0, 1) := by decide +kernel
theorem d_MO_atTold_67 : decode s_MO_atTold.2.1 67 = .ok (.aload_n 0, 1) := by decide +kernel
theorem d_MO_atTold_68 : decode s_MO_atTold.2.1 68 = .ok (.getfield 57, 3) := by decide +kernel
theorem d_MO_atTold_71 : decode s_MO_atTold.2.1 71 = .ok (.invokevirtual 282, 3) := by decide +kernel
theorem d_MO_atTold_74 : decode s_MO_atTold.2.1 74 = .ok (.aload_n 0, 1) := by decide +kernel
theorem d_MO_atTold_75 : decode s_MO_atTold.2.1 75 = .ok (.iconst 3, 1) := by decide +kernel
theorem d_MO_atTold_76 : decode s_MO_atTold.2.1 76 = .ok (.aload_n 0, 1) := by decide +kernel
theorem d_MO_atTold_77 : decode s_MO_atTold.2.1 77 = .ok (.iconst 1, 1) := by decide +kernel
theorem d_MO_atTold_78 : decode s_MO_atTold.2.1 78 = .ok (.invokevirtual 276, 3) := by decide +kernel
theorem d_MO_atTold_81 : decode s_MO_atTold.2.1 81 = .ok (.invokevirtual 279, 3) := by decide +kernel
theorem d_MO_atTold_84 : decode s_MO_atTold.2.1 84 = .ok (.aload_n 0, 1) := by decide +kernel
theorem d_MO_atTold_85 : decode s_MO_atTold.2.1 85 = .ok (.aload_n 0, 1) := by decide +kernel
theorem d_MO_atTold_86 : decode s_MO_atTold.2.1 86 = .ok (.getfield 66, 3) := by decide +kernel
theorem d_MO_atTold_89 : decode s_MO_atTold.2.1 89 = .ok (.invokevirtual 243, 3) := by decide +kernel
theorem d_MO_atTold_92 : decode s_MO_atTold.2.1 92 = .ok (.ifCond .eq 13, 3) := by decide +kernel
theorem d_MO_atTold_95 : decode s_MO_atTold.2.1 95 = .ok (.aload_n 0, 1) := by decide +kernel
theorem d_MO_atTold_96 : decode s_MO_atTold.2.1 96 = .ok (.iconst 4, 1) := by decide +kernel
theorem d_MO_atTold_97 : decode s_MO_atTold.2.1 97 = .ok (.aload_n 0, 1) := by decide +kernel
theorem d_MO_atTold_98 : decode s_MO_atTold.2.1 98 = .ok (.iconst 2, 1) := by decide +kernel
theorem d_MO_atTold_99 : decode s_MO_atTold.2.1 99 = .ok (.invokevirtual 276, 3) := by decide +kernel
theorem d_MO_atTold_102 : decode s_MO_atTold.2.1 102 = .ok (.invokevirtual 279, 3) := by decide +kernel
theorem d_MO_atTold_105 : decode s_MO_atTold.2.1 105 = .ok (.aload_n 0, 1) := by decide +kernel
theorem d_MO_atTold_106 : decode s_MO_atTold.2.1 106 = .ok (.aload_n 0, 1) := by decide +kernel
theorem d_MO_atTold_107 : decode s_MO_atTold.2.1 107 = .ok (.getfield 69, 3) := by decide +kernel
theorem d_MO_atTold_110 : decode s_MO_atTold.2.1 110 = .ok (.invokevirtual 243, 3) := by decide +kernel
theorem d_MO_atTold_113 : decode s_MO_atTold.2.1 113 = .ok (.ifCond .eq 13, 3) := by decide +kernel
theorem d_MO_atTold_116 : decode s_MO_atTold.2.1 116 = .ok (.aload_n 0, 1) := by decide +kernel
theorem d_MO_atTold_117 : decode s_MO_atTold.2.1 117 = .ok (.iconst 5, 1) := by decide +kernel
theorem d_MO_atTold_118 : decode s_MO_atTold.2.1 118 = .ok (.aload_n 0, 1) := by decide +kernel
theorem d_MO_atTold_119 : decode s_MO_atTold.2.1 119 = .ok (.iconst 2, 1) := by decide +kernel
theorem d_MO_atTold_120 : decode s_MO_atTold.2.1 120 = .ok (.invokevirtual 276, 3) := by decide +kernel
theorem d_MO_atTold_123 : decode s_MO_atTold.2.1 123 = .ok (.invokevirtual 279, 3) := by decide +kernel
theorem d_MO_atTold_126 : decode s_MO_atTold.2.1 126 = .ok (.aload_n 0, 1) := by decide +kernel
theorem d_MO_atTold_127 : decode s_MO_atTold.2.1 127 = .ok (.aload_n 0, 1) := by decide +kernel
theorem d_MO_atTold_128 : decode s_MO_atTold.2.1 128 = .ok (.getfield 72, 3) := by decide +kernel
theorem d_MO_atTold_131 : decode s_MO_atTold.2.1 131 = .ok (.invokevirtual 243, 3) := by decide +kernel
theorem d_MO_atTold_134 : decode s_MO_atTold.2.1 134 = .ok (.ifCond .eq 17, 3) := by decide +kernel
theorem d_MO_atTold_137 : decode s_MO_atTold.2.1 137 = .ok (.aload_n 0, 1) := by decide +kernel
theorem d_MO_atTold_138 : decode s_MO_atTold.2.1 138 = .ok (.bipush 6, 2) := by decide +kernel
theorem d_MO_atTold_140 : decode s_MO_atTold.2.1 140 = .ok (.aload_n 0, 1) := by decide +kernel
theorem d_MO_atTold_141 : decode s_MO_atTold.2.1 141 = .ok (.iconst 0, 1) := by decide +kernel
theorem d_MO_atTold_142 : decode s_MO_atTold.2.1 142 = .ok (.invokevirtual 276, 3) := by decide +kernel
theorem d_MO_atTold_145 : decode s_MO_atTold.2.1 145 = .ok (.invokevirtual 279, 3) := by decide +kernel
theorem d_MO_atTold_148 : decode s_MO_atTold.2.1 148 = .ok (.goto 32, 3) := by decide +kernel
theorem d_MO_atTold_151 : decode s_MO_atTold.2.1 151 = .ok (.aload_n 0, 1) := by decide +kernel
theorem d_MO_atTold_152 : decode s_MO_atTold.2.1 152 = .ok (.aload_n 0, 1) := by decide +kernel
theorem d_MO_atTold_153 : decode s_MO_atTold.2.1 153 = .ok (.getfield 75, 3) := by decide +kernel
theorem d_MO_atTold_156 : decode s_MO_atTold.2.1 156 = .ok (.invokevirtual 243, 3) := by decide +kernel
theorem d_MO_atTold_159 : decode s_MO_atTold.2.1 159 = .ok (.ifCond .eq 21, 3) := by decide +kernel
theorem d_MO_atTold_162 : decode s_MO_atTold.2.1 162 = .ok (.aload_n 0, 1) := by decide +kernel
theorem d_MO_atTold_163 : decode s_MO_atTold.2.1 163 = .ok (.bipush 6, 2) := by decide +kernel
theorem d_MO_atTold_165 : decode s_MO_atTold.2.1 165 = .ok (.aload_n 0, 1) := by decide +kernel
theorem d_MO_atTold_166 : decode s_MO_atTold.2.1 166 = .ok (.iconst 0, 1) := by decide +kernel
theorem d_MO_atTold_167 : decode s_MO_atTold.2.1 167 = .ok (.invokevirtual 276, 3) := by decide +kernel
theorem d_MO_atTold_170 : decode s_MO_atTold.2.1 170 = .ok (.invokevirtual 279, 3) := by decide +kernel
theorem d_MO_atTold_173 : decode s_MO_atTold.2.1 173 = .ok (.aload_n 0, 1) := by decide +kernel
theorem d_MO_atTold_174 : decode s_MO_atTold.2.1 174 = .ok (.bipush 7, 2) := by decide +kernel
theorem d_MO_atTold_176 : decode s_MO_atTold.2.1 176 = .ok (.iconst 1, 1) := by decide +kernel
theorem d_MO_atTold_177 : decode s_MO_atTold.2.1 177 = .ok (.invokevirtual 279, 3) := by decide +kernel
theorem d_MO_atTold_180 : decode s_MO_atTold.2.1 180 = .ok (.aload_n 0, 1) := by decide +kernel
theorem d_MO_atTold_181 : decode s_MO_atTold.2.1 181 = .ok (.getfield 78, 3) := by decide +kernel
theorem d_MO_atTold_184 : decode s_MO_atTold.2.1 184 = .ok (.bipush 8, 2) := by decide +kernel
theorem d_MO_atTold_186 : decode s_MO_atTold.2.1 186 = .ok (.dup2, 1) := by decide +kernel
theorem d_MO_atTold_187 : decode s_MO_atTold.2.1 187 = .ok (.iaload, 1) := by decide +kernel
theorem d_MO_atTold_188 : decode s_MO_atTold.2.1 188 = .ok (.iconst 1, 1) := by decide +kernel
theorem d_MO_atTold_189 : decode s_MO_atTold.2.1 189 = .ok (.iadd, 1) := by decide +kernel
theorem d_MO_atTold_190 : decode s_MO_atTold.2.1 190 = .ok (.iastore, 1) := by decide +kernel
theorem d_MO_atTold_191 : decode s_MO_atTold.2.1 191 = .ok (.return_, 1) := by decide +kernel
theorem d_MO_statementTold_0 : decode s_MO_statementTold.2.1 0 = .ok (.aload_n 0, 1) := by decide +kernel
theorem d_MO_statementTold_1 : decode s_MO_statementTold.2.1 1 = .ok (.getfield 223, 3) := by decide +kernel
theorem d_MO_statementTold_4 : decode s_MO_statementTold.2.1 4 = .ok (.istore_n 1, 1) := by decide +kernel
theorem d_MO_statementTold_5 : decode s_MO_statementTold.2.1 5 = .ok (.aload_n 0, 1) := by decide +kernel
theorem d_MO_statementTold_6 : decode s_MO_statementTold.2.1 6 = .ok (.getfield 289, 3) := by decide +kernel
theorem d_MO_statementTold_9 : decode s_MO_statementTold.2.1 9 = .ok (.bipush 60, 2) := by decide +kernel
theorem d_MO_statementTold_11 : decode s_MO_statementTold.2.1 11 = .ok (.if_icmp .ne 10, 3) := by decide +kernel
theorem d_MO_statementTold_14 : decode s_MO_statementTold.2.1 14 = .ok (.aload_n 0, 1) := by decide +kernel
theorem d_MO_statementTold_15 : decode s_MO_statementTold.2.1 15 = .ok (.iconst 5, 1) := by decide +kernel
theorem d_MO_statementTold_16 : decode s_MO_statementTold.2.1 16 = .ok (.iload_n 1, 1) := by decide +kernel
theorem d_MO_statementTold_17 : decode s_MO_statementTold.2.1 17 = .ok (.invokevirtual 246, 3) := by decide +kernel
theorem d_MO_statementTold_20 : decode s_MO_statementTold.2.1 20 = .ok (.return_, 1) := by decide +kernel
theorem d_MO_statementTold_21 : decode s_MO_statementTold.2.1 21 = .ok (.aload_n 0, 1) := by decide +kernel
theorem d_MO_statementTold_22 : decode s_MO_statementTold.2.1 22 = .ok (.aload_n 0, 1) := by decide +kernel
theorem d_MO_statementTold_23 : decode s_MO_statementTold.2.1 23 = .ok (.getfield 27, 3) := by decide +kernel
theorem d_MO_statementTold_26 : decode s_MO_statementTold.2.1 26 = .ok (.iconst 1, 1) := by decide +kernel
theorem d_MO_statementTold_27 : decode s_MO_statementTold.2.1 27 = .ok (.iload_n 1, 1) := by decide +kernel
theorem d_MO_statementTold_28 : decode s_MO_statementTold.2.1 28 = .ok (.invokevirtual 292, 3) := by decide +kernel
theorem d_MO_statementTold_31 : decode s_MO_statementTold.2.1 31 = .ok (.ifCond .eq 11, 3) := by decide +kernel
theorem d_MO_statementTold_34 : decode s_MO_statementTold.2.1 34 = .ok (.aload_n 0, 1) := by decide +kernel
theorem d_MO_statementTold_35 : decode s_MO_statementTold.2.1 35 = .ok (.iconst 1, 1) := by decide +kernel
theorem d_MO_statementTold_36 : decode s_MO_statementTold.2.1 36 = .ok (.invokevirtual 296, 3) := by decide +kernel
theorem d_MO_statementTold_39 : decode s_MO_statementTold.2.1 39 = .ok (.goto 240, 3) := by decide +kernel
theorem d_MO_statementTold_42 : decode s_MO_statementTold.2.1 42 = .ok (.aload_n 0, 1) := by decide +kernel
theorem d_MO_statementTold_43 : decode s_MO_statementTold.2.1 43 = .ok (.aload_n 0, 1) := by decide +kernel
theorem d_MO_statementTold_44 : decode s_MO_statementTold.2.1 44 = .ok (.getfield 30, 3) := by decide +kernel
theorem d_MO_statementTold_47 : decode s_MO_statementTold.2.1 47 = .ok (.iconst 2, 1) := by decide +kernel
theorem d_MO_statementTold_48 : decode s_MO_statementTold.2.1 48 = .ok (.iload_n 1, 1) := by decide +kernel
theorem d_MO_statementTold_49 : decode s_MO_statementTold.2.1 49 = .ok (.invokevirtual 292, 3) := by decide +kernel
theorem d_MO_statementTold_52 : decode s_MO_statementTold.2.1 52 = .ok (.ifCond .eq 11, 3) := by decide +kernel
theorem d_MO_statementTold_55 : decode s_MO_statementTold.2.1 55 = .ok (.aload_n 0, 1) := by decide +kernel
theorem d_MO_statementTold_56 : decode s_MO_statementTold.2.1 56 = .ok (.iconst 2, 1) := by decide +kernel
theorem d_MO_statementTold_57 : decode s_MO_statementTold.2.1 57 = .ok (.invokevirtual 296, 3) := by decide +kernel
theorem d_MO_statementTold_60 : decode s_MO_statementTold.2.1 60 = .ok (.goto 219, 3) := by decide +kernel
theorem d_MO_statementTold_63 : decode s_MO_statementTold.2.1 63 = .ok (.aload_n 0, 1) := by decide +kernel
theorem d_MO_statementTold_64 : decode s_MO_statementTold.2.1 64 = .ok (.aload_n 0, 1) := by decide +kernel
theorem d_MO_statementTold_65 : decode s_MO_statementTold.2.1 65 = .ok (.getfield 48, 3) := by decide +kernel
theorem d_MO_statementTold_68 : decode s_MO_statementTold.2.1 68 = .ok (.iconst 4, 1) := by decide +kernel
theorem d_MO_statementTold_69 : decode s_MO_statementTold.2.1 69 = .ok (.iload_n 1, 1) := by decide +kernel
theorem d_MO_statementTold_70 : decode s_MO_statementTold.2.1 70 = .ok (.invokevirtual 292, 3) := by decide +kernel
theorem d_MO_statementTold_73 : decode s_MO_statementTold.2.1 73 = .ok (.ifCond .eq 30, 3) := by decide +kernel
theorem d_MO_statementTold_76 : decode s_MO_statementTold.2.1 76 = .ok (.aload_n 0, 1) := by decide +kernel
theorem d_MO_statementTold_77 : decode s_MO_statementTold.2.1 77 = .ok (.getfield 78, 3) := by decide +kernel
theorem d_MO_statementTold_80 : decode s_MO_statementTold.2.1 80 = .ok (.bipush 6, 2) := by decide +kernel
theorem d_MO_statementTold_82 : decode s_MO_statementTold.2.1 82 = .ok (.aload_n 0, 1) := by decide +kernel
theorem d_MO_statementTold_83 : decode s_MO_statementTold.2.1 83 = .ok (.iconst 0, 1) := by decide +kernel
theorem d_MO_statementTold_84 : decode s_MO_statementTold.2.1 84 = .ok (.invokevirtual 276, 3) := by decide +kernel
theorem d_MO_statementTold_87 : decode s_MO_statementTold.2.1 87 = .ok (.iastore, 1) := by decide +kernel
theorem d_MO_statementTold_88 : decode s_MO_statementTold.2.1 88 = .ok (.aload_n 0, 1) := by decide +kernel
theorem d_MO_statementTold_89 : decode s_MO_statementTold.2.1 89 = .ok (.getfield 78, 3) := by decide +kernel
theorem d_MO_statementTold_92 : decode s_MO_statementTold.2.1 92 = .ok (.bipush 7, 2) := by decide +kernel
theorem d_MO_statementTold_94 : decode s_MO_statementTold.2.1 94 = .ok (.aload_n 0, 1) := by decide +kernel
theorem d_MO_statementTold_95 : decode s_MO_statementTold.2.1 95 = .ok (.iconst 0, 1) := by decide +kernel
theorem d_MO_statementTold_96 : decode s_MO_statementTold.2.1 96 = .ok (.invokevirtual 276, 3) := by decide +kernel
theorem d_MO_statementTold_99 : decode s_MO_statementTold.2.1 99 = .ok (.iastore, 1) := by decide +kernel
theorem d_MO_statementTold_100 : decode s_MO_statementTold.2.1 100 = .ok (.goto 179, 3) := by decide +kernel
theorem d_MO_statementTold_103 : decode s_MO_statementTold.2.1 103 = .ok (.aload_n 0, 1) := by decide +kernel
theorem d_MO_statementTold_104 : decode s_MO_statementTold.2.1 104 = .ok (.aload_n 0, 1) := by decide +kernel
theorem d_MO_statementTold_105 : decode s_MO_statementTold.2.1 105 = .ok (.getfield 33, 3) := by decide +kernel
theorem d_MO_statementTold_108 : decode s_MO_statementTold.2.1 108 = .ok (.invokevirtual 243, 3) := by decide +kernel
theorem d_MO_statementTold_111 : decode s_MO_statementTold.2.1 111 = .ok (.ifCond .eq 45, 3) := by decide +kernel
theorem d_MO_statementTold_114 : decode s_MO_statementTold.2.1 114 = .ok (.aload_n 0, 1) := by decide +kernel
theorem d_MO_statementTold_115 : decode s_MO_statementTold.2.1 115 = .ok (.getfield 78, 3) := by decide +kernel
theorem d_MO_statementTold_118 : decode s_MO_statementTold.2.1 118 = .ok (.iconst 4, 1) := by decide +kernel
theorem d_MO_statementTold_119 : decode s_MO_statementTold.2.1 119 = .ok (.aload_n 0, 1) := by decide +kernel
theorem d_MO_statementTold_120 : decode s_MO_statementTold.2.1 120 = .ok (.aload_n 0, 1) := by decide +kernel
theorem d_MO_statementTold_121 : decode s_MO_statementTold.2.1 121 = .ok (.getfield 39, 3) := by decide +kernel
theorem d_MO_statementTold_124 : decode s_MO_statementTold.2.1 124 = .ok (.invokevirtual 243, 3) := by decide +kernel
theorem d_MO_statementTold_127 : decode s_MO_statementTold.2.1 127 = .ok (.ifCond .eq 7, 3) := by decide +kernel
theorem d_MO_statementTold_130 : decode s_MO_statementTold.2.1 130 = .ok (.iconst 1, 1) := by decide +kernel
theorem d_MO_statementTold_131 : decode s_MO_statementTold.2.1 131 = .ok (.goto 4, 3) := by decide +kernel
theorem d_MO_statementTold_134 : decode s_MO_statementTold.2.1 134 = .ok (.iconst 0, 1) := by decide +kernel
theorem d_MO_statementTold_135 : decode s_MO_statementTold.2.1 135 = .ok (.iastore, 1) := by decide +kernel
theorem d_MO_statementTold_136 : decode s_MO_statementTold.2.1 136 = .ok (.aload_n 0, 1) := by decide +kernel
theorem d_MO_statementTold_137 : decode s_MO_statementTold.2.1 137 = .ok (.getfield 78, 3) := by decide +kernel
theorem d_MO_statementTold_140 : decode s_MO_statementTold.2.1 140 = .ok (.iconst 4, 1) := by decide +kernel
theorem d_MO_statementTold_141 : decode s_MO_statementTold.2.1 141 = .ok (.iaload, 1) := by decide +kernel
theorem d_MO_statementTold_142 : decode s_MO_statementTold.2.1 142 = .ok (.ifCond .ne 137, 3) := by decide +kernel
theorem d_MO_statementTold_145 : decode s_MO_statementTold.2.1 145 = .ok (.aload_n 0, 1) := by decide +kernel
theorem d_MO_statementTold_146 : decode s_MO_statementTold.2.1 146 = .ok (.aload_n 0, 1) := by decide +kernel
theorem d_MO_statementTold_147 : decode s_MO_statementTold.2.1 147 = .ok (.getfield 36, 3) := by decide +kernel
theorem d_MO_statementTold_150 : decode s_MO_statementTold.2.1 150 = .ok (.invokevirtual 282, 3) := by decide +kernel
theorem d_MO_statementTold_153 : decode s_MO_statementTold.2.1 153 = .ok (.goto 126, 3) := by decide +kernel
theorem d_MO_statementTold_156 : decode s_MO_statementTold.2.1 156 = .ok (.aload_n 0, 1) := by decide +kernel
theorem d_MO_statementTold_157 : decode s_MO_statementTold.2.1 157 = .ok (.aload_n 0, 1) := by decide +kernel
theorem d_MO_statementTold_158 : decode s_MO_statementTold.2.1 158 = .ok (.getfield 42, 3) := by decide +kernel
theorem d_MO_statementTold_161 : decode s_MO_statementTold.2.1 161 = .ok (.invokevirtual 243, 3) := by decide +kernel
theorem d_MO_statementTold_164 : decode s_MO_statementTold.2.1 164 = .ok (.ifCond .eq 33, 3) := by decide +kernel
theorem d_MO_statementTold_167 : decode s_MO_statementTold.2.1 167 = .ok (.aload_n 0, 1) := by decide +kernel
theorem d_MO_statementTold_168 : decode s_MO_statementTold.2.1 168 = .ok (.getfield 78, 3) := by decide +kernel
theorem d_MO_statementTold_171 : decode s_MO_statementTold.2.1 171 = .ok (.iconst 5, 1) := by decide +kernel
theorem d_MO_statementTold_172 : decode s_MO_statementTold.2.1 172 = .ok (.iaload, 1) := by decide +kernel
theorem d_MO_statementTold_173 : decode s_MO_statementTold.2.1 173 = .ok (.iconst 4, 1) := by decide +kernel
theorem d_MO_statementTold_174 : decode s_MO_statementTold.2.1 174 = .ok (.if_icmp .ne 9, 3) := by decide +kernel
theorem d_MO_statementTold_177 : decode s_MO_statementTold.2.1 177 = .ok (.aload_n 0, 1) := by decide +kernel
theorem d_MO_statementTold_178 : decode s_MO_statementTold.2.1 178 = .ok (.iconst 5, 1) := by decide +kernel
theorem d_MO_statementTold_179 : decode s_MO_statementTold.2.1 179 = .ok (.iload_n 1, 1) := by decide +kernel
theorem d_MO_statementTold_180 : decode s_MO_statementTold.2.1 180 = .ok (.invokevirtual 246, 3) := by decide +kernel
theorem d_MO_statementTold_183 : decode s_MO_statementTold.2.1 183 = .ok (.aload_n 0, 1) := by decide +kernel
theorem d_MO_statementTold_184 : decode s_MO_statementTold.2.1 184 = .ok (.getfield 217, 3) := by decide +kernel
theorem d_MO_statementTold_187 : decode s_MO_statementTold.2.1 187 = .ok (.ifCond .ne 92, 3) := by decide +kernel
theorem d_MO_statementTold_190 : decode s_MO_statementTold.2.1 190 = .ok (.aload_n 0, 1) := by decide +kernel
theorem d_MO_statementTold_191 : decode s_MO_statementTold.2.1 191 = .ok (.invokevirtual 300, 3) := by decide +kernel
theorem d_MO_statementTold_194 : decode s_MO_statementTold.2.1 194 = .ok (.goto 85, 3) := by decide +kernel
theorem d_MO_statementTold_197 : decode s_MO_statementTold.2.1 197 = .ok (.aload_n 0, 1) := by decide +kernel
theorem d_MO_statementTold_198 : decode s_MO_statementTold.2.1 198 = .ok (.aload_n 0, 1) := by decide +kernel
theorem d_MO_statementTold_199 : decode s_MO_statementTold.2.1 199 = .ok (.getfield 51, 3) := by decide +kernel
theorem d_MO_statementTold_202 : decode s_MO_statementTold.2.1 202 = .ok (.invokevirtual 239, 3) := by decide +kernel
theorem d_MO_statementTold_205 : decode s_MO_statementTold.2.1 205 = .ok (.ifCond .ne 14, 3) := by decide +kernel
theorem d_MO_statementTold_208 : decode s_MO_statementTold.2.1 208 = .ok (.aload_n 0, 1) := by decide +kernel
theorem d_MO_statementTold_209 : decode s_MO_statementTold.2.1 209 = .ok (.aload_n 0, 1) := by decide +kernel
theorem d_MO_statementTold_210 : decode s_MO_statementTold.2.1 210 = .ok (.getfield 63, 3) := by decide +kernel
theorem d_MO_statementTold_213 : decode s_MO_statementTold.2.1 213 = .ok (.invokevirtual 239, 3) := by decide +kernel
theorem d_MO_statementTold_216 : decode s_MO_statementTold.2.1 216 = .ok (.ifCond .eq 57, 3) := by decide +kernel
theorem d_MO_statementTold_219 : decode s_MO_statementTold.2.1 219 = .ok (.aload_n 0, 1) := by decide +kernel
theorem d_MO_statementTold_220 : decode s_MO_statementTold.2.1 220 = .ok (.getfield 78, 3) := by decide +kernel
theorem d_MO_statementTold_223 : decode s_MO_statementTold.2.1 223 = .ok (.bipush 8, 2) := by decide +kernel
theorem d_MO_statementTold_225 : decode s_MO_statementTold.2.1 225 = .ok (.iaload, 1) := by decide +kernel
theorem d_MO_statementTold_226 : decode s_MO_statementTold.2.1 226 = .ok (.bipush 16, 2) := by decide +kernel
theorem d_MO_statementTold_228 : decode s_MO_statementTold.2.1 228 = .ok (.if_icmp .ne 9, 3) := by decide +kernel
theorem d_MO_statementTold_231 : decode s_MO_statementTold.2.1 231 = .ok (.aload_n 0, 1) := by decide +kernel
theorem d_MO_statementTold_232 : decode s_MO_statementTold.2.1 232 = .ok (.iconst 5, 1) := by decide +kernel
theorem d_MO_statementTold_233 : decode s_MO_statementTold.2.1 233 = .ok (.iload_n 1, 1) := by decide +kernel
theorem d_MO_statementTold_234 : decode s_MO_statementTold.2.1 234 = .ok (.invokevirtual 246, 3) := by decide +kernel
theorem d_MO_statementTold_237 : decode s_MO_statementTold.2.1 237 = .ok (.aload_n 0, 1) := by decide +kernel
theorem d_MO_statementTold_238 : decode s_MO_statementTold.2.1 238 = .ok (.aload_n 0, 1) := by decide +kernel
theorem d_MO_statementTold_239 : decode s_MO_statementTold.2.1 239 = .ok (.getfield 51, 3) := by decide +kernel
theorem d_MO_statementTold_242 : decode s_MO_statementTold.2.1 242 = .ok (.invokevirtual 243, 3) := by decide +kernel
theorem d_MO_statementTold_245 : decode s_MO_statementTold.2.1 245 = .ok (.ifCond .eq 10, 3) := by decide +kernel
theorem d_MO_statementTold_248 : decode s_MO_statementTold.2.1 248 = .ok (.aload_n 0, 1) := by decide +kernel
theorem d_MO_statementTold_249 : decode s_MO_statementTold.2.1 249 = .ok (.invokevirtual 303, 3) := by decide +kernel
theorem d_MO_statementTold_252 : decode s_MO_statementTold.2.1 252 = .ok (.goto 27, 3) := by decide +kernel
theorem d_MO_statementTold_255 : decode s_MO_statementTold.2.1 255 = .ok (.aload_n 0, 1) := by decide +kernel
theorem d_MO_statementTold_256 : decode s_MO_statementTold.2.1 256 = .ok (.aload_n 0, 1) := by decide +kernel
theorem d_MO_statementTold_257 : decode s_MO_statementTold.2.1 257 = .ok (.getfield 63, 3) := by decide +kernel
theorem d_MO_statementTold_260 : decode s_MO_statementTold.2.1 260 = .ok (.invokevirtual 243, 3) := by decide +kernel
theorem d_MO_statementTold_263 : decode s_MO_statementTold.2.1 263 = .ok (.ifCond .eq 16, 3) := by decide +kernel
theorem d_MO_statementTold_266 : decode s_MO_statementTold.2.1 266 = .ok (.aload_n 0, 1) := by decide +kernel
theorem d_MO_statementTold_267 : decode s_MO_statementTold.2.1 267 = .ok (.invokevirtual 306, 3) := by decide +kernel
theorem d_MO_statementTold_270 : decode s_MO_statementTold.2.1 270 = .ok (.goto 9, 3) := by decide +kernel
theorem d_MO_statementTold_273 : decode s_MO_statementTold.2.1 273 = .ok (.aload_n 0, 1) := by decide +kernel
theorem d_MO_statementTold_274 : decode s_MO_statementTold.2.1 274 = .ok (.iconst 1, 1) := by decide +kernel
theorem d_MO_statementTold_275 : decode s_MO_statementTold.2.1 275 = .ok (.iload_n 1, 1) := by decide +kernel
theorem d_MO_statementTold_276 : decode s_MO_statementTold.2.1 276 = .ok (.invokevirtual 246, 3) := by decide +kernel
theorem d_MO_statementTold_279 : decode s_MO_statementTold.2.1 279 = .ok (.aload_n 0, 1) := by decide +kernel
theorem d_MO_statementTold_280 : decode s_MO_statementTold.2.1 280 = .ok (.bipush 59, 2) := by decide +kernel
theorem d_MO_statementTold_282 : decode s_MO_statementTold.2.1 282 = .ok (.invokevirtual 309, 3) := by decide +kernel
theorem d_MO_statementTold_285 : decode s_MO_statementTold.2.1 285 = .ok (.aload_n 0, 1) := by decide +kernel
theorem d_MO_statementTold_286 : decode s_MO_statementTold.2.1 286 = .ok (.dup, 1) := by decide +kernel
theorem d_MO_statementTold_287 : decode s_MO_statementTold.2.1 287 = .ok (.getfield 289, 3) := by decide +kernel
theorem d_MO_statementTold_290 : decode s_MO_statementTold.2.1 290 = .ok (.iconst 1, 1) := by decide +kernel
theorem d_MO_statementTold_291 : decode s_MO_statementTold.2.1 291 = .ok (.iadd, 1) := by decide +kernel
theorem d_MO_statementTold_292 : decode s_MO_statementTold.2.1 292 = .ok (.putfield 289, 3) := by decide +kernel
theorem d_MO_statementTold_295 : decode s_MO_statementTold.2.1 295 = .ok (.return_, 1) := by decide +kernel
theorem d_MO_opensFirst_0 : decode s_MO_opensFirst.2.1 0 = .ok (.aload_n 0, 1) := by decide +kernel
theorem d_MO_opensFirst_1 : decode s_MO_opensFirst.2.1 1 = .ok (.aload_n 0, 1) := by decide +kernel
theorem d_MO_opensFirst_2 : decode s_MO_opensFirst.2.1 2 = .ok (.getfield 81, 3) := by decide +kernel
theorem d_MO_opensFirst_5 : decode s_MO_opensFirst.2.1 5 = .ok (.iconst 1, 1) := by decide +kernel
theorem d_MO_opensFirst_6 : decode s_MO_opensFirst.2.1 6 = .ok (.iaload, 1) := by decide +kernel
theorem d_MO_opensFirst_7 : decode s_MO_opensFirst.2.1 7 = .ok (.ifCond .le 7, 3) := by decide +kernel
theorem d_MO_opensFirst_10 : decode s_MO_opensFirst.2.1 10 = .ok (.iconst 0, 1) := by decide +kernel
theorem d_MO_opensFirst_11 : decode s_MO_opensFirst.2.1 11 = .ok (.goto 4, 3) := by decide +kernel
theorem d_MO_opensFirst_14 : decode s_MO_opensFirst.2.1 14 = .ok (.iconst (-1), 1) := by decide +kernel
theorem d_MO_opensFirst_15 : decode s_MO_opensFirst.2.1 15 = .ok (.putfield 337, 3) := by decide +kernel
theorem d_MO_opensFirst_18 : decode s_MO_opensFirst.2.1 18 = .ok (.iconst 0, 1) := by decide +kernel
theorem d_MO_opensFirst_19 : decode s_MO_opensFirst.2.1 19 = .ok (.istore_n 1, 1) := by decide +kernel
theorem d_MO_opensFirst_20 : decode s_MO_opensFirst.2.1 20 = .ok (.iload_n 1, 1) := by decide +kernel
theorem d_MO_opensFirst_21 : decode s_MO_opensFirst.2.1 21 = .ok (.iconst 4, 1) := by decide +kernel
theorem d_MO_opensFirst_22 : decode s_MO_opensFirst.2.1 22 = .ok (.if_icmp .ge 16, 3) := by decide +kernel
theorem d_MO_opensFirst_25 : decode s_MO_opensFirst.2.1 25 = .ok (.aload_n 0, 1) := by decide +kernel
theorem d_MO_opensFirst_26 : decode s_MO_opensFirst.2.1 26 = .ok (.getfield 90, 3) := by decide +kernel
theorem d_MO_opensFirst_29 : decode s_MO_opensFirst.2.1 29 = .ok (.iload_n 1, 1) := by decide +kernel
theorem d_MO_opensFirst_30 : decode s_MO_opensFirst.2.1 30 = .ok (.iconst 0, 1) := by decide +kernel
theorem d_MO_opensFirst_31 : decode s_MO_opensFirst.2.1 31 = .ok (.iastore, 1) := by decide +kernel
theorem d_MO_opensFirst_32 : decode s_MO_opensFirst.2.1 32 = .ok (.iinc 1 1, 3) := by decide +kernel
theorem d_MO_opensFirst_35 : decode s_MO_opensFirst.2.1 35 = .ok (.goto (-15), 3) := by decide +kernel
theorem d_MO_opensFirst_38 : decode s_MO_opensFirst.2.1 38 = .ok (.return_, 1) := by decide +kernel
theorem d_MO_shut_0 : decode s_MO_shut.2.1 0 = .ok (.aload_n 0, 1) := by decide +kernel
theorem d_MO_shut_1 : decode s_MO_shut.2.1 1 = .ok (.getfield 337, 3) := by decide +kernel
theorem d_MO_shut_4 : decode s_MO_shut.2.1 4 = .ok (.iconst 1, 1) := by decide +kernel
theorem d_MO_shut_5 : decode s_MO_shut.2.1 5 = .ok (.iadd, 1) := by decide +kernel
theorem d_MO_shut_6 : decode s_MO_shut.2.1 6 = .ok (.i2l, 1) := by decide +kernel
theorem d_MO_shut_7 : decode s_MO_shut.2.1 7 = .ok (.lstore_n 1, 1) := by decide +kernel
theorem d_MO_shut_8 : decode s_MO_shut.2.1 8 = .ok (.iconst 0, 1) := by decide +kernel
theorem d_MO_shut_9 : decode s_MO_shut.2.1 9 = .ok (.istore_n 3, 1) := by decide +kernel
theorem d_MO_shut_10 : decode s_MO_shut.2.1 10 = .ok (.iload_n 3, 1) := by decide +kernel
theorem d_MO_shut_11 : decode s_MO_shut.2.1 11 = .ok (.iconst 4, 1) := by decide +kernel
theorem d_MO_shut_12 : decode s_MO_shut.2.1 12 = .ok (.if_icmp .ge 22, 3) := by decide +kernel
theorem d_MO_shut_15 : decode s_MO_shut.2.1 15 = .ok (.lload_n 1, 1) := by decide +kernel
theorem d_MO_shut_16 : decode s_MO_shut.2.1 16 = .ok (.bipush 12, 2) := by decide +kernel
theorem d_MO_shut_18 : decode s_MO_shut.2.1 18 = .ok (.lshl, 1) := by decide +kernel
theorem d_MO_shut_19 : decode s_MO_shut.2.1 19 = .ok (.aload_n 0, 1) := by decide +kernel
theorem d_MO_shut_20 : decode s_MO_shut.2.1 20 = .ok (.getfield 90, 3) := by decide +kernel
theorem d_MO_shut_23 : decode s_MO_shut.2.1 23 = .ok (.iload_n 3, 1) := by decide +kernel
theorem d_MO_shut_24 : decode s_MO_shut.2.1 24 = .ok (.iaload, 1) := by decide +kernel
theorem d_MO_shut_25 : decode s_MO_shut.2.1 25 = .ok (.i2l, 1) := by decide +kernel
theorem d_MO_shut_26 : decode s_MO_shut.2.1 26 = .ok (.lor, 1) := by decide +kernel
theorem d_MO_shut_27 : decode s_MO_shut.2.1 27 = .ok (.lstore_n 1, 1) := by decide +kernel
theorem d_MO_shut_28 : decode s_MO_shut.2.1 28 = .ok (.iinc 3 1, 3) := by decide +kernel
theorem d_MO_shut_31 : decode s_MO_shut.2.1 31 = .ok (.goto (-21), 3) := by decide +kernel
theorem d_MO_shut_34 : decode s_MO_shut.2.1 34 = .ok (.lload_n 1, 1) := by decide +kernel
theorem d_MO_shut_35 : decode s_MO_shut.2.1 35 = .ok (.lreturn, 1) := by decide +kernel
theorem d_MO_spot_0 : decode s_MO_spot.2.1 0 = .ok (.lload_n 0, 1) := by decide +kernel
theorem d_MO_spot_1 : decode s_MO_spot.2.1 1 = .ok (.ldc2_w 374, 3) := by decide +kernel
theorem d_MO_spot_4 : decode s_MO_spot.2.1 4 = .ok (.lmul, 1) := by decide +kernel
theorem d_MO_spot_5 : decode s_MO_spot.2.1 5 = .ok (.lstore_n 2, 1) := by decide +kernel
theorem d_MO_spot_6 : decode s_MO_spot.2.1 6 = .ok (.lload_n 2, 1) := by decide +kernel
theorem d_MO_spot_7 : decode s_MO_spot.2.1 7 = .ok (.bipush 53, 2) := by decide +kernel
theorem d_MO_spot_9 : decode s_MO_spot.2.1 9 = .ok (.lushr, 1) := by decide +kernel
theorem d_MO_spot_10 : decode s_MO_spot.2.1 10 = .ok (.l2i, 1) := by decide +kernel
theorem d_MO_spot_11 : decode s_MO_spot.2.1 11 = .ok (.ireturn, 1) := by decide +kernel
theorem d_MO_found_0 : decode s_MO_found.2.1 0 = .ok (.lload_n 1, 1) := by decide +kernel
theorem d_MO_found_1 : decode s_MO_found.2.1 1 = .ok (.invokestatic 376, 3) := by decide +kernel
theorem d_MO_found_4 : decode s_MO_found.2.1 4 = .ok (.istore_n 3, 1) := by decide +kernel
theorem d_MO_found_5 : decode s_MO_found.2.1 5 = .ok (.aload_n 0, 1) := by decide +kernel
theorem d_MO_found_6 : decode s_MO_found.2.1 6 = .ok (.getfield 103, 3) := by decide +kernel
theorem d_MO_found_9 : decode s_MO_found.2.1 9 = .ok (.iload_n 3, 1) := by decide +kernel
theorem d_MO_found_10 : decode s_MO_found.2.1 10 = .ok (.iaload, 1) := by decide +kernel
theorem d_MO_found_11 : decode s_MO_found.2.1 11 = .ok (.iconst (-1), 1) := by decide +kernel
theorem d_MO_found_12 : decode s_MO_found.2.1 12 = .ok (.if_icmp .eq 30, 3) := by decide +kernel
theorem d_MO_found_15 : decode s_MO_found.2.1 15 = .ok (.aload_n 0, 1) := by decide +kernel
theorem d_MO_found_16 : decode s_MO_found.2.1 16 = .ok (.getfield 96, 3) := by decide +kernel
theorem d_MO_found_19 : decode s_MO_found.2.1 19 = .ok (.aload_n 0, 1) := by decide +kernel
theorem d_MO_found_20 : decode s_MO_found.2.1 20 = .ok (.getfield 103, 3) := by decide +kernel
theorem d_MO_found_23 : decode s_MO_found.2.1 23 = .ok (.iload_n 3, 1) := by decide +kernel
theorem d_MO_found_24 : decode s_MO_found.2.1 24 = .ok (.iaload, 1) := by decide +kernel
theorem d_MO_found_25 : decode s_MO_found.2.1 25 = .ok (.laload, 1) := by decide +kernel
theorem d_MO_found_26 : decode s_MO_found.2.1 26 = .ok (.lload_n 1, 1) := by decide +kernel
theorem d_MO_found_27 : decode s_MO_found.2.1 27 = .ok (.lcmp, 1) := by decide +kernel
theorem d_MO_found_28 : decode s_MO_found.2.1 28 = .ok (.ifCond .eq 14, 3) := by decide +kernel
theorem d_MO_found_31 : decode s_MO_found.2.1 31 = .ok (.iload_n 3, 1) := by decide +kernel
theorem d_MO_found_32 : decode s_MO_found.2.1 32 = .ok (.iconst 1, 1) := by decide +kernel
theorem d_MO_found_33 : decode s_MO_found.2.1 33 = .ok (.iadd, 1) := by decide +kernel
theorem d_MO_found_34 : decode s_MO_found.2.1 34 = .ok (.sipush 2047, 3) := by decide +kernel
theorem d_MO_found_37 : decode s_MO_found.2.1 37 = .ok (.iand, 1) := by decide +kernel
theorem d_MO_found_38 : decode s_MO_found.2.1 38 = .ok (.istore_n 3, 1) := by decide +kernel
theorem d_MO_found_39 : decode s_MO_found.2.1 39 = .ok (.goto (-34), 3) := by decide +kernel
theorem d_MO_found_42 : decode s_MO_found.2.1 42 = .ok (.aload_n 0, 1) := by decide +kernel
theorem d_MO_found_43 : decode s_MO_found.2.1 43 = .ok (.getfield 103, 3) := by decide +kernel
theorem d_MO_found_46 : decode s_MO_found.2.1 46 = .ok (.iload_n 3, 1) := by decide +kernel
theorem d_MO_found_47 : decode s_MO_found.2.1 47 = .ok (.iaload, 1) := by decide +kernel
theorem d_MO_found_48 : decode s_MO_found.2.1 48 = .ok (.ireturn, 1) := by decide +kernel
theorem d_MO_enters_0 : decode s_MO_enters.2.1 0 = .ok (.aload_n 0, 1) := by decide +kernel
theorem d_MO_enters_1 : decode s_MO_enters.2.1 1 = .ok (.getfield 96, 3) := by decide +kernel
theorem d_MO_enters_4 : decode s_MO_enters.2.1 4 = .ok (.iload_n 1, 1) := by decide +kernel
theorem d_MO_enters_5 : decode s_MO_enters.2.1 5 = .ok (.laload, 1) := by decide +kernel
theorem d_MO_enters_6 : decode s_MO_enters.2.1 6 = .ok (.invokestatic 376, 3) := by decide +kernel
theorem d_MO_enters_9 : decode s_MO_enters.2.1 9 = .ok (.istore_n 2, 1) := by decide +kernel
theorem d_MO_enters_10 : decode s_MO_enters.2.1 10 = .ok (.aload_n 0, 1) := by decide +kernel
theorem d_MO_enters_11 : decode s_MO_enters.2.1 11 = .ok (.getfield 103, 3) := by decide +kernel
theorem d_MO_enters_14 : decode s_MO_enters.2.1 14 = .ok (.iload_n 2, 1) := by decide +kernel
theorem d_MO_enters_15 : decode s_MO_enters.2.1 15 = .ok (.iaload, 1) := by decide +kernel
theorem d_MO_enters_16 : decode s_MO_enters.2.1 16 = .ok (.iconst (-1), 1) := by decide +kernel
theorem d_MO_enters_17 : decode s_MO_enters.2.1 17 = .ok (.if_icmp .eq 14, 3) := by decide +kernel
theorem d_MO_enters_20 : decode s_MO_enters.2.1 20 = .ok (.iload_n 2, 1) := by decide +kernel
theorem d_MO_enters_21 : decode s_MO_enters.2.1 21 = .ok (.iconst 1, 1) := by decide +kernel
theorem d_MO_enters_22 : decode s_MO_enters.2.1 22 = .ok (.iadd, 1) := by decide +kernel
theorem d_MO_enters_23 : decode s_MO_enters.2.1 23 = .ok (.sipush 2047, 3) := by decide +kernel
theorem d_MO_enters_26 : decode s_MO_enters.2.1 26 = .ok (.iand, 1) := by decide +kernel
theorem d_MO_enters_27 : decode s_MO_enters.2.1 27 = .ok (.istore_n 2, 1) := by decide +kernel
theorem d_MO_enters_28 : decode s_MO_enters.2.1 28 = .ok (.goto (-18), 3) := by decide +kernel
theorem d_MO_enters_31 : decode s_MO_enters.2.1 31 = .ok (.aload_n 0, 1) := by decide +kernel
theorem d_MO_enters_32 : decode s_MO_enters.2.1 32 = .ok (.getfield 103, 3) := by decide +kernel
theorem d_MO_enters_35 : decode s_MO_enters.2.1 35 = .ok (.iload_n 2, 1) := by decide +kernel
theorem d_MO_enters_36 : decode s_MO_enters.2.1 36 = .ok (.iload_n 1, 1) := by decide +kernel
theorem d_MO_enters_37 : decode s_MO_enters.2.1 37 = .ok (.iastore, 1) := by decide +kernel
theorem d_MO_enters_38 : decode s_MO_enters.2.1 38 = .ok (.return_, 1) := by decide +kernel
theorem d_MO_comes_0 : decode s_MO_comes.2.1 0 = .ok (.aload_n 0, 1) := by decide +kernel
theorem d_MO_comes_1 : decode s_MO_comes.2.1 1 = .ok (.getfield 380, 3) := by decide +kernel
theorem d_MO_comes_4 : decode s_MO_comes.2.1 4 = .ok (.sipush 600, 3) := by decide +kernel
theorem d_MO_comes_7 : decode s_MO_comes.2.1 7 = .ok (.if_icmp .gt 12, 3) := by decide +kernel
theorem d_MO_comes_10 : decode s_MO_comes.2.1 10 = .ok (.aload_n 0, 1) := by decide +kernel
theorem d_MO_comes_11 : decode s_MO_comes.2.1 11 = .ok (.lload_n 1, 1) := by decide +kernel
theorem d_MO_comes_12 : decode s_MO_comes.2.1 12 = .ok (.invokevirtual 383, 3) := by decide +kernel
theorem d_MO_comes_15 : decode s_MO_comes.2.1 15 = .ok (.iconst (-1), 1) := by decide +kernel
theorem d_MO_comes_16 : decode s_MO_comes.2.1 16 = .ok (.if_icmp .eq 4, 3) := by decide +kernel
theorem d_MO_comes_19 : decode s_MO_comes.2.1 19 = .ok (.return_, 1) := by decide +kernel
theorem d_MO_comes_20 : decode s_MO_comes.2.1 20 = .ok (.aload_n 0, 1) := by decide +kernel
theorem d_MO_comes_21 : decode s_MO_comes.2.1 21 = .ok (.getfield 96, 3) := by decide +kernel
theorem d_MO_comes_24 : decode s_MO_comes.2.1 24 = .ok (.aload_n 0, 1) := by decide +kernel
theorem d_MO_comes_25 : decode s_MO_comes.2.1 25 = .ok (.getfield 380, 3) := by decide +kernel
theorem d_MO_comes_28 : decode s_MO_comes.2.1 28 = .ok (.lload_n 1, 1) := by decide +kernel
theorem d_MO_comes_29 : decode s_MO_comes.2.1 29 = .ok (.lastore, 1) := by decide +kernel
theorem d_MO_comes_30 : decode s_MO_comes.2.1 30 = .ok (.aload_n 0, 1) := by decide +kernel
theorem d_MO_comes_31 : decode s_MO_comes.2.1 31 = .ok (.getfield 100, 3) := by decide +kernel
theorem d_MO_comes_34 : decode s_MO_comes.2.1 34 = .ok (.aload_n 0, 1) := by decide +kernel
theorem d_MO_comes_35 : decode s_MO_comes.2.1 35 = .ok (.getfield 380, 3) := by decide +kernel
theorem d_MO_comes_38 : decode s_MO_comes.2.1 38 = .ok (.iload_n 3, 1) := by decide +kernel
theorem d_MO_comes_39 : decode s_MO_comes.2.1 39 = .ok (.iastore, 1) := by decide +kernel
theorem d_MO_comes_40 : decode s_MO_comes.2.1 40 = .ok (.aload_n 0, 1) := by decide +kernel
theorem d_MO_comes_41 : decode s_MO_comes.2.1 41 = .ok (.aload_n 0, 1) := by decide +kernel
theorem d_MO_comes_42 : decode s_MO_comes.2.1 42 = .ok (.getfield 380, 3) := by decide +kernel
theorem d_MO_comes_45 : decode s_MO_comes.2.1 45 = .ok (.invokevirtual 386, 3) := by decide +kernel
theorem d_MO_comes_48 : decode s_MO_comes.2.1 48 = .ok (.aload_n 0, 1) := by decide +kernel
theorem d_MO_comes_49 : decode s_MO_comes.2.1 49 = .ok (.dup, 1) := by decide +kernel
theorem d_MO_comes_50 : decode s_MO_comes.2.1 50 = .ok (.getfield 380, 3) := by decide +kernel
theorem d_MO_comes_53 : decode s_MO_comes.2.1 53 = .ok (.iconst 1, 1) := by decide +kernel
theorem d_MO_comes_54 : decode s_MO_comes.2.1 54 = .ok (.iadd, 1) := by decide +kernel
theorem d_MO_comes_55 : decode s_MO_comes.2.1 55 = .ok (.putfield 380, 3) := by decide +kernel
theorem d_MO_comes_58 : decode s_MO_comes.2.1 58 = .ok (.return_, 1) := by decide +kernel
theorem d_MO_rules_0 : decode s_MO_rules.2.1 0 = .ok (.aload_n 0, 1) := by decide +kernel
theorem d_MO_rules_1 : decode s_MO_rules.2.1 1 = .ok (.getfield 81, 3) := by decide +kernel
theorem d_MO_rules_4 : decode s_MO_rules.2.1 4 = .ok (.bipush 8, 2) := by decide +kernel
theorem d_MO_rules_6 : decode s_MO_rules.2.1 6 = .ok (.iaload, 1) := by decide +kernel
theorem d_MO_rules_7 : decode s_MO_rules.2.1 7 = .ok (.ireturn, 1) := by decide +kernel
theorem d_MO_opens_0 : decode s_MO_opens.2.1 0 = .ok (.aload_n 0, 1) := by decide +kernel
theorem d_MO_opens_1 : decode s_MO_opens.2.1 1 = .ok (.lload_n 1, 1) := by decide +kernel
theorem d_MO_opens_2 : decode s_MO_opens.2.1 2 = .ok (.bipush 48, 2) := by decide +kernel
theorem d_MO_opens_4 : decode s_MO_opens.2.1 4 = .ok (.lshr, 1) := by decide +kernel
theorem d_MO_opens_5 : decode s_MO_opens.2.1 5 = .ok (.l2i, 1) := by decide +kernel
theorem d_MO_opens_6 : decode s_MO_opens.2.1 6 = .ok (.iconst 1, 1) := by decide +kernel
theorem d_MO_opens_7 : decode s_MO_opens.2.1 7 = .ok (.isub, 1) := by decide +kernel
theorem d_MO_opens_8 : decode s_MO_opens.2.1 8 = .ok (.putfield 334, 3) := by decide +kernel
theorem d_MO_opens_11 : decode s_MO_opens.2.1 11 = .ok (.iconst 0, 1) := by decide +kernel
theorem d_MO_opens_12 : decode s_MO_opens.2.1 12 = .ok (.istore_n 3, 1) := by decide +kernel
theorem d_MO_opens_13 : decode s_MO_opens.2.1 13 = .ok (.iload_n 3, 1) := by decide +kernel
theorem d_MO_opens_14 : decode s_MO_opens.2.1 14 = .ok (.iconst 4, 1) := by decide +kernel
theorem d_MO_opens_15 : decode s_MO_opens.2.1 15 = .ok (.if_icmp .ge 29, 3) := by decide +kernel
theorem d_MO_opens_18 : decode s_MO_opens.2.1 18 = .ok (.aload_n 0, 1) := by decide +kernel
theorem d_MO_opens_19 : decode s_MO_opens.2.1 19 = .ok (.getfield 87, 3) := by decide +kernel
theorem d_MO_opens_22 : decode s_MO_opens.2.1 22 = .ok (.iload_n 3, 1) := by decide +kernel
theorem d_MO_opens_23 : decode s_MO_opens.2.1 23 = .ok (.lload_n 1, 1) := by decide +kernel
theorem d_MO_opens_24 : decode s_MO_opens.2.1 24 = .ok (.bipush 36, 2) := by decide +kernel
theorem d_MO_opens_26 : decode s_MO_opens.2.1 26 = .ok (.bipush 12, 2) := by decide +kernel
theorem d_MO_opens_28 : decode s_MO_opens.2.1 28 = .ok (.iload_n 3, 1) := by decide +kernel
theorem d_MO_opens_29 : decode s_MO_opens.2.1 29 = .ok (.imul, 1) := by decide +kernel
theorem d_MO_opens_30 : decode s_MO_opens.2.1 30 = .ok (.isub, 1) := by decide +kernel
theorem d_MO_opens_31 : decode s_MO_opens.2.1 31 = .ok (.lshr, 1) := by decide +kernel
theorem d_MO_opens_32 : decode s_MO_opens.2.1 32 = .ok (.l2i, 1) := by decide +kernel
theorem d_MO_opens_33 : decode s_MO_opens.2.1 33 = .ok (.sipush 4095, 3) := by decide +kernel
theorem d_MO_opens_36 : decode s_MO_opens.2.1 36 = .ok (.iand, 1) := by decide +kernel
theorem d_MO_opens_37 : decode s_MO_opens.2.1 37 = .ok (.iastore, 1) := by decide +kernel
theorem d_MO_opens_38 : decode s_MO_opens.2.1 38 = .ok (.iinc 3 1, 3) := by decide +kernel
theorem d_MO_opens_41 : decode s_MO_opens.2.1 41 = .ok (.goto (-28), 3) := by decide +kernel
theorem d_MO_opens_44 : decode s_MO_opens.2.1 44 = .ok (.return_, 1) := by decide +kernel
theorem d_MO_agents_0 : decode s_MO_agents.2.1 0 = .ok (.aload_n 0, 1) := by decide +kernel
theorem d_MO_agents_1 : decode s_MO_agents.2.1 1 = .ok (.getfield 81, 3) := by decide +kernel
theorem d_MO_agents_4 : decode s_MO_agents.2.1 4 = .ok (.iconst 3, 1) := by decide +kernel
theorem d_MO_agents_5 : decode s_MO_agents.2.1 5 = .ok (.iaload, 1) := by decide +kernel
theorem d_MO_agents_6 : decode s_MO_agents.2.1 6 = .ok (.ireturn, 1) := by decide +kernel
theorem d_MO_ruleOf_0 : decode s_MO_ruleOf.2.1 0 = .ok (.aload_n 0, 1) := by decide +kernel
theorem d_MO_ruleOf_1 : decode s_MO_ruleOf.2.1 1 = .ok (.getfield 81, 3) := by decide +kernel
theorem d_MO_ruleOf_4 : decode s_MO_ruleOf.2.1 4 = .ok (.bipush 56, 2) := by decide +kernel
theorem d_MO_ruleOf_6 : decode s_MO_ruleOf.2.1 6 = .ok (.bipush 8, 2) := by decide +kernel
theorem d_MO_ruleOf_8 : decode s_MO_ruleOf.2.1 8 = .ok (.iload_n 1, 1) := by decide +kernel
theorem d_MO_ruleOf_9 : decode s_MO_ruleOf.2.1 9 = .ok (.imul, 1) := by decide +kernel
theorem d_MO_ruleOf_10 : decode s_MO_ruleOf.2.1 10 = .ok (.iadd, 1) := by decide +kernel
theorem d_MO_ruleOf_11 : decode s_MO_ruleOf.2.1 11 = .ok (.iload_n 2, 1) := by decide +kernel
theorem d_MO_ruleOf_12 : decode s_MO_ruleOf.2.1 12 = .ok (.iadd, 1) := by decide +kernel
theorem d_MO_ruleOf_13 : decode s_MO_ruleOf.2.1 13 = .ok (.iaload, 1) := by decide +kernel
theorem d_MO_ruleOf_14 : decode s_MO_ruleOf.2.1 14 = .ok (.ireturn, 1) := by decide +kernel
theorem d_MO_stateOf_0 : decode s_MO_stateOf.2.1 0 = .ok (.iload_n 0, 1) := by decide +kernel
theorem d_MO_stateOf_1 : decode s_MO_stateOf.2.1 1 = .ok (.bipush 9, 2) := by decide +kernel
theorem d_MO_stateOf_3 : decode s_MO_stateOf.2.1 3 = .ok (.ishr, 1) := by decide +kernel
theorem d_MO_stateOf_4 : decode s_MO_stateOf.2.1 4 = .ok (.ireturn, 1) := by decide +kernel
theorem d_MO_firstIn_0 : decode s_MO_firstIn.2.1 0 = .ok (.iload_n 0, 1) := by decide +kernel
theorem d_MO_firstIn_1 : decode s_MO_firstIn.2.1 1 = .ok (.bipush 6, 2) := by decide +kernel
theorem d_MO_firstIn_3 : decode s_MO_firstIn.2.1 3 = .ok (.ishr, 1) := by decide +kernel
theorem d_MO_firstIn_4 : decode s_MO_firstIn.2.1 4 = .ok (.bipush 7, 2) := by decide +kernel
theorem d_MO_firstIn_6 : decode s_MO_firstIn.2.1 6 = .ok (.iand, 1) := by decide +kernel
theorem d_MO_firstIn_7 : decode s_MO_firstIn.2.1 7 = .ok (.ireturn, 1) := by decide +kernel
theorem d_MO_secondIn_0 : decode s_MO_secondIn.2.1 0 = .ok (.iload_n 0, 1) := by decide +kernel
theorem d_MO_secondIn_1 : decode s_MO_secondIn.2.1 1 = .ok (.iconst 3, 1) := by decide +kernel
theorem d_MO_secondIn_2 : decode s_MO_secondIn.2.1 2 = .ok (.ishr, 1) := by decide +kernel
theorem d_MO_secondIn_3 : decode s_MO_secondIn.2.1 3 = .ok (.bipush 7, 2) := by decide +kernel
theorem d_MO_secondIn_5 : decode s_MO_secondIn.2.1 5 = .ok (.iand, 1) := by decide +kernel
theorem d_MO_secondIn_6 : decode s_MO_secondIn.2.1 6 = .ok (.ireturn, 1) := by decide +kernel
theorem d_MO_without0_0 : decode s_MO_without0.2.1 0 = .ok (.iload_n 1, 1) := by decide +kernel
theorem d_MO_without0_1 : decode s_MO_without0.2.1 1 = .ok (.sipush (-505), 3) := by decide +kernel
theorem d_MO_without0_4 : decode s_MO_without0.2.1 4 = .ok (.iand, 1) := by decide +kernel
theorem d_MO_without0_5 : decode s_MO_without0.2.1 5 = .ok (.istore_n 3, 1) := by decide +kernel
theorem d_MO_without0_6 : decode s_MO_without0.2.1 6 = .ok (.iload_n 1, 1) := by decide +kernel
theorem d_MO_without0_7 : decode s_MO_without0.2.1 7 = .ok (.invokestatic 340, 3) := by decide +kernel
theorem d_MO_without0_10 : decode s_MO_without0.2.1 10 = .ok (.iload_n 2, 1) := by decide +kernel
theorem d_MO_without0_11 : decode s_MO_without0.2.1 11 = .ok (.if_icmp .ne 13, 3) := by decide +kernel
theorem d_MO_without0_14 : decode s_MO_without0.2.1 14 = .ok (.iload_n 3, 1) := by decide +kernel
theorem d_MO_without0_15 : decode s_MO_without0.2.1 15 = .ok (.iload_n 1, 1) := by decide +kernel
theorem d_MO_without0_16 : decode s_MO_without0.2.1 16 = .ok (.invokestatic 343, 3) := by decide +kernel
theorem d_MO_without0_19 : decode s_MO_without0.2.1 19 = .ok (.bipush 6, 2) := by decide +kernel
theorem d_MO_without0_21 : decode s_MO_without0.2.1 21 = .ok (.ishl, 1) := by decide +kernel
theorem d_MO_without0_22 : decode s_MO_without0.2.1 22 = .ok (.ior, 1) := by decide +kernel
theorem d_MO_without0_23 : decode s_MO_without0.2.1 23 = .ok (.ireturn, 1) := by decide +kernel
theorem d_MO_without0_24 : decode s_MO_without0.2.1 24 = .ok (.aload_n 0, 1) := by decide +kernel
theorem d_MO_without0_25 : decode s_MO_without0.2.1 25 = .ok (.getfield 81, 3) := by decide +kernel
theorem d_MO_without0_28 : decode s_MO_without0.2.1 28 = .ok (.iconst 4, 1) := by decide +kernel
theorem d_MO_without0_29 : decode s_MO_without0.2.1 29 = .ok (.iaload, 1) := by decide +kernel
theorem d_MO_without0_30 : decode s_MO_without0.2.1 30 = .ok (.iconst 1, 1) := by decide +kernel
theorem d_MO_without0_31 : decode s_MO_without0.2.1 31 = .ok (.if_icmp .ne 21, 3) := by decide +kernel
theorem d_MO_without0_34 : decode s_MO_without0.2.1 34 = .ok (.iload_n 1, 1) := by decide +kernel
theorem d_MO_without0_35 : decode s_MO_without0.2.1 35 = .ok (.invokestatic 343, 3) := by decide +kernel
theorem d_MO_without0_38 : decode s_MO_without0.2.1 38 = .ok (.iload_n 2, 1) := by decide +kernel
theorem d_MO_without0_39 : decode s_MO_without0.2.1 39 = .ok (.if_icmp .ne 13, 3) := by decide +kernel
theorem d_MO_without0_42 : decode s_MO_without0.2.1 42 = .ok (.iload_n 3, 1) := by decide +kernel
theorem d_MO_without0_43 : decode s_MO_without0.2.1 43 = .ok (.iload_n 1, 1) := by decide +kernel
theorem d_MO_without0_44 : decode s_MO_without0.2.1 44 = .ok (.invokestatic 340, 3) := by decide +kernel
theorem d_MO_without0_47 : decode s_MO_without0.2.1 47 = .ok (.bipush 6, 2) := by decide +kernel
theorem d_MO_without0_49 : decode s_MO_without0.2.1 49 = .ok (.ishl, 1) := by decide +kernel
theorem d_MO_without0_50 : decode s_MO_without0.2.1 50 = .ok (.ior, 1) := by decide +kernel
theorem d_MO_without0_51 : decode s_MO_without0.2.1 51 = .ok (.ireturn, 1) := by decide +kernel
theorem d_MO_without0_52 : decode s_MO_without0.2.1 52 = .ok (.iconst (-1), 1) := by decide +kernel
theorem d_MO_without0_53 : decode s_MO_without0.2.1 53 = .ok (.ireturn, 1) := by decide +kernel
theorem d_MO_outOf_0 : decode s_MO_outOf.2.1 0 = .ok (.iload_n 0, 1) := by decide +kernel
theorem d_MO_outOf_1 : decode s_MO_outOf.2.1 1 = .ok (.bipush 7, 2) := by decide +kernel
theorem d_MO_outOf_3 : decode s_MO_outOf.2.1 3 = .ok (.iand, 1) := by decide +kernel
theorem d_MO_outOf_4 : decode s_MO_outOf.2.1 4 = .ok (.ireturn, 1) := by decide +kernel
theorem d_MO_isMovedOn_0 : decode s_MO_isMovedOn.2.1 0 = .ok (.aload_n 0, 1) := by decide +kernel
theorem d_MO_isMovedOn_1 : decode s_MO_isMovedOn.2.1 1 = .ok (.getfield 87, 3) := by decide +kernel
theorem d_MO_isMovedOn_4 : decode s_MO_isMovedOn.2.1 4 = .ok (.iload_n 2, 1) := by decide +kernel
theorem d_MO_isMovedOn_5 : decode s_MO_isMovedOn.2.1 5 = .ok (.iaload, 1) := by decide +kernel
theorem d_MO_isMovedOn_6 : decode s_MO_isMovedOn.2.1 6 = .ok (.istore_n 3, 1) := by decide +kernel
theorem d_MO_isMovedOn_7 : decode s_MO_isMovedOn.2.1 7 = .ok (.iload_n 3, 1) := by decide +kernel
theorem d_MO_isMovedOn_8 : decode s_MO_isMovedOn.2.1 8 = .ok (.invokestatic 346, 3) := by decide +kernel
theorem d_MO_isMovedOn_11 : decode s_MO_isMovedOn.2.1 11 = .ok (.aload_n 0, 1) := by decide +kernel
theorem d_MO_isMovedOn_12 : decode s_MO_isMovedOn.2.1 12 = .ok (.iload_n 1, 1) := by decide +kernel
theorem d_MO_isMovedOn_13 : decode s_MO_isMovedOn.2.1 13 = .ok (.iconst 1, 1) := by decide +kernel
theorem d_MO_isMovedOn_14 : decode s_MO_isMovedOn.2.1 14 = .ok (.invokevirtual 349, 3) := by decide +kernel
theorem d_MO_isMovedOn_17 : decode s_MO_isMovedOn.2.1 17 = .ok (.if_icmp .eq 5, 3) := by decide +kernel
theorem d_MO_isMovedOn_20 : decode s_MO_isMovedOn.2.1 20 = .ok (.iconst 0, 1) := by decide +kernel
theorem d_MO_isMovedOn_21 : decode s_MO_isMovedOn.2.1 21 = .ok (.ireturn, 1) := by decide +kernel
theorem d_MO_isMovedOn_22 : decode s_MO_isMovedOn.2.1 22 = .ok (.aload_n 0, 1) := by decide +kernel
theorem d_MO_isMovedOn_23 : decode s_MO_isMovedOn.2.1 23 = .ok (.iload_n 1, 1) := by decide +kernel
theorem d_MO_isMovedOn_24 : decode s_MO_isMovedOn.2.1 24 = .ok (.iconst 2, 1) := by decide +kernel
theorem d_MO_isMovedOn_25 : decode s_MO_isMovedOn.2.1 25 = .ok (.invokevirtual 349, 3) := by decide +kernel
theorem d_MO_isMovedOn_28 : decode s_MO_isMovedOn.2.1 28 = .ok (.iconst (-1), 1) := by decide +kernel
theorem d_MO_isMovedOn_29 : decode s_MO_isMovedOn.2.1 29 = .ok (.if_icmp .eq 17, 3) := by decide +kernel
theorem d_MO_isMovedOn_32 : decode s_MO_isMovedOn.2.1 32 = .ok (.aload_n 0, 1) := by decide +kernel
theorem d_MO_isMovedOn_33 : decode s_MO_isMovedOn.2.1 33 = .ok (.iload_n 3, 1) := by decide +kernel
theorem d_MO_isMovedOn_34 : decode s_MO_isMovedOn.2.1 34 = .ok (.aload_n 0, 1) := by decide +kernel
theorem d_MO_isMovedOn_35 : decode s_MO_isMovedOn.2.1 35 = .ok (.iload_n 1, 1) := by decide +kernel
theorem d_MO_isMovedOn_36 : decode s_MO_isMovedOn.2.1 36 = .ok (.iconst 2, 1) := by decide +kernel
theorem d_MO_isMovedOn_37 : decode s_MO_isMovedOn.2.1 37 = .ok (.invokevirtual 349, 3) := by decide +kernel
theorem d_MO_isMovedOn_40 : decode s_MO_isMovedOn.2.1 40 = .ok (.iconst 1, 1) := by decide +kernel
theorem d_MO_isMovedOn_41 : decode s_MO_isMovedOn.2.1 41 = .ok (.iadd, 1) := by decide +kernel
theorem d_MO_isMovedOn_42 : decode s_MO_isMovedOn.2.1 42 = .ok (.invokevirtual 352, 3) := by decide +kernel
theorem d_MO_isMovedOn_45 : decode s_MO_isMovedOn.2.1 45 = .ok (.istore_n 3, 1) := by decide +kernel
theorem d_MO_isMovedOn_46 : decode s_MO_isMovedOn.2.1 46 = .ok (.iload_n 3, 1) := by decide +kernel
theorem d_MO_isMovedOn_47 : decode s_MO_isMovedOn.2.1 47 = .ok (.ifCond .lt 20, 3) := by decide +kernel
theorem d_MO_isMovedOn_50 : decode s_MO_isMovedOn.2.1 50 = .ok (.aload_n 0, 1) := by decide +kernel
theorem d_MO_isMovedOn_51 : decode s_MO_isMovedOn.2.1 51 = .ok (.iload_n 1, 1) := by decide +kernel
theorem d_MO_isMovedOn_52 : decode s_MO_isMovedOn.2.1 52 = .ok (.iconst 4, 1) := by decide +kernel
theorem d_MO_isMovedOn_53 : decode s_MO_isMovedOn.2.1 53 = .ok (.invokevirtual 349, 3) := by decide +kernel
theorem d_MO_isMovedOn_56 : decode s_MO_isMovedOn.2.1 56 = .ok (.iconst (-1), 1) := by decide +kernel
theorem d_MO_isMovedOn_57 : decode s_MO_isMovedOn.2.1 57 = .ok (.if_icmp .eq 12, 3) := by decide +kernel
theorem d_MO_isMovedOn_60 : decode s_MO_isMovedOn.2.1 60 = .ok (.iload_n 3, 1) := by decide +kernel
theorem d_MO_isMovedOn_61 : decode s_MO_isMovedOn.2.1 61 = .ok (.invokestatic 355, 3) := by decide +kernel
theorem d_MO_isMovedOn_64 : decode s_MO_isMovedOn.2.1 64 = .ok (.ifCond .eq 5, 3) := by decide +kernel
theorem d_MO_isMovedOn_67 : decode s_MO_isMovedOn.2.1 67 = .ok (.iconst 0, 1) := by decide +kernel
theorem d_MO_isMovedOn_68 : decode s_MO_isMovedOn.2.1 68 = .ok (.ireturn, 1) := by decide +kernel
theorem d_MO_isMovedOn_69 : decode s_MO_isMovedOn.2.1 69 = .ok (.aload_n 0, 1) := by decide +kernel
theorem d_MO_isMovedOn_70 : decode s_MO_isMovedOn.2.1 70 = .ok (.getfield 90, 3) := by decide +kernel
theorem d_MO_isMovedOn_73 : decode s_MO_isMovedOn.2.1 73 = .ok (.iload_n 2, 1) := by decide +kernel
theorem d_MO_isMovedOn_74 : decode s_MO_isMovedOn.2.1 74 = .ok (.iload_n 3, 1) := by decide +kernel
theorem d_MO_isMovedOn_75 : decode s_MO_isMovedOn.2.1 75 = .ok (.sipush 511, 3) := by decide +kernel
theorem d_MO_isMovedOn_78 : decode s_MO_isMovedOn.2.1 78 = .ok (.iand, 1) := by decide +kernel
theorem d_MO_isMovedOn_79 : decode s_MO_isMovedOn.2.1 79 = .ok (.aload_n 0, 1) := by decide +kernel
theorem d_MO_isMovedOn_80 : decode s_MO_isMovedOn.2.1 80 = .ok (.iload_n 1, 1) := by decide +kernel
theorem d_MO_isMovedOn_81 : decode s_MO_isMovedOn.2.1 81 = .ok (.iconst 3, 1) := by decide +kernel
theorem d_MO_isMovedOn_82 : decode s_MO_isMovedOn.2.1 82 = .ok (.invokevirtual 349, 3) := by decide +kernel
theorem d_MO_isMovedOn_85 : decode s_MO_isMovedOn.2.1 85 = .ok (.bipush 9, 2) := by decide +kernel
theorem d_MO_isMovedOn_87 : decode s_MO_isMovedOn.2.1 87 = .ok (.ishl, 1) := by decide +kernel
theorem d_MO_isMovedOn_88 : decode s_MO_isMovedOn.2.1 88 = .ok (.ior, 1) := by decide +kernel
theorem d_MO_isMovedOn_89 : decode s_MO_isMovedOn.2.1 89 = .ok (.aload_n 0, 1) := by decide +kernel
theorem d_MO_isMovedOn_90 : decode s_MO_isMovedOn.2.1 90 = .ok (.iload_n 1, 1) := by decide +kernel
theorem d_MO_isMovedOn_91 : decode s_MO_isMovedOn.2.1 91 = .ok (.iconst 4, 1) := by decide +kernel
theorem d_MO_isMovedOn_92 : decode s_MO_isMovedOn.2.1 92 = .ok (.invokevirtual 349, 3) := by decide +kernel
theorem d_MO_isMovedOn_95 : decode s_MO_isMovedOn.2.1 95 = .ok (.iconst 1, 1) := by decide +kernel
theorem d_MO_isMovedOn_96 : decode s_MO_isMovedOn.2.1 96 = .ok (.iadd, 1) := by decide +kernel
theorem d_MO_isMovedOn_97 : decode s_MO_isMovedOn.2.1 97 = .ok (.ior, 1) := by decide +kernel
theorem d_MO_isMovedOn_98 : decode s_MO_isMovedOn.2.1 98 = .ok (.iastore, 1) := by decide +kernel
theorem d_MO_isMovedOn_99 : decode s_MO_isMovedOn.2.1 99 = .ok (.iconst 1, 1) := by decide +kernel
theorem d_MO_isMovedOn_100 : decode s_MO_isMovedOn.2.1 100 = .ok (.ireturn, 1) := by decide +kernel
theorem d_MO_isOther_0 : decode s_MO_isOther.2.1 0 = .ok (.iconst 0, 1) := by decide +kernel
theorem d_MO_isOther_1 : decode s_MO_isOther.2.1 1 = .ok (.istore_n 3, 1) := by decide +kernel
theorem d_MO_isOther_2 : decode s_MO_isOther.2.1 2 = .ok (.iload_n 3, 1) := by decide +kernel
theorem d_MO_isOther_3 : decode s_MO_isOther.2.1 3 = .ok (.aload_n 0, 1) := by decide +kernel
theorem d_MO_isOther_4 : decode s_MO_isOther.2.1 4 = .ok (.invokevirtual 358, 3) := by decide +kernel
theorem d_MO_isOther_7 : decode s_MO_isOther.2.1 7 = .ok (.if_icmp .ge 29, 3) := by decide +kernel
theorem d_MO_isOther_10 : decode s_MO_isOther.2.1 10 = .ok (.iload_n 3, 1) := by decide +kernel
theorem d_MO_isOther_11 : decode s_MO_isOther.2.1 11 = .ok (.iload_n 2, 1) := by decide +kernel
theorem d_MO_isOther_12 : decode s_MO_isOther.2.1 12 = .ok (.if_icmp .eq 18, 3) := by decide +kernel
theorem d_MO_isOther_15 : decode s_MO_isOther.2.1 15 = .ok (.aload_n 0, 1) := by decide +kernel
theorem d_MO_isOther_16 : decode s_MO_isOther.2.1 16 = .ok (.getfield 87, 3) := by decide +kernel
theorem d_MO_isOther_19 : decode s_MO_isOther.2.1 19 = .ok (.iload_n 3, 1) := by decide +kernel
theorem d_MO_isOther_20 : decode s_MO_isOther.2.1 20 = .ok (.iaload, 1) := by decide +kernel
theorem d_MO_isOther_21 : decode s_MO_isOther.2.1 21 = .ok (.invokestatic 346, 3) := by decide +kernel
theorem d_MO_isOther_24 : decode s_MO_isOther.2.1 24 = .ok (.iload_n 1, 1) := by decide +kernel
theorem d_MO_isOther_25 : decode s_MO_isOther.2.1 25 = .ok (.if_icmp .ne 5, 3) := by decide +kernel
theorem d_MO_isOther_28 : decode s_MO_isOther.2.1 28 = .ok (.iconst 1, 1) := by decide +kernel
theorem d_MO_isOther_29 : decode s_MO_isOther.2.1 29 = .ok (.ireturn, 1) := by decide +kernel
theorem d_MO_isOther_30 : decode s_MO_isOther.2.1 30 = .ok (.iinc 3 1, 3) := by decide +kernel
theorem d_MO_isOther_33 : decode s_MO_isOther.2.1 33 = .ok (.goto (-31), 3) := by decide +kernel
theorem d_MO_isOther_36 : decode s_MO_isOther.2.1 36 = .ok (.iconst 0, 1) := by decide +kernel
theorem d_MO_isOther_37 : decode s_MO_isOther.2.1 37 = .ok (.ireturn, 1) := by decide +kernel
theorem d_MO_with0_0 : decode s_MO_with0.2.1 0 = .ok (.iload_n 1, 1) := by decide +kernel
theorem d_MO_with0_1 : decode s_MO_with0.2.1 1 = .ok (.invokestatic 340, 3) := by decide +kernel
theorem d_MO_with0_4 : decode s_MO_with0.2.1 4 = .ok (.istore_n 3, 1) := by decide +kernel
theorem d_MO_with0_5 : decode s_MO_with0.2.1 5 = .ok (.iload_n 1, 1) := by decide +kernel
theorem d_MO_with0_6 : decode s_MO_with0.2.1 6 = .ok (.invokestatic 343, 3) := by decide +kernel
theorem d_MO_with0_9 : decode s_MO_with0.2.1 9 = .ok (.ifCond .eq 5, 3) := by decide +kernel
theorem d_MO_with0_12 : decode s_MO_with0.2.1 12 = .ok (.iconst (-1), 1) := by decide +kernel
theorem d_MO_with0_13 : decode s_MO_with0.2.1 13 = .ok (.ireturn, 1) := by decide +kernel
theorem d_MO_with0_14 : decode s_MO_with0.2.1 14 = .ok (.iload_n 3, 1) := by decide +kernel
theorem d_MO_with0_15 : decode s_MO_with0.2.1 15 = .ok (.ifCond .ne 10, 3) := by decide +kernel
theorem d_MO_with0_18 : decode s_MO_with0.2.1 18 = .ok (.iload_n 1, 1) := by decide +kernel
theorem d_MO_with0_19 : decode s_MO_with0.2.1 19 = .ok (.iload_n 2, 1) := by decide +kernel
theorem d_MO_with0_20 : decode s_MO_with0.2.1 20 = .ok (.bipush 6, 2) := by decide +kernel
theorem d_MO_with0_22 : decode s_MO_with0.2.1 22 = .ok (.ishl, 1) := by decide +kernel
theorem d_MO_with0_23 : decode s_MO_with0.2.1 23 = .ok (.ior, 1) := by decide +kernel
theorem d_MO_with0_24 : decode s_MO_with0.2.1 24 = .ok (.ireturn, 1) := by decide +kernel
theorem d_MO_with0_25 : decode s_MO_with0.2.1 25 = .ok (.aload_n 0, 1) := by decide +kernel
theorem d_MO_with0_26 : decode s_MO_with0.2.1 26 = .ok (.getfield 81, 3) := by decide +kernel
theorem d_MO_with0_29 : decode s_MO_with0.2.1 29 = .ok (.iconst 4, 1) := by decide +kernel
theorem d_MO_with0_30 : decode s_MO_with0.2.1 30 = .ok (.iaload, 1) := by decide +kernel
theorem d_MO_with0_31 : decode s_MO_with0.2.1 31 = .ok (.ifCond .eq 8, 3) := by decide +kernel
theorem d_MO_with0_34 : decode s_MO_with0.2.1 34 = .ok (.iload_n 3, 1) := by decide +kernel
theorem d_MO_with0_35 : decode s_MO_with0.2.1 35 = .ok (.iload_n 2, 1) := by decide +kernel
theorem d_MO_with0_36 : decode s_MO_with0.2.1 36 = .ok (.if_icmp .gt 9, 3) := by decide +kernel
theorem d_MO_with0_39 : decode s_MO_with0.2.1 39 = .ok (.iload_n 1, 1) := by decide +kernel
theorem d_MO_with0_40 : decode s_MO_with0.2.1 40 = .ok (.iload_n 2, 1) := by decide +kernel
theorem d_MO_with0_41 : decode s_MO_with0.2.1 41 = .ok (.iconst 3, 1) := by decide +kernel
theorem d_MO_with0_42 : decode s_MO_with0.2.1 42 = .ok (.ishl, 1) := by decide +kernel
theorem d_MO_with0_43 : decode s_MO_with0.2.1 43 = .ok (.ior, 1) := by decide +kernel
theorem d_MO_with0_44 : decode s_MO_with0.2.1 44 = .ok (.ireturn, 1) := by decide +kernel
theorem d_MO_with0_45 : decode s_MO_with0.2.1 45 = .ok (.iload_n 1, 1) := by decide +kernel
theorem d_MO_with0_46 : decode s_MO_with0.2.1 46 = .ok (.sipush (-505), 3) := by decide +kernel
theorem d_MO_with0_49 : decode s_MO_with0.2.1 49 = .ok (.iand, 1) := by decide +kernel
theorem d_MO_with0_50 : decode s_MO_with0.2.1 50 = .ok (.iload_n 2, 1) := by decide +kernel
theorem d_MO_with0_51 : decode s_MO_with0.2.1 51 = .ok (.bipush 6, 2) := by decide +kernel
theorem d_MO_with0_53 : decode s_MO_with0.2.1 53 = .ok (.ishl, 1) := by decide +kernel
theorem d_MO_with0_54 : decode s_MO_with0.2.1 54 = .ok (.ior, 1) := by decide +kernel
theorem d_MO_with0_55 : decode s_MO_with0.2.1 55 = .ok (.iload_n 3, 1) := by decide +kernel
theorem d_MO_with0_56 : decode s_MO_with0.2.1 56 = .ok (.iconst 3, 1) := by decide +kernel
theorem d_MO_with0_57 : decode s_MO_with0.2.1 57 = .ok (.ishl, 1) := by decide +kernel
theorem d_MO_with0_58 : decode s_MO_with0.2.1 58 = .ok (.ior, 1) := by decide +kernel
theorem d_MO_with0_59 : decode s_MO_with0.2.1 59 = .ok (.ireturn, 1) := by decide +kernel
theorem d_MO_isMovedAt_0 : decode s_MO_isMovedAt.2.1 0 = .ok (.aload_n 0, 1) := by decide +kernel
theorem d_MO_isMovedAt_1 : decode s_MO_isMovedAt.2.1 1 = .ok (.getfield 334, 3) := by decide +kernel
theorem d_MO_isMovedAt_4 : decode s_MO_isMovedAt.2.1 4 = .ok (.aload_n 0, 1) := by decide +kernel
theorem d_MO_isMovedAt_5 : decode s_MO_isMovedAt.2.1 5 = .ok (.iload_n 1, 1) := by decide +kernel
theorem d_MO_isMovedAt_6 : decode s_MO_isMovedAt.2.1 6 = .ok (.iconst 1, 1) := by decide +kernel
theorem d_MO_isMovedAt_7 : decode s_MO_isMovedAt.2.1 7 = .ok (.invokevirtual 349, 3) := by decide +kernel
theorem d_MO_isMovedAt_10 : decode s_MO_isMovedAt.2.1 10 = .ok (.if_icmp .ne 23, 3) := by decide +kernel
theorem d_MO_isMovedAt_13 : decode s_MO_isMovedAt.2.1 13 = .ok (.aload_n 0, 1) := by decide +kernel
theorem d_MO_isMovedAt_14 : decode s_MO_isMovedAt.2.1 14 = .ok (.getfield 87, 3) := by decide +kernel
theorem d_MO_isMovedAt_17 : decode s_MO_isMovedAt.2.1 17 = .ok (.iload_n 2, 1) := by decide +kernel
theorem d_MO_isMovedAt_18 : decode s_MO_isMovedAt.2.1 18 = .ok (.iaload, 1) := by decide +kernel
theorem d_MO_isMovedAt_19 : decode s_MO_isMovedAt.2.1 19 = .ok (.invokestatic 355, 3) := by decide +kernel
theorem d_MO_isMovedAt_22 : decode s_MO_isMovedAt.2.1 22 = .ok (.aload_n 0, 1) := by decide +kernel
theorem d_MO_isMovedAt_23 : decode s_MO_isMovedAt.2.1 23 = .ok (.iload_n 1, 1) := by decide +kernel
theorem d_MO_isMovedAt_24 : decode s_MO_isMovedAt.2.1 24 = .ok (.iconst 2, 1) := by decide +kernel
theorem d_MO_isMovedAt_25 : decode s_MO_isMovedAt.2.1 25 = .ok (.invokevirtual 349, 3) := by decide +kernel
theorem d_MO_isMovedAt_28 : decode s_MO_isMovedAt.2.1 28 = .ok (.iconst 1, 1) := by decide +kernel
theorem d_MO_isMovedAt_29 : decode s_MO_isMovedAt.2.1 29 = .ok (.iadd, 1) := by decide +kernel
theorem d_MO_isMovedAt_30 : decode s_MO_isMovedAt.2.1 30 = .ok (.if_icmp .eq 5, 3) := by decide +kernel
theorem d_MO_isMovedAt_33 : decode s_MO_isMovedAt.2.1 33 = .ok (.iconst 0, 1) := by decide +kernel
theorem d_MO_isMovedAt_34 : decode s_MO_isMovedAt.2.1 34 = .ok (.ireturn, 1) := by decide +kernel
theorem d_MO_isMovedAt_35 : decode s_MO_isMovedAt.2.1 35 = .ok (.aload_n 0, 1) := by decide +kernel
theorem d_MO_isMovedAt_36 : decode s_MO_isMovedAt.2.1 36 = .ok (.iload_n 1, 1) := by decide +kernel
theorem d_MO_isMovedAt_37 : decode s_MO_isMovedAt.2.1 37 = .ok (.bipush 6, 2) := by decide +kernel
theorem d_MO_isMovedAt_39 : decode s_MO_isMovedAt.2.1 39 = .ok (.invokevirtual 349, 3) := by decide +kernel
theorem d_MO_isMovedAt_42 : decode s_MO_isMovedAt.2.1 42 = .ok (.iconst (-1), 1) := by decide +kernel
theorem d_MO_isMovedAt_43 : decode s_MO_isMovedAt.2.1 43 = .ok (.if_icmp .eq 36, 3) := by decide +kernel
theorem d_MO_isMovedAt_46 : decode s_MO_isMovedAt.2.1 46 = .ok (.aload_n 0, 1) := by decide +kernel
theorem d_MO_isMovedAt_47 : decode s_MO_isMovedAt.2.1 47 = .ok (.aload_n 0, 1) := by decide +kernel
theorem d_MO_isMovedAt_48 : decode s_MO_isMovedAt.2.1 48 = .ok (.iload_n 1, 1) := by decide +kernel
theorem d_MO_isMovedAt_49 : decode s_MO_isMovedAt.2.1 49 = .ok (.bipush 6, 2) := by decide +kernel
theorem d_MO_isMovedAt_51 : decode s_MO_isMovedAt.2.1 51 = .ok (.invokevirtual 349, 3) := by decide +kernel
theorem d_MO_isMovedAt_54 : decode s_MO_isMovedAt.2.1 54 = .ok (.iload_n 2, 1) := by decide +kernel
theorem d_MO_isMovedAt_55 : decode s_MO_isMovedAt.2.1 55 = .ok (.invokevirtual 361, 3) := by decide +kernel
theorem d_MO_isMovedAt_58 : decode s_MO_isMovedAt.2.1 58 = .ok (.aload_n 0, 1) := by decide +kernel
theorem d_MO_isMovedAt_59 : decode s_MO_isMovedAt.2.1 59 = .ok (.iload_n 1, 1) := by decide +kernel
theorem d_MO_isMovedAt_60 : decode s_MO_isMovedAt.2.1 60 = .ok (.bipush 7, 2) := by decide +kernel
theorem d_MO_isMovedAt_62 : decode s_MO_isMovedAt.2.1 62 = .ok (.invokevirtual 349, 3) := by decide +kernel
theorem d_MO_isMovedAt_65 : decode s_MO_isMovedAt.2.1 65 = .ok (.iconst 1, 1) := by decide +kernel
theorem d_MO_isMovedAt_66 : decode s_MO_isMovedAt.2.1 66 = .ok (.if_icmp .ne 7, 3) := by decide +kernel
theorem d_MO_isMovedAt_69 : decode s_MO_isMovedAt.2.1 69 = .ok (.iconst 1, 1) := by decide +kernel
theorem d_MO_isMovedAt_70 : decode s_MO_isMovedAt.2.1 70 = .ok (.goto 4, 3) := by decide +kernel
theorem d_MO_isMovedAt_73 : decode s_MO_isMovedAt.2.1 73 = .ok (.iconst 0, 1) := by decide +kernel
theorem d_MO_isMovedAt_74 : decode s_MO_isMovedAt.2.1 74 = .ok (.if_icmp .eq 5, 3) := by decide +kernel
theorem d_MO_isMovedAt_77 : decode s_MO_isMovedAt.2.1 77 = .ok (.iconst 0, 1) := by decide +kernel
theorem d_MO_isMovedAt_78 : decode s_MO_isMovedAt.2.1 78 = .ok (.ireturn, 1) := by decide +kernel
theorem d_MO_isMovedAt_79 : decode s_MO_isMovedAt.2.1 79 = .ok (.aload_n 0, 1) := by decide +kernel
theorem d_MO_isMovedAt_80 : decode s_MO_isMovedAt.2.1 80 = .ok (.getfield 90, 3) := by decide +kernel
theorem d_MO_isMovedAt_83 : decode s_MO_isMovedAt.2.1 83 = .ok (.iload_n 2, 1) := by decide +kernel
theorem d_MO_isMovedAt_84 : decode s_MO_isMovedAt.2.1 84 = .ok (.aload_n 0, 1) := by decide +kernel
theorem d_MO_isMovedAt_85 : decode s_MO_isMovedAt.2.1 85 = .ok (.getfield 87, 3) := by decide +kernel
theorem d_MO_isMovedAt_88 : decode s_MO_isMovedAt.2.1 88 = .ok (.iload_n 2, 1) := by decide +kernel
theorem d_MO_isMovedAt_89 : decode s_MO_isMovedAt.2.1 89 = .ok (.iaload, 1) := by decide +kernel
theorem d_MO_isMovedAt_90 : decode s_MO_isMovedAt.2.1 90 = .ok (.bipush (-8), 2) := by decide +kernel
theorem d_MO_isMovedAt_92 : decode s_MO_isMovedAt.2.1 92 = .ok (.iand, 1) := by decide +kernel
theorem d_MO_isMovedAt_93 : decode s_MO_isMovedAt.2.1 93 = .ok (.iastore, 1) := by decide +kernel
theorem d_MO_isMovedAt_94 : decode s_MO_isMovedAt.2.1 94 = .ok (.iconst 0, 1) := by decide +kernel
theorem d_MO_isMovedAt_95 : decode s_MO_isMovedAt.2.1 95 = .ok (.istore_n 3, 1) := by decide +kernel
theorem d_MO_isMovedAt_96 : decode s_MO_isMovedAt.2.1 96 = .ok (.iload_n 3, 1) := by decide +kernel
theorem d_MO_isMovedAt_97 : decode s_MO_isMovedAt.2.1 97 = .ok (.aload_n 0, 1) := by decide +kernel
theorem d_MO_isMovedAt_98 : decode s_MO_isMovedAt.2.1 98 = .ok (.invokevirtual 358, 3) := by decide +kernel
theorem d_MO_isMovedAt_101 : decode s_MO_isMovedAt.2.1 101 = .ok (.if_icmp .ge 63, 3) := by decide +kernel
theorem d_MO_isMovedAt_104 : decode s_MO_isMovedAt.2.1 104 = .ok (.aload_n 0, 1) := by decide +kernel
theorem d_MO_isMovedAt_105 : decode s_MO_isMovedAt.2.1 105 = .ok (.iload_n 1, 1) := by decide +kernel
theorem d_MO_isMovedAt_106 : decode s_MO_isMovedAt.2.1 106 = .ok (.iload_n 3, 1) := by decide +kernel
theorem d_MO_isMovedAt_107 : decode s_MO_isMovedAt.2.1 107 = .ok (.iload_n 2, 1) := by decide +kernel
theorem d_MO_isMovedAt_108 : decode s_MO_isMovedAt.2.1 108 = .ok (.if_icmp .ne 7, 3) := by decide +kernel
theorem d_MO_isMovedAt_111 : decode s_MO_isMovedAt.2.1 111 = .ok (.iconst 4, 1) := by decide +kernel
theorem d_MO_isMovedAt_112 : decode s_MO_isMovedAt.2.1 112 = .ok (.goto 4, 3) := by decide +kernel
theorem d_MO_isMovedAt_115 : decode s_MO_isMovedAt.2.1 115 = .ok (.iconst 5, 1) := by decide +kernel
theorem d_MO_isMovedAt_116 : decode s_MO_isMovedAt.2.1 116 = .ok (.invokevirtual 349, 3) := by decide +kernel
theorem d_MO_isMovedAt_119 : decode s_MO_isMovedAt.2.1 119 = .ok (.istore 4, 2) := by decide +kernel
theorem d_MO_isMovedAt_121 : decode s_MO_isMovedAt.2.1 121 = .ok (.iload 4, 2) := by decide +kernel
theorem d_MO_isMovedAt_123 : decode s_MO_isMovedAt.2.1 123 = .ok (.iconst (-1), 1) := by decide +kernel
theorem d_MO_isMovedAt_124 : decode s_MO_isMovedAt.2.1 124 = .ok (.if_icmp .eq 23, 3) := by decide +kernel
theorem d_MO_isMovedAt_127 : decode s_MO_isMovedAt.2.1 127 = .ok (.aload_n 0, 1) := by decide +kernel
theorem d_MO_isMovedAt_128 : decode s_MO_isMovedAt.2.1 128 = .ok (.getfield 90, 3) := by decide +kernel
theorem d_MO_isMovedAt_131 : decode s_MO_isMovedAt.2.1 131 = .ok (.iload_n 3, 1) := by decide +kernel
theorem d_MO_isMovedAt_132 : decode s_MO_isMovedAt.2.1 132 = .ok (.aload_n 0, 1) := by decide +kernel
theorem d_MO_isMovedAt_133 : decode s_MO_isMovedAt.2.1 133 = .ok (.aload_n 0, 1) := by decide +kernel
theorem d_MO_isMovedAt_134 : decode s_MO_isMovedAt.2.1 134 = .ok (.getfield 90, 3) := by decide +kernel
theorem d_MO_isMovedAt_137 : decode s_MO_isMovedAt.2.1 137 = .ok (.iload_n 3, 1) := by decide +kernel
theorem d_MO_isMovedAt_138 : decode s_MO_isMovedAt.2.1 138 = .ok (.iaload, 1) := by decide +kernel
theorem d_MO_isMovedAt_139 : decode s_MO_isMovedAt.2.1 139 = .ok (.iload 4, 2) := by decide +kernel
theorem d_MO_isMovedAt_141 : decode s_MO_isMovedAt.2.1 141 = .ok (.iconst 1, 1) := by decide +kernel
theorem d_MO_isMovedAt_142 : decode s_MO_isMovedAt.2.1 142 = .ok (.iadd, 1) := by decide +kernel
theorem d_MO_isMovedAt_143 : decode s_MO_isMovedAt.2.1 143 = .ok (.invokevirtual 365, 3) := by decide +kernel
theorem d_MO_isMovedAt_146 : decode s_MO_isMovedAt.2.1 146 = .ok (.iastore, 1) := by decide +kernel
theorem d_MO_isMovedAt_147 : decode s_MO_isMovedAt.2.1 147 = .ok (.aload_n 0, 1) := by decide +kernel
theorem d_MO_isMovedAt_148 : decode s_MO_isMovedAt.2.1 148 = .ok (.getfield 90, 3) := by decide +kernel
theorem d_MO_isMovedAt_151 : decode s_MO_isMovedAt.2.1 151 = .ok (.iload_n 3, 1) := by decide +kernel
theorem d_MO_isMovedAt_152 : decode s_MO_isMovedAt.2.1 152 = .ok (.iaload, 1) := by decide +kernel
theorem d_MO_isMovedAt_153 : decode s_MO_isMovedAt.2.1 153 = .ok (.ifCond .ge 5, 3) := by decide +kernel
theorem d_MO_isMovedAt_156 : decode s_MO_isMovedAt.2.1 156 = .ok (.iconst 0, 1) := by decide +kernel
theorem d_MO_isMovedAt_157 : decode s_MO_isMovedAt.2.1 157 = .ok (.ireturn, 1) := by decide +kernel
theorem d_MO_isMovedAt_158 : decode s_MO_isMovedAt.2.1 158 = .ok (.iinc 3 1, 3) := by decide +kernel
theorem d_MO_isMovedAt_161 : decode s_MO_isMovedAt.2.1 161 = .ok (.goto (-65), 3) := by decide +kernel
theorem d_MO_isMovedAt_164 : decode s_MO_isMovedAt.2.1 164 = .ok (.aload_n 0, 1) := by decide +kernel
theorem d_MO_isMovedAt_165 : decode s_MO_isMovedAt.2.1 165 = .ok (.aload_n 0, 1) := by decide +kernel
theorem d_MO_isMovedAt_166 : decode s_MO_isMovedAt.2.1 166 = .ok (.iload_n 1, 1) := by decide +kernel
theorem d_MO_isMovedAt_167 : decode s_MO_isMovedAt.2.1 167 = .ok (.iconst 3, 1) := by decide +kernel
theorem d_MO_isMovedAt_168 : decode s_MO_isMovedAt.2.1 168 = .ok (.invokevirtual 349, 3) := by decide +kernel
theorem d_MO_isMovedAt_171 : decode s_MO_isMovedAt.2.1 171 = .ok (.putfield 337, 3) := by decide +kernel
theorem d_MO_isMovedAt_174 : decode s_MO_isMovedAt.2.1 174 = .ok (.iconst 1, 1) := by decide +kernel
theorem d_MO_isMovedAt_175 : decode s_MO_isMovedAt.2.1 175 = .ok (.ireturn, 1) := by decide +kernel
theorem d_MO_isMoved_0 : decode s_MO_isMoved.2.1 0 = .ok (.aload_n 0, 1) := by decide +kernel
theorem d_MO_isMoved_1 : decode s_MO_isMoved.2.1 1 = .ok (.aload_n 0, 1) := by decide +kernel
theorem d_MO_isMoved_2 : decode s_MO_isMoved.2.1 2 = .ok (.getfield 334, 3) := by decide +kernel
theorem d_MO_isMoved_5 : decode s_MO_isMoved.2.1 5 = .ok (.putfield 337, 3) := by decide +kernel
theorem d_MO_isMoved_8 : decode s_MO_isMoved.2.1 8 = .ok (.iconst 0, 1) := by decide +kernel
theorem d_MO_isMoved_9 : decode s_MO_isMoved.2.1 9 = .ok (.istore_n 3, 1) := by decide +kernel
theorem d_MO_isMoved_10 : decode s_MO_isMoved.2.1 10 = .ok (.iload_n 3, 1) := by decide +kernel
theorem d_MO_isMoved_11 : decode s_MO_isMoved.2.1 11 = .ok (.iconst 4, 1) := by decide +kernel
theorem d_MO_isMoved_12 : decode s_MO_isMoved.2.1 12 = .ok (.if_icmp .ge 21, 3) := by decide +kernel
theorem d_MO_isMoved_15 : decode s_MO_isMoved.2.1 15 = .ok (.aload_n 0, 1) := by decide +kernel
theorem d_MO_isMoved_16 : decode s_MO_isMoved.2.1 16 = .ok (.getfield 90, 3) := by decide +kernel
theorem d_MO_isMoved_19 : decode s_MO_isMoved.2.1 19 = .ok (.iload_n 3, 1) := by decide +kernel
theorem d_MO_isMoved_20 : decode s_MO_isMoved.2.1 20 = .ok (.aload_n 0, 1) := by decide +kernel
theorem d_MO_isMoved_21 : decode s_MO_isMoved.2.1 21 = .ok (.getfield 87, 3) := by decide +kernel
theorem d_MO_isMoved_24 : decode s_MO_isMoved.2.1 24 = .ok (.iload_n 3, 1) := by decide +kernel
theorem d_MO_isMoved_25 : decode s_MO_isMoved.2.1 25 = .ok (.iaload, 1) := by decide +kernel
theorem d_MO_isMoved_26 : decode s_MO_isMoved.2.1 26 = .ok (.iastore, 1) := by decide +kernel
theorem d_MO_isMoved_27 : decode s_MO_isMoved.2.1 27 = .ok (.iinc 3 1, 3) := by decide +kernel
theorem d_MO_isMoved_30 : decode s_MO_isMoved.2.1 30 = .ok (.goto (-20), 3) := by decide +kernel
theorem d_MO_isMoved_33 : decode s_MO_isMoved.2.1 33 = .ok (.aload_n 0, 1) := by decide +kernel
theorem d_MO_isMoved_34 : decode s_MO_isMoved.2.1 34 = .ok (.iload_n 1, 1) := by decide +kernel
theorem d_MO_isMoved_35 : decode s_MO_isMoved.2.1 35 = .ok (.iconst 0, 1) := by decide +kernel
theorem d_MO_isMoved_36 : decode s_MO_isMoved.2.1 36 = .ok (.invokevirtual 349, 3) := by decide +kernel
theorem d_MO_isMoved_39 : decode s_MO_isMoved.2.1 39 = .ok (.ifCond .ne 12, 3) := by decide +kernel
theorem d_MO_isMoved_42 : decode s_MO_isMoved.2.1 42 = .ok (.aload_n 0, 1) := by decide +kernel
theorem d_MO_isMoved_43 : decode s_MO_isMoved.2.1 43 = .ok (.iload_n 1, 1) := by decide +kernel
theorem d_MO_isMoved_44 : decode s_MO_isMoved.2.1 44 = .ok (.iload_n 2, 1) := by decide +kernel
theorem d_MO_isMoved_45 : decode s_MO_isMoved.2.1 45 = .ok (.invokevirtual 368, 3) := by decide +kernel
theorem d_MO_isMoved_48 : decode s_MO_isMoved.2.1 48 = .ok (.goto 9, 3) := by decide +kernel
theorem d_MO_isMoved_51 : decode s_MO_isMoved.2.1 51 = .ok (.aload_n 0, 1) := by decide +kernel
theorem d_MO_isMoved_52 : decode s_MO_isMoved.2.1 52 = .ok (.iload_n 1, 1) := by decide +kernel
theorem d_MO_isMoved_53 : decode s_MO_isMoved.2.1 53 = .ok (.iload_n 2, 1) := by decide +kernel
theorem d_MO_isMoved_54 : decode s_MO_isMoved.2.1 54 = .ok (.invokevirtual 371, 3) := by decide +kernel
theorem d_MO_isMoved_57 : decode s_MO_isMoved.2.1 57 = .ok (.ireturn, 1) := by decide +kernel
theorem d_MO_folds_0 : decode s_MO_folds.2.1 0 = .ok (.iconst 1, 1) := by decide +kernel
theorem d_MO_folds_1 : decode s_MO_folds.2.1 1 = .ok (.istore_n 1, 1) := by decide +kernel
theorem d_MO_folds_2 : decode s_MO_folds.2.1 2 = .ok (.iload_n 1, 1) := by decide +kernel
theorem d_MO_folds_3 : decode s_MO_folds.2.1 3 = .ok (.aload_n 0, 1) := by decide +kernel
theorem d_MO_folds_4 : decode s_MO_folds.2.1 4 = .ok (.invokevirtual 358, 3) := by decide +kernel
theorem d_MO_folds_7 : decode s_MO_folds.2.1 7 = .ok (.if_icmp .ge 68, 3) := by decide +kernel
theorem d_MO_folds_10 : decode s_MO_folds.2.1 10 = .ok (.iload_n 1, 1) := by decide +kernel
theorem d_MO_folds_11 : decode s_MO_folds.2.1 11 = .ok (.istore_n 2, 1) := by decide +kernel
theorem d_MO_folds_12 : decode s_MO_folds.2.1 12 = .ok (.iload_n 2, 1) := by decide +kernel
theorem d_MO_folds_13 : decode s_MO_folds.2.1 13 = .ok (.ifCond .le 56, 3) := by decide +kernel
theorem d_MO_folds_16 : decode s_MO_folds.2.1 16 = .ok (.aload_n 0, 1) := by decide +kernel
theorem d_MO_folds_17 : decode s_MO_folds.2.1 17 = .ok (.getfield 90, 3) := by decide +kernel
theorem d_MO_folds_20 : decode s_MO_folds.2.1 20 = .ok (.iload_n 2, 1) := by decide +kernel
theorem d_MO_folds_21 : decode s_MO_folds.2.1 21 = .ok (.iconst 1, 1) := by decide +kernel
theorem d_MO_folds_22 : decode s_MO_folds.2.1 22 = .ok (.isub, 1) := by decide +kernel
theorem d_MO_folds_23 : decode s_MO_folds.2.1 23 = .ok (.iaload, 1) := by decide +kernel
theorem d_MO_folds_24 : decode s_MO_folds.2.1 24 = .ok (.aload_n 0, 1) := by decide +kernel
theorem d_MO_folds_25 : decode s_MO_folds.2.1 25 = .ok (.getfield 90, 3) := by decide +kernel
theorem d_MO_folds_28 : decode s_MO_folds.2.1 28 = .ok (.iload_n 2, 1) := by decide +kernel
theorem d_MO_folds_29 : decode s_MO_folds.2.1 29 = .ok (.iaload, 1) := by decide +kernel
theorem d_MO_folds_30 : decode s_MO_folds.2.1 30 = .ok (.if_icmp .le 39, 3) := by decide +kernel
theorem d_MO_folds_33 : decode s_MO_folds.2.1 33 = .ok (.aload_n 0, 1) := by decide +kernel
theorem d_MO_folds_34 : decode s_MO_folds.2.1 34 = .ok (.getfield 90, 3) := by decide +kernel
theorem d_MO_folds_37 : decode s_MO_folds.2.1 37 = .ok (.iload_n 2, 1) := by decide +kernel
theorem d_MO_folds_38 : decode s_MO_folds.2.1 38 = .ok (.iaload, 1) := by decide +kernel
theorem d_MO_folds_39 : decode s_MO_folds.2.1 39 = .ok (.istore_n 3, 1) := by decide +kernel
theorem d_MO_folds_40 : decode s_MO_folds.2.1 40 = .ok (.aload_n 0, 1) := by decide +kernel
theorem d_MO_folds_41 : decode s_MO_folds.2.1 41 = .ok (.getfield 90, 3) := by decide +kernel
theorem d_MO_folds_44 : decode s_MO_folds.2.1 44 = .ok (.iload_n 2, 1) := by decide +kernel
theorem d_MO_folds_45 : decode s_MO_folds.2.1 45 = .ok (.aload_n 0, 1) := by decide +kernel
theorem d_MO_folds_46 : decode s_MO_folds.2.1 46 = .ok (.getfield 90, 3) := by decide +kernel
theorem d_MO_folds_49 : decode s_MO_folds.2.1 49 = .ok (.iload_n 2, 1) := by decide +kernel
theorem d_MO_folds_50 : decode s_MO_folds.2.1 50 = .ok (.iconst 1, 1) := by decide +kernel
theorem d_MO_folds_51 : decode s_MO_folds.2.1 51 = .ok (.isub, 1) := by decide +kernel
theorem d_MO_folds_52 : decode s_MO_folds.2.1 52 = .ok (.iaload, 1) := by decide +kernel
theorem d_MO_folds_53 : decode s_MO_folds.2.1 53 = .ok (.iastore, 1) := by decide +kernel
theorem d_MO_folds_54 : decode s_MO_folds.2.1 54 = .ok (.aload_n 0, 1) := by decide +kernel
theorem d_MO_folds_55 : decode s_MO_folds.2.1 55 = .ok (.getfield 90, 3) := by decide +kernel
theorem d_MO_folds_58 : decode s_MO_folds.2.1 58 = .ok (.iload_n 2, 1) := by decide +kernel
theorem d_MO_folds_59 : decode s_MO_folds.2.1 59 = .ok (.iconst 1, 1) := by decide +kernel
theorem d_MO_folds_60 : decode s_MO_folds.2.1 60 = .ok (.isub, 1) := by decide +kernel
theorem d_MO_folds_61 : decode s_MO_folds.2.1 61 = .ok (.iload_n 3, 1) := by decide +kernel
theorem d_MO_folds_62 : decode s_MO_folds.2.1 62 = .ok (.iastore, 1) := by decide +kernel
theorem d_MO_folds_63 : decode s_MO_folds.2.1 63 = .ok (.iinc 2 (-1), 3) := by decide +kernel
theorem d_MO_folds_66 : decode s_MO_folds.2.1 66 = .ok (.goto (-54), 3) := by decide +kernel
theorem d_MO_folds_69 : decode s_MO_folds.2.1 69 = .ok (.iinc 1 1, 3) := by decide +kernel
theorem d_MO_folds_72 : decode s_MO_folds.2.1 72 = .ok (.goto (-70), 3) := by decide +kernel
theorem d_MO_folds_75 : decode s_MO_folds.2.1 75 = .ok (.return_, 1) := by decide +kernel
theorem d_MO_comesBy_0 : decode s_MO_comesBy.2.1 0 = .ok (.aload_n 0, 1) := by decide +kernel
theorem d_MO_comesBy_1 : decode s_MO_comesBy.2.1 1 = .ok (.aload_n 0, 1) := by decide +kernel
theorem d_MO_comesBy_2 : decode s_MO_comesBy.2.1 2 = .ok (.getfield 96, 3) := by decide +kernel
theorem d_MO_comesBy_5 : decode s_MO_comesBy.2.1 5 = .ok (.iload_n 1, 1) := by decide +kernel
theorem d_MO_comesBy_6 : decode s_MO_comesBy.2.1 6 = .ok (.laload, 1) := by decide +kernel
theorem d_MO_comesBy_7 : decode s_MO_comesBy.2.1 7 = .ok (.invokevirtual 415, 3) := by decide +kernel
theorem d_MO_comesBy_10 : decode s_MO_comesBy.2.1 10 = .ok (.iconst 0, 1) := by decide +kernel
theorem d_MO_comesBy_11 : decode s_MO_comesBy.2.1 11 = .ok (.istore_n 3, 1) := by decide +kernel
theorem d_MO_comesBy_12 : decode s_MO_comesBy.2.1 12 = .ok (.iload_n 3, 1) := by decide +kernel
theorem d_MO_comesBy_13 : decode s_MO_comesBy.2.1 13 = .ok (.aload_n 0, 1) := by decide +kernel
theorem d_MO_comesBy_14 : decode s_MO_comesBy.2.1 14 = .ok (.invokevirtual 358, 3) := by decide +kernel
theorem d_MO_comesBy_17 : decode s_MO_comesBy.2.1 17 = .ok (.if_icmp .ge 41, 3) := by decide +kernel
theorem d_MO_comesBy_20 : decode s_MO_comesBy.2.1 20 = .ok (.aload_n 0, 1) := by decide +kernel
theorem d_MO_comesBy_21 : decode s_MO_comesBy.2.1 21 = .ok (.iload_n 2, 1) := by decide +kernel
theorem d_MO_comesBy_22 : decode s_MO_comesBy.2.1 22 = .ok (.iload_n 3, 1) := by decide +kernel
theorem d_MO_comesBy_23 : decode s_MO_comesBy.2.1 23 = .ok (.invokevirtual 419, 3) := by decide +kernel
theorem d_MO_comesBy_26 : decode s_MO_comesBy.2.1 26 = .ok (.ifCond .ne 6, 3) := by decide +kernel
theorem d_MO_comesBy_29 : decode s_MO_comesBy.2.1 29 = .ok (.goto 23, 3) := by decide +kernel
theorem d_MO_comesBy_32 : decode s_MO_comesBy.2.1 32 = .ok (.aload_n 0, 1) := by decide +kernel
theorem d_MO_comesBy_33 : decode s_MO_comesBy.2.1 33 = .ok (.invokevirtual 422, 3) := by decide +kernel
theorem d_MO_comesBy_36 : decode s_MO_comesBy.2.1 36 = .ok (.aload_n 0, 1) := by decide +kernel
theorem d_MO_comesBy_37 : decode s_MO_comesBy.2.1 37 = .ok (.aload_n 0, 1) := by decide +kernel
theorem d_MO_comesBy_38 : decode s_MO_comesBy.2.1 38 = .ok (.invokevirtual 392, 3) := by decide +kernel
theorem d_MO_comesBy_41 : decode s_MO_comesBy.2.1 41 = .ok (.aload_n 0, 1) := by decide +kernel
theorem d_MO_comesBy_42 : decode s_MO_comesBy.2.1 42 = .ok (.getfield 100, 3) := by decide +kernel
theorem d_MO_comesBy_45 : decode s_MO_comesBy.2.1 45 = .ok (.iload_n 1, 1) := by decide +kernel
theorem d_MO_comesBy_46 : decode s_MO_comesBy.2.1 46 = .ok (.iaload, 1) := by decide +kernel
theorem d_MO_comesBy_47 : decode s_MO_comesBy.2.1 47 = .ok (.iconst 1, 1) := by decide +kernel
theorem d_MO_comesBy_48 : decode s_MO_comesBy.2.1 48 = .ok (.iadd, 1) := by decide +kernel
theorem d_MO_comesBy_49 : decode s_MO_comesBy.2.1 49 = .ok (.invokevirtual 396, 3) := by decide +kernel
theorem d_MO_comesBy_52 : decode s_MO_comesBy.2.1 52 = .ok (.iinc 3 1, 3) := by decide +kernel
theorem d_MO_comesBy_55 : decode s_MO_comesBy.2.1 55 = .ok (.goto (-43), 3) := by decide +kernel
theorem d_MO_comesBy_58 : decode s_MO_comesBy.2.1 58 = .ok (.return_, 1) := by decide +kernel
theorem d_MO_sorts_0 : decode s_MO_sorts.2.1 0 = .ok (.iconst 1, 1) := by decide +kernel
theorem d_MO_sorts_1 : decode s_MO_sorts.2.1 1 = .ok (.istore_n 1, 1) := by decide +kernel
theorem d_MO_sorts_2 : decode s_MO_sorts.2.1 2 = .ok (.iload_n 1, 1) := by decide +kernel
theorem d_MO_sorts_3 : decode s_MO_sorts.2.1 3 = .ok (.aload_n 0, 1) := by decide +kernel
theorem d_MO_sorts_4 : decode s_MO_sorts.2.1 4 = .ok (.getfield 380, 3) := by decide +kernel
theorem d_MO_sorts_7 : decode s_MO_sorts.2.1 7 = .ok (.if_icmp .ge 129, 3) := by decide +kernel
theorem d_MO_sorts_10 : decode s_MO_sorts.2.1 10 = .ok (.aload_n 0, 1) := by decide +kernel
theorem d_MO_sorts_11 : decode s_MO_sorts.2.1 11 = .ok (.getfield 96, 3) := by decide +kernel
theorem d_MO_sorts_14 : decode s_MO_sorts.2.1 14 = .ok (.iload_n 1, 1) := by decide +kernel
theorem d_MO_sorts_15 : decode s_MO_sorts.2.1 15 = .ok (.laload, 1) := by decide +kernel
theorem d_MO_sorts_16 : decode s_MO_sorts.2.1 16 = .ok (.lstore_n 2, 1) := by decide +kernel
theorem d_MO_sorts_17 : decode s_MO_sorts.2.1 17 = .ok (.aload_n 0, 1) := by decide +kernel
theorem d_MO_sorts_18 : decode s_MO_sorts.2.1 18 = .ok (.getfield 100, 3) := by decide +kernel
theorem d_MO_sorts_21 : decode s_MO_sorts.2.1 21 = .ok (.iload_n 1, 1) := by decide +kernel
theorem d_MO_sorts_22 : decode s_MO_sorts.2.1 22 = .ok (.iaload, 1) := by decide +kernel
theorem d_MO_sorts_23 : decode s_MO_sorts.2.1 23 = .ok (.istore 4, 2) := by decide +kernel
theorem d_MO_sorts_25 : decode s_MO_sorts.2.1 25 = .ok (.iload_n 1, 1) := by decide +kernel
theorem d_MO_sorts_26 : decode s_MO_sorts.2.1 26 = .ok (.istore 5, 2) := by decide +kernel
theorem d_MO_sorts_28 : decode s_MO_sorts.2.1 28 = .ok (.iload 5, 2) := by decide +kernel
theorem d_MO_sorts_30 : decode s_MO_sorts.2.1 30 = .ok (.ifCond .le 83, 3) := by decide +kernel
theorem d_MO_sorts_33 : decode s_MO_sorts.2.1 33 = .ok (.aload_n 0, 1) := by decide +kernel
theorem d_MO_sorts_34 : decode s_MO_sorts.2.1 34 = .ok (.getfield 100, 3) := by decide +kernel
theorem d_MO_sorts_37 : decode s_MO_sorts.2.1 37 = .ok (.iload 5, 2) := by decide +kernel
theorem d_MO_sorts_39 : decode s_MO_sorts.2.1 39 = .ok (.iconst 1, 1) := by decide +kernel
theorem d_MO_sorts_40 : decode s_MO_sorts.2.1 40 = .ok (.isub, 1) := by decide +kernel
theorem d_MO_sorts_41 : decode s_MO_sorts.2.1 41 = .ok (.iaload, 1) := by decide +kernel
theorem d_MO_sorts_42 : decode s_MO_sorts.2.1 42 = .ok (.iload 4, 2) := by decide +kernel
theorem d_MO_sorts_44 : decode s_MO_sorts.2.1 44 = .ok (.if_icmp .gt 31, 3) := by decide +kernel
theorem d_MO_sorts_47 : decode s_MO_sorts.2.1 47 = .ok (.aload_n 0, 1) := by decide +kernel
theorem d_MO_sorts_48 : decode s_MO_sorts.2.1 48 = .ok (.getfield 100, 3) := by decide +kernel
theorem d_MO_sorts_51 : decode s_MO_sorts.2.1 51 = .ok (.iload 5, 2) := by decide +kernel
theorem d_MO_sorts_53 : decode s_MO_sorts.2.1 53 = .ok (.iconst 1, 1) := by decide +kernel
theorem d_MO_sorts_54 : decode s_MO_sorts.2.1 54 = .ok (.isub, 1) := by decide +kernel
theorem d_MO_sorts_55 : decode s_MO_sorts.2.1 55 = .ok (.iaload, 1) := by decide +kernel
theorem d_MO_sorts_56 : decode s_MO_sorts.2.1 56 = .ok (.iload 4, 2) := by decide +kernel
theorem d_MO_sorts_58 : decode s_MO_sorts.2.1 58 = .ok (.if_icmp .ne 55, 3) := by decide +kernel
theorem d_MO_sorts_61 : decode s_MO_sorts.2.1 61 = .ok (.aload_n 0, 1) := by decide +kernel
theorem d_MO_sorts_62 : decode s_MO_sorts.2.1 62 = .ok (.getfield 96, 3) := by decide +kernel
theorem d_MO_sorts_65 : decode s_MO_sorts.2.1 65 = .ok (.iload 5, 2) := by decide +kernel
theorem d_MO_sorts_67 : decode s_MO_sorts.2.1 67 = .ok (.iconst 1, 1) := by decide +kernel
theorem d_MO_sorts_68 : decode s_MO_sorts.2.1 68 = .ok (.isub, 1) := by decide +kernel
theorem d_MO_sorts_69 : decode s_MO_sorts.2.1 69 = .ok (.laload, 1) := by decide +kernel
theorem d_MO_sorts_70 : decode s_MO_sorts.2.1 70 = .ok (.lload_n 2, 1) := by decide +kernel
theorem d_MO_sorts_71 : decode s_MO_sorts.2.1 71 = .ok (.lcmp, 1) := by decide +kernel
theorem d_MO_sorts_72 : decode s_MO_sorts.2.1 72 = .ok (.ifCond .le 41, 3) := by decide +kernel
theorem d_MO_sorts_75 : decode s_MO_sorts.2.1 75 = .ok (.aload_n 0, 1) := by decide +kernel
theorem d_MO_sorts_76 : decode s_MO_sorts.2.1 76 = .ok (.getfield 96, 3) := by decide +kernel
theorem d_MO_sorts_79 : decode s_MO_sorts.2.1 79 = .ok (.iload 5, 2) := by decide +kernel
theorem d_MO_sorts_81 : decode s_MO_sorts.2.1 81 = .ok (.aload_n 0, 1) := by decide +kernel
theorem d_MO_sorts_82 : decode s_MO_sorts.2.1 82 = .ok (.getfield 96, 3) := by decide +kernel
theorem d_MO_sorts_85 : decode s_MO_sorts.2.1 85 = .ok (.iload 5, 2) := by decide +kernel
theorem d_MO_sorts_87 : decode s_MO_sorts.2.1 87 = .ok (.iconst 1, 1) := by decide +kernel
theorem d_MO_sorts_88 : decode s_MO_sorts.2.1 88 = .ok (.isub, 1) := by decide +kernel
theorem d_MO_sorts_89 : decode s_MO_sorts.2.1 89 = .ok (.laload, 1) := by decide +kernel
theorem d_MO_sorts_90 : decode s_MO_sorts.2.1 90 = .ok (.lastore, 1) := by decide +kernel
theorem d_MO_sorts_91 : decode s_MO_sorts.2.1 91 = .ok (.aload_n 0, 1) := by decide +kernel
theorem d_MO_sorts_92 : decode s_MO_sorts.2.1 92 = .ok (.getfield 100, 3) := by decide +kernel
theorem d_MO_sorts_95 : decode s_MO_sorts.2.1 95 = .ok (.iload 5, 2) := by decide +kernel
theorem d_MO_sorts_97 : decode s_MO_sorts.2.1 97 = .ok (.aload_n 0, 1) := by decide +kernel
theorem d_MO_sorts_98 : decode s_MO_sorts.2.1 98 = .ok (.getfield 100, 3) := by decide +kernel
theorem d_MO_sorts_101 : decode s_MO_sorts.2.1 101 = .ok (.iload 5, 2) := by decide +kernel
theorem d_MO_sorts_103 : decode s_MO_sorts.2.1 103 = .ok (.iconst 1, 1) := by decide +kernel
theorem d_MO_sorts_104 : decode s_MO_sorts.2.1 104 = .ok (.isub, 1) := by decide +kernel
theorem d_MO_sorts_105 : decode s_MO_sorts.2.1 105 = .ok (.iaload, 1) := by decide +kernel
theorem d_MO_sorts_106 : decode s_MO_sorts.2.1 106 = .ok (.iastore, 1) := by decide +kernel
theorem d_MO_sorts_107 : decode s_MO_sorts.2.1 107 = .ok (.iinc 5 (-1), 3) := by decide +kernel
theorem d_MO_sorts_110 : decode s_MO_sorts.2.1 110 = .ok (.goto (-82), 3) := by decide +kernel
theorem d_MO_sorts_113 : decode s_MO_sorts.2.1 113 = .ok (.aload_n 0, 1) := by decide +kernel
theorem d_MO_sorts_114 : decode s_MO_sorts.2.1 114 = .ok (.getfield 96, 3) := by decide +kernel
theorem d_MO_sorts_117 : decode s_MO_sorts.2.1 117 = .ok (.iload 5, 2) := by decide +kernel
theorem d_MO_sorts_119 : decode s_MO_sorts.2.1 119 = .ok (.lload_n 2, 1) := by decide +kernel
theorem d_MO_sorts_120 : decode s_MO_sorts.2.1 120 = .ok (.lastore, 1) := by decide +kernel
theorem d_MO_sorts_121 : decode s_MO_sorts.2.1 121 = .ok (.aload_n 0, 1) := by decide +kernel
theorem d_MO_sorts_122 : decode s_MO_sorts.2.1 122 = .ok (.getfield 100, 3) := by decide +kernel
theorem d_MO_sorts_125 : decode s_MO_sorts.2.1 125 = .ok (.iload 5, 2) := by decide +kernel
theorem d_MO_sorts_127 : decode s_MO_sorts.2.1 127 = .ok (.iload 4, 2) := by decide +kernel
theorem d_MO_sorts_129 : decode s_MO_sorts.2.1 129 = .ok (.iastore, 1) := by decide +kernel
theorem d_MO_sorts_130 : decode s_MO_sorts.2.1 130 = .ok (.iinc 1 1, 3) := by decide +kernel
theorem d_MO_sorts_133 : decode s_MO_sorts.2.1 133 = .ok (.goto (-131), 3) := by decide +kernel
theorem d_MO_sorts_136 : decode s_MO_sorts.2.1 136 = .ok (.iconst 0, 1) := by decide +kernel
theorem d_MO_sorts_137 : decode s_MO_sorts.2.1 137 = .ok (.istore_n 1, 1) := by decide +kernel
theorem d_MO_sorts_138 : decode s_MO_sorts.2.1 138 = .ok (.iload_n 1, 1) := by decide +kernel
theorem d_MO_sorts_139 : decode s_MO_sorts.2.1 139 = .ok (.sipush 2048, 3) := by decide +kernel
theorem d_MO_sorts_142 : decode s_MO_sorts.2.1 142 = .ok (.if_icmp .ge 16, 3) := by decide +kernel
theorem d_MO_sorts_145 : decode s_MO_sorts.2.1 145 = .ok (.aload_n 0, 1) := by decide +kernel
theorem d_MO_sorts_146 : decode s_MO_sorts.2.1 146 = .ok (.getfield 103, 3) := by decide +kernel
theorem d_MO_sorts_149 : decode s_MO_sorts.2.1 149 = .ok (.iload_n 1, 1) := by decide +kernel
theorem d_MO_sorts_150 : decode s_MO_sorts.2.1 150 = .ok (.iconst (-1), 1) := by decide +kernel
theorem d_MO_sorts_151 : decode s_MO_sorts.2.1 151 = .ok (.iastore, 1) := by decide +kernel
theorem d_MO_sorts_152 : decode s_MO_sorts.2.1 152 = .ok (.iinc 1 1, 3) := by decide +kernel
theorem d_MO_sorts_155 : decode s_MO_sorts.2.1 155 = .ok (.goto (-17), 3) := by decide +kernel
theorem d_MO_sorts_158 : decode s_MO_sorts.2.1 158 = .ok (.iconst 0, 1) := by decide +kernel
theorem d_MO_sorts_159 : decode s_MO_sorts.2.1 159 = .ok (.istore_n 1, 1) := by decide +kernel
theorem d_MO_sorts_160 : decode s_MO_sorts.2.1 160 = .ok (.iload_n 1, 1) := by decide +kernel
theorem d_MO_sorts_161 : decode s_MO_sorts.2.1 161 = .ok (.aload_n 0, 1) := by decide +kernel
theorem d_MO_sorts_162 : decode s_MO_sorts.2.1 162 = .ok (.getfield 380, 3) := by decide +kernel
theorem d_MO_sorts_165 : decode s_MO_sorts.2.1 165 = .ok (.if_icmp .ge 14, 3) := by decide +kernel
theorem d_MO_sorts_168 : decode s_MO_sorts.2.1 168 = .ok (.aload_n 0, 1) := by decide +kernel
theorem d_MO_sorts_169 : decode s_MO_sorts.2.1 169 = .ok (.iload_n 1, 1) := by decide +kernel
theorem d_MO_sorts_170 : decode s_MO_sorts.2.1 170 = .ok (.invokevirtual 386, 3) := by decide +kernel
theorem d_MO_sorts_173 : decode s_MO_sorts.2.1 173 = .ok (.iinc 1 1, 3) := by decide +kernel
theorem d_MO_sorts_176 : decode s_MO_sorts.2.1 176 = .ok (.goto (-16), 3) := by decide +kernel
theorem d_MO_sorts_179 : decode s_MO_sorts.2.1 179 = .ok (.return_, 1) := by decide +kernel
theorem d_MO_leads0_0 : decode s_MO_leads0.2.1 0 = .ok (.iconst 0, 1) := by decide +kernel
theorem d_MO_leads0_1 : decode s_MO_leads0.2.1 1 = .ok (.istore_n 2, 1) := by decide +kernel
theorem d_MO_leads0_2 : decode s_MO_leads0.2.1 2 = .ok (.iload_n 2, 1) := by decide +kernel
theorem d_MO_leads0_3 : decode s_MO_leads0.2.1 3 = .ok (.aload_n 0, 1) := by decide +kernel
theorem d_MO_leads0_4 : decode s_MO_leads0.2.1 4 = .ok (.getfield 380, 3) := by decide +kernel
theorem d_MO_leads0_7 : decode s_MO_leads0.2.1 7 = .ok (.if_icmp .ge 111, 3) := by decide +kernel
theorem d_MO_leads0_10 : decode s_MO_leads0.2.1 10 = .ok (.aload_n 0, 1) := by decide +kernel
theorem d_MO_leads0_11 : decode s_MO_leads0.2.1 11 = .ok (.aload_n 0, 1) := by decide +kernel
theorem d_MO_leads0_12 : decode s_MO_leads0.2.1 12 = .ok (.getfield 96, 3) := by decide +kernel
theorem d_MO_leads0_15 : decode s_MO_leads0.2.1 15 = .ok (.iload_n 2, 1) := by decide +kernel
theorem d_MO_leads0_16 : decode s_MO_leads0.2.1 16 = .ok (.laload, 1) := by decide +kernel
theorem d_MO_leads0_17 : decode s_MO_leads0.2.1 17 = .ok (.invokevirtual 415, 3) := by decide +kernel
theorem d_MO_leads0_20 : decode s_MO_leads0.2.1 20 = .ok (.iconst 0, 1) := by decide +kernel
theorem d_MO_leads0_21 : decode s_MO_leads0.2.1 21 = .ok (.istore_n 3, 1) := by decide +kernel
theorem d_MO_leads0_22 : decode s_MO_leads0.2.1 22 = .ok (.iload_n 3, 1) := by decide +kernel
theorem d_MO_leads0_23 : decode s_MO_leads0.2.1 23 = .ok (.bipush 64, 2) := by decide +kernel
theorem d_MO_leads0_25 : decode s_MO_leads0.2.1 25 = .ok (.if_icmp .ge 87, 3) := by decide +kernel
theorem d_MO_leads0_28 : decode s_MO_leads0.2.1 28 = .ok (.aload_n 0, 1) := by decide +kernel
theorem d_MO_leads0_29 : decode s_MO_leads0.2.1 29 = .ok (.getfield 107, 3) := by decide +kernel
theorem d_MO_leads0_32 : decode s_MO_leads0.2.1 32 = .ok (.bipush 64, 2) := by decide +kernel
theorem d_MO_leads0_34 : decode s_MO_leads0.2.1 34 = .ok (.iload_n 2, 1) := by decide +kernel
theorem d_MO_leads0_35 : decode s_MO_leads0.2.1 35 = .ok (.imul, 1) := by decide +kernel
theorem d_MO_leads0_36 : decode s_MO_leads0.2.1 36 = .ok (.iload_n 3, 1) := by decide +kernel
theorem d_MO_leads0_37 : decode s_MO_leads0.2.1 37 = .ok (.iadd, 1) := by decide +kernel
theorem d_MO_leads0_38 : decode s_MO_leads0.2.1 38 = .ok (.iconst (-1), 1) := by decide +kernel
theorem d_MO_leads0_39 : decode s_MO_leads0.2.1 39 = .ok (.iastore, 1) := by decide +kernel
theorem d_MO_leads0_40 : decode s_MO_leads0.2.1 40 = .ok (.iload_n 3, 1) := by decide +kernel
theorem d_MO_leads0_41 : decode s_MO_leads0.2.1 41 = .ok (.iconst 4, 1) := by decide +kernel
theorem d_MO_leads0_42 : decode s_MO_leads0.2.1 42 = .ok (.idiv, 1) := by decide +kernel
theorem d_MO_leads0_43 : decode s_MO_leads0.2.1 43 = .ok (.aload_n 0, 1) := by decide +kernel
theorem d_MO_leads0_44 : decode s_MO_leads0.2.1 44 = .ok (.invokevirtual 400, 3) := by decide +kernel
theorem d_MO_leads0_47 : decode s_MO_leads0.2.1 47 = .ok (.if_icmp .ge 59, 3) := by decide +kernel
theorem d_MO_leads0_50 : decode s_MO_leads0.2.1 50 = .ok (.iload_n 3, 1) := by decide +kernel
theorem d_MO_leads0_51 : decode s_MO_leads0.2.1 51 = .ok (.iconst 4, 1) := by decide +kernel
theorem d_MO_leads0_52 : decode s_MO_leads0.2.1 52 = .ok (.idiv, 1) := by decide +kernel
theorem d_MO_leads0_53 : decode s_MO_leads0.2.1 53 = .ok (.iload_n 1, 1) := by decide +kernel
theorem d_MO_leads0_54 : decode s_MO_leads0.2.1 54 = .ok (.if_icmp .eq 52, 3) := by decide +kernel
theorem d_MO_leads0_57 : decode s_MO_leads0.2.1 57 = .ok (.iload_n 3, 1) := by decide +kernel
theorem d_MO_leads0_58 : decode s_MO_leads0.2.1 58 = .ok (.iconst 4, 1) := by decide +kernel
theorem d_MO_leads0_59 : decode s_MO_leads0.2.1 59 = .ok (.irem, 1) := by decide +kernel
theorem d_MO_leads0_60 : decode s_MO_leads0.2.1 60 = .ok (.aload_n 0, 1) := by decide +kernel
theorem d_MO_leads0_61 : decode s_MO_leads0.2.1 61 = .ok (.invokevirtual 358, 3) := by decide +kernel
theorem d_MO_leads0_64 : decode s_MO_leads0.2.1 64 = .ok (.if_icmp .ge 42, 3) := by decide +kernel
theorem d_MO_leads0_67 : decode s_MO_leads0.2.1 67 = .ok (.aload_n 0, 1) := by decide +kernel
theorem d_MO_leads0_68 : decode s_MO_leads0.2.1 68 = .ok (.iload_n 3, 1) := by decide +kernel
theorem d_MO_leads0_69 : decode s_MO_leads0.2.1 69 = .ok (.iconst 4, 1) := by decide +kernel
theorem d_MO_leads0_70 : decode s_MO_leads0.2.1 70 = .ok (.idiv, 1) := by decide +kernel
theorem d_MO_leads0_71 : decode s_MO_leads0.2.1 71 = .ok (.iload_n 3, 1) := by decide +kernel
theorem d_MO_leads0_72 : decode s_MO_leads0.2.1 72 = .ok (.iconst 4, 1) := by decide +kernel
theorem d_MO_leads0_73 : decode s_MO_leads0.2.1 73 = .ok (.irem, 1) := by decide +kernel
theorem d_MO_leads0_74 : decode s_MO_leads0.2.1 74 = .ok (.invokevirtual 419, 3) := by decide +kernel
theorem d_MO_leads0_77 : decode s_MO_leads0.2.1 77 = .ok (.ifCond .ne 6, 3) := by decide +kernel
theorem d_MO_leads0_80 : decode s_MO_leads0.2.1 80 = .ok (.goto 26, 3) := by decide +kernel
theorem d_MO_leads0_83 : decode s_MO_leads0.2.1 83 = .ok (.aload_n 0, 1) := by decide +kernel
theorem d_MO_leads0_84 : decode s_MO_leads0.2.1 84 = .ok (.invokevirtual 422, 3) := by decide +kernel
theorem d_MO_leads0_87 : decode s_MO_leads0.2.1 87 = .ok (.aload_n 0, 1) := by decide +kernel
theorem d_MO_leads0_88 : decode s_MO_leads0.2.1 88 = .ok (.getfield 107, 3) := by decide +kernel
theorem d_MO_leads0_91 : decode s_MO_leads0.2.1 91 = .ok (.bipush 64, 2) := by decide +kernel
theorem d_MO_leads0_93 : decode s_MO_leads0.2.1 93 = .ok (.iload_n 2, 1) := by decide +kernel
theorem d_MO_leads0_94 : decode s_MO_leads0.2.1 94 = .ok (.imul, 1) := by decide +kernel
theorem d_MO_leads0_95 : decode s_MO_leads0.2.1 95 = .ok (.iload_n 3, 1) := by decide +kernel
theorem d_MO_leads0_96 : decode s_MO_leads0.2.1 96 = .ok (.iadd, 1) := by decide +kernel
theorem d_MO_leads0_97 : decode s_MO_leads0.2.1 97 = .ok (.aload_n 0, 1) := by decide +kernel
theorem d_MO_leads0_98 : decode s_MO_leads0.2.1 98 = .ok (.aload_n 0, 1) := by decide +kernel
theorem d_MO_leads0_99 : decode s_MO_leads0.2.1 99 = .ok (.invokevirtual 392, 3) := by decide +kernel
theorem d_MO_leads0_102 : decode s_MO_leads0.2.1 102 = .ok (.invokevirtual 383, 3) := by decide +kernel
theorem d_MO_leads0_105 : decode s_MO_leads0.2.1 105 = .ok (.iastore, 1) := by decide +kernel
theorem d_MO_leads0_106 : decode s_MO_leads0.2.1 106 = .ok (.iinc 3 1, 3) := by decide +kernel
theorem d_MO_leads0_109 : decode s_MO_leads0.2.1 109 = .ok (.goto (-87), 3) := by decide +kernel
theorem d_MO_leads0_112 : decode s_MO_leads0.2.1 112 = .ok (.iinc 2 1, 3) := by decide +kernel
theorem d_MO_leads0_115 : decode s_MO_leads0.2.1 115 = .ok (.goto (-113), 3) := by decide +kernel
theorem d_MO_leads0_118 : decode s_MO_leads0.2.1 118 = .ok (.return_, 1) := by decide +kernel
theorem d_MO_goesThrough_0 : decode s_MO_goesThrough.2.1 0 = .ok (.aload_n 0, 1) := by decide +kernel
theorem d_MO_goesThrough_1 : decode s_MO_goesThrough.2.1 1 = .ok (.iconst 0, 1) := by decide +kernel
theorem d_MO_goesThrough_2 : decode s_MO_goesThrough.2.1 2 = .ok (.putfield 380, 3) := by decide +kernel
theorem d_MO_goesThrough_5 : decode s_MO_goesThrough.2.1 5 = .ok (.iconst 0, 1) := by decide +kernel
theorem d_MO_goesThrough_6 : decode s_MO_goesThrough.2.1 6 = .ok (.istore_n 2, 1) := by decide +kernel
theorem d_MO_goesThrough_7 : decode s_MO_goesThrough.2.1 7 = .ok (.iload_n 2, 1) := by decide +kernel
theorem d_MO_goesThrough_8 : decode s_MO_goesThrough.2.1 8 = .ok (.sipush 2048, 3) := by decide +kernel
theorem d_MO_goesThrough_11 : decode s_MO_goesThrough.2.1 11 = .ok (.if_icmp .ge 16, 3) := by decide +kernel
theorem d_MO_goesThrough_14 : decode s_MO_goesThrough.2.1 14 = .ok (.aload_n 0, 1) := by decide +kernel
theorem d_MO_goesThrough_15 : decode s_MO_goesThrough.2.1 15 = .ok (.getfield 103, 3) := by decide +kernel
theorem d_MO_goesThrough_18 : decode s_MO_goesThrough.2.1 18 = .ok (.iload_n 2, 1) := by decide +kernel
theorem d_MO_goesThrough_19 : decode s_MO_goesThrough.2.1 19 = .ok (.iconst (-1), 1) := by decide +kernel
theorem d_MO_goesThrough_20 : decode s_MO_goesThrough.2.1 20 = .ok (.iastore, 1) := by decide +kernel
theorem d_MO_goesThrough_21 : decode s_MO_goesThrough.2.1 21 = .ok (.iinc 2 1, 3) := by decide +kernel
theorem d_MO_goesThrough_24 : decode s_MO_goesThrough.2.1 24 = .ok (.goto (-17), 3) := by decide +kernel
theorem d_MO_goesThrough_27 : decode s_MO_goesThrough.2.1 27 = .ok (.aload_n 0, 1) := by decide +kernel
theorem d_MO_goesThrough_28 : decode s_MO_goesThrough.2.1 28 = .ok (.invokevirtual 389, 3) := by decide +kernel
theorem d_MO_goesThrough_31 : decode s_MO_goesThrough.2.1 31 = .ok (.aload_n 0, 1) := by decide +kernel
theorem d_MO_goesThrough_32 : decode s_MO_goesThrough.2.1 32 = .ok (.aload_n 0, 1) := by decide +kernel
theorem d_MO_goesThrough_33 : decode s_MO_goesThrough.2.1 33 = .ok (.invokevirtual 392, 3) := by decide +kernel
theorem d_MO_goesThrough_36 : decode s_MO_goesThrough.2.1 36 = .ok (.iconst 0, 1) := by decide +kernel
theorem d_MO_goesThrough_37 : decode s_MO_goesThrough.2.1 37 = .ok (.invokevirtual 396, 3) := by decide +kernel
theorem d_MO_goesThrough_40 : decode s_MO_goesThrough.2.1 40 = .ok (.iconst 0, 1) := by decide +kernel
theorem d_MO_goesThrough_41 : decode s_MO_goesThrough.2.1 41 = .ok (.istore_n 2, 1) := by decide +kernel
theorem d_MO_goesThrough_42 : decode s_MO_goesThrough.2.1 42 = .ok (.iload_n 2, 1) := by decide +kernel
theorem d_MO_goesThrough_43 : decode s_MO_goesThrough.2.1 43 = .ok (.aload_n 0, 1) := by decide +kernel
theorem d_MO_goesThrough_44 : decode s_MO_goesThrough.2.1 44 = .ok (.getfield 380, 3) := by decide +kernel
theorem d_MO_goesThrough_47 : decode s_MO_goesThrough.2.1 47 = .ok (.if_icmp .ge 46, 3) := by decide +kernel
theorem d_MO_goesThrough_50 : decode s_MO_goesThrough.2.1 50 = .ok (.aload_n 0, 1) := by decide +kernel
theorem d_MO_goesThrough_51 : decode s_MO_goesThrough.2.1 51 = .ok (.getfield 380, 3) := by decide +kernel
theorem d_MO_goesThrough_54 : decode s_MO_goesThrough.2.1 54 = .ok (.sipush 600, 3) := by decide +kernel
theorem d_MO_goesThrough_57 : decode s_MO_goesThrough.2.1 57 = .ok (.if_icmp .gt 36, 3) := by decide +kernel
theorem d_MO_goesThrough_60 : decode s_MO_goesThrough.2.1 60 = .ok (.iconst 0, 1) := by decide +kernel
theorem d_MO_goesThrough_61 : decode s_MO_goesThrough.2.1 61 = .ok (.istore_n 3, 1) := by decide +kernel
theorem d_MO_goesThrough_62 : decode s_MO_goesThrough.2.1 62 = .ok (.iload_n 3, 1) := by decide +kernel
theorem d_MO_goesThrough_63 : decode s_MO_goesThrough.2.1 63 = .ok (.aload_n 0, 1) := by decide +kernel
theorem d_MO_goesThrough_64 : decode s_MO_goesThrough.2.1 64 = .ok (.invokevirtual 400, 3) := by decide +kernel
theorem d_MO_goesThrough_67 : decode s_MO_goesThrough.2.1 67 = .ok (.if_icmp .ge 20, 3) := by decide +kernel
theorem d_MO_goesThrough_70 : decode s_MO_goesThrough.2.1 70 = .ok (.iload_n 3, 1) := by decide +kernel
theorem d_MO_goesThrough_71 : decode s_MO_goesThrough.2.1 71 = .ok (.iload_n 1, 1) := by decide +kernel
theorem d_MO_goesThrough_72 : decode s_MO_goesThrough.2.1 72 = .ok (.if_icmp .eq 9, 3) := by decide +kernel
theorem d_MO_goesThrough_75 : decode s_MO_goesThrough.2.1 75 = .ok (.aload_n 0, 1) := by decide +kernel
theorem d_MO_goesThrough_76 : decode s_MO_goesThrough.2.1 76 = .ok (.iload_n 2, 1) := by decide +kernel
theorem d_MO_goesThrough_77 : decode s_MO_goesThrough.2.1 77 = .ok (.iload_n 3, 1) := by decide +kernel
theorem d_MO_goesThrough_78 : decode s_MO_goesThrough.2.1 78 = .ok (.invokevirtual 403, 3) := by decide +kernel
theorem d_MO_goesThrough_81 : decode s_MO_goesThrough.2.1 81 = .ok (.iinc 3 1, 3) := by decide +kernel
theorem d_MO_goesThrough_84 : decode s_MO_goesThrough.2.1 84 = .ok (.goto (-22), 3) := by decide +kernel
theorem d_MO_goesThrough_87 : decode s_MO_goesThrough.2.1 87 = .ok (.iinc 2 1, 3) := by decide +kernel
theorem d_MO_goesThrough_90 : decode s_MO_goesThrough.2.1 90 = .ok (.goto (-48), 3) := by decide +kernel
theorem d_MO_goesThrough_93 : decode s_MO_goesThrough.2.1 93 = .ok (.aload_n 0, 1) := by decide +kernel
theorem d_MO_goesThrough_94 : decode s_MO_goesThrough.2.1 94 = .ok (.getfield 380, 3) := by decide +kernel
theorem d_MO_goesThrough_97 : decode s_MO_goesThrough.2.1 97 = .ok (.sipush 600, 3) := by decide +kernel
theorem d_MO_goesThrough_100 : decode s_MO_goesThrough.2.1 100 = .ok (.if_icmp .le 5, 3) := by decide +kernel
theorem d_MO_goesThrough_103 : decode s_MO_goesThrough.2.1 103 = .ok (.iconst 0, 1) := by decide +kernel
theorem d_MO_goesThrough_104 : decode s_MO_goesThrough.2.1 104 = .ok (.ireturn, 1) := by decide +kernel
theorem d_MO_goesThrough_105 : decode s_MO_goesThrough.2.1 105 = .ok (.aload_n 0, 1) := by decide +kernel
theorem d_MO_goesThrough_106 : decode s_MO_goesThrough.2.1 106 = .ok (.invokevirtual 406, 3) := by decide +kernel
theorem d_MO_goesThrough_109 : decode s_MO_goesThrough.2.1 109 = .ok (.aload_n 0, 1) := by decide +kernel
theorem d_MO_goesThrough_110 : decode s_MO_goesThrough.2.1 110 = .ok (.iload_n 1, 1) := by decide +kernel
theorem d_MO_goesThrough_111 : decode s_MO_goesThrough.2.1 111 = .ok (.invokevirtual 409, 3) := by decide +kernel
theorem d_MO_goesThrough_114 : decode s_MO_goesThrough.2.1 114 = .ok (.aload_n 0, 1) := by decide +kernel
theorem d_MO_goesThrough_115 : decode s_MO_goesThrough.2.1 115 = .ok (.iload_n 1, 1) := by decide +kernel
theorem d_MO_goesThrough_116 : decode s_MO_goesThrough.2.1 116 = .ok (.putfield 93, 3) := by decide +kernel
theorem d_MO_goesThrough_119 : decode s_MO_goesThrough.2.1 119 = .ok (.aload_n 0, 1) := by decide +kernel
theorem d_MO_goesThrough_120 : decode s_MO_goesThrough.2.1 120 = .ok (.iconst 0, 1) := by decide +kernel
theorem d_MO_goesThrough_121 : decode s_MO_goesThrough.2.1 121 = .ok (.putfield 412, 3) := by decide +kernel
theorem d_MO_goesThrough_124 : decode s_MO_goesThrough.2.1 124 = .ok (.iconst 1, 1) := by decide +kernel
theorem d_MO_goesThrough_125 : decode s_MO_goesThrough.2.1 125 = .ok (.ireturn, 1) := by decide +kernel
theorem d_MO_stands_0 : decode s_MO_stands.2.1 0 = .ok (.iconst 0, 1) := by decide +kernel
theorem d_MO_stands_1 : decode s_MO_stands.2.1 1 = .ok (.istore_n 1, 1) := by decide +kernel
theorem d_MO_stands_2 : decode s_MO_stands.2.1 2 = .ok (.iload_n 1, 1) := by decide +kernel
theorem d_MO_stands_3 : decode s_MO_stands.2.1 3 = .ok (.sipush 184, 3) := by decide +kernel
theorem d_MO_stands_6 : decode s_MO_stands.2.1 6 = .ok (.if_icmp .ge 33, 3) := by decide +kernel
theorem d_MO_stands_9 : decode s_MO_stands.2.1 9 = .ok (.aload_n 0, 1) := by decide +kernel
theorem d_MO_stands_10 : decode s_MO_stands.2.1 10 = .ok (.getfield 84, 3) := by decide +kernel
theorem d_MO_stands_13 : decode s_MO_stands.2.1 13 = .ok (.iload_n 1, 1) := by decide +kernel
theorem d_MO_stands_14 : decode s_MO_stands.2.1 14 = .ok (.aload_n 0, 1) := by decide +kernel
theorem d_MO_stands_15 : decode s_MO_stands.2.1 15 = .ok (.getfield 81, 3) := by decide +kernel
theorem d_MO_stands_18 : decode s_MO_stands.2.1 18 = .ok (.iload_n 1, 1) := by decide +kernel
theorem d_MO_stands_19 : decode s_MO_stands.2.1 19 = .ok (.iaload, 1) := by decide +kernel
theorem d_MO_stands_20 : decode s_MO_stands.2.1 20 = .ok (.iastore, 1) := by decide +kernel
theorem d_MO_stands_21 : decode s_MO_stands.2.1 21 = .ok (.aload_n 0, 1) := by decide +kernel
theorem d_MO_stands_22 : decode s_MO_stands.2.1 22 = .ok (.getfield 81, 3) := by decide +kernel
theorem d_MO_stands_25 : decode s_MO_stands.2.1 25 = .ok (.iload_n 1, 1) := by decide +kernel
theorem d_MO_stands_26 : decode s_MO_stands.2.1 26 = .ok (.aload_n 0, 1) := by decide +kernel
theorem d_MO_stands_27 : decode s_MO_stands.2.1 27 = .ok (.getfield 78, 3) := by decide +kernel
theorem d_MO_stands_30 : decode s_MO_stands.2.1 30 = .ok (.iload_n 1, 1) := by decide +kernel
theorem d_MO_stands_31 : decode s_MO_stands.2.1 31 = .ok (.iaload, 1) := by decide +kernel
theorem d_MO_stands_32 : decode s_MO_stands.2.1 32 = .ok (.iastore, 1) := by decide +kernel
theorem d_MO_stands_33 : decode s_MO_stands.2.1 33 = .ok (.iinc 1 1, 3) := by decide +kernel
theorem d_MO_stands_36 : decode s_MO_stands.2.1 36 = .ok (.goto (-34), 3) := by decide +kernel
theorem d_MO_stands_39 : decode s_MO_stands.2.1 39 = .ok (.aload_n 0, 1) := by decide +kernel
theorem d_MO_stands_40 : decode s_MO_stands.2.1 40 = .ok (.bipush (-2), 2) := by decide +kernel
theorem d_MO_stands_42 : decode s_MO_stands.2.1 42 = .ok (.putfield 93, 3) := by decide +kernel
theorem d_MO_stands_45 : decode s_MO_stands.2.1 45 = .ok (.aload_n 0, 1) := by decide +kernel
theorem d_MO_stands_46 : decode s_MO_stands.2.1 46 = .ok (.iconst (-1), 1) := by decide +kernel
theorem d_MO_stands_47 : decode s_MO_stands.2.1 47 = .ok (.invokevirtual 318, 3) := by decide +kernel
theorem d_MO_stands_50 : decode s_MO_stands.2.1 50 = .ok (.ifCond .eq 29, 3) := by decide +kernel
theorem d_MO_stands_53 : decode s_MO_stands.2.1 53 = .ok (.aload_n 0, 1) := by decide +kernel
theorem d_MO_stands_54 : decode s_MO_stands.2.1 54 = .ok (.iconst 1, 1) := by decide +kernel
theorem d_MO_stands_55 : decode s_MO_stands.2.1 55 = .ok (.putfield 321, 3) := by decide +kernel
theorem d_MO_stands_58 : decode s_MO_stands.2.1 58 = .ok (.aload_n 0, 1) := by decide +kernel
theorem d_MO_stands_59 : decode s_MO_stands.2.1 59 = .ok (.aload_n 0, 1) := by decide +kernel
theorem d_MO_stands_60 : decode s_MO_stands.2.1 60 = .ok (.getfield 96, 3) := by decide +kernel
theorem d_MO_stands_63 : decode s_MO_stands.2.1 63 = .ok (.iconst 0, 1) := by decide +kernel
theorem d_MO_stands_64 : decode s_MO_stands.2.1 64 = .ok (.laload, 1) := by decide +kernel
theorem d_MO_stands_65 : decode s_MO_stands.2.1 65 = .ok (.putfield 325, 3) := by decide +kernel
theorem d_MO_stands_68 : decode s_MO_stands.2.1 68 = .ok (.aload_n 0, 1) := by decide +kernel
theorem d_MO_stands_69 : decode s_MO_stands.2.1 69 = .ok (.iconst 0, 1) := by decide +kernel
theorem d_MO_stands_70 : decode s_MO_stands.2.1 70 = .ok (.putfield 328, 3) := by decide +kernel
theorem d_MO_stands_73 : decode s_MO_stands.2.1 73 = .ok (.aload_n 0, 1) := by decide +kernel
theorem d_MO_stands_74 : decode s_MO_stands.2.1 74 = .ok (.iconst 0, 1) := by decide +kernel
theorem d_MO_stands_75 : decode s_MO_stands.2.1 75 = .ok (.putfield 331, 3) := by decide +kernel
theorem d_MO_stands_78 : decode s_MO_stands.2.1 78 = .ok (.return_, 1) := by decide +kernel
theorem d_MO_stands_79 : decode s_MO_stands.2.1 79 = .ok (.aload_n 0, 1) := by decide +kernel
theorem d_MO_stands_80 : decode s_MO_stands.2.1 80 = .ok (.bipush 6, 2) := by decide +kernel
theorem d_MO_stands_82 : decode s_MO_stands.2.1 82 = .ok (.aload_n 0, 1) := by decide +kernel
theorem d_MO_stands_83 : decode s_MO_stands.2.1 83 = .ok (.getfield 226, 3) := by decide +kernel
theorem d_MO_stands_86 : decode s_MO_stands.2.1 86 = .ok (.invokevirtual 246, 3) := by decide +kernel
theorem d_MO_stands_89 : decode s_MO_stands.2.1 89 = .ok (.aload_n 0, 1) := by decide +kernel
theorem d_MO_stands_90 : decode s_MO_stands.2.1 90 = .ok (.bipush (-2), 2) := by decide +kernel
theorem d_MO_stands_92 : decode s_MO_stands.2.1 92 = .ok (.putfield 93, 3) := by decide +kernel
theorem d_MO_stands_95 : decode s_MO_stands.2.1 95 = .ok (.iconst 0, 1) := by decide +kernel
theorem d_MO_stands_96 : decode s_MO_stands.2.1 96 = .ok (.istore_n 1, 1) := by decide +kernel
theorem d_MO_stands_97 : decode s_MO_stands.2.1 97 = .ok (.iload_n 1, 1) := by decide +kernel
theorem d_MO_stands_98 : decode s_MO_stands.2.1 98 = .ok (.sipush 184, 3) := by decide +kernel
theorem d_MO_stands_101 : decode s_MO_stands.2.1 101 = .ok (.if_icmp .ge 21, 3) := by decide +kernel
theorem d_MO_stands_104 : decode s_MO_stands.2.1 104 = .ok (.aload_n 0, 1) := by decide +kernel
theorem d_MO_stands_105 : decode s_MO_stands.2.1 105 = .ok (.getfield 81, 3) := by decide +kernel
theorem d_MO_stands_108 : decode s_MO_stands.2.1 108 = .ok (.iload_n 1, 1) := by decide +kernel
theorem d_MO_stands_109 : decode s_MO_stands.2.1 109 = .ok (.aload_n 0, 1) := by decide +kernel
theorem d_MO_stands_110 : decode s_MO_stands.2.1 110 = .ok (.getfield 84, 3) := by decide +kernel
theorem d_MO_stands_113 : decode s_MO_stands.2.1 113 = .ok (.iload_n 1, 1) := by decide +kernel
theorem d_MO_stands_114 : decode s_MO_stands.2.1 114 = .ok (.iaload, 1) := by decide +kernel
theorem d_MO_stands_115 : decode s_MO_stands.2.1 115 = .ok (.iastore, 1) := by decide +kernel
theorem d_MO_stands_116 : decode s_MO_stands.2.1 116 = .ok (.iinc 1 1, 3) := by decide +kernel
theorem d_MO_stands_119 : decode s_MO_stands.2.1 119 = .ok (.goto (-22), 3) := by decide +kernel
theorem d_MO_stands_122 : decode s_MO_stands.2.1 122 = .ok (.return_, 1) := by decide +kernel
theorem d_MO_table_0 : decode s_MO_table.2.1 0 = .ok (.aload_n 0, 1) := by decide +kernel
theorem d_MO_table_1 : decode s_MO_table.2.1 1 = .ok (.aload_n 0, 1) := by decide +kernel
theorem d_MO_table_2 : decode s_MO_table.2.1 2 = .ok (.getfield 197, 3) := by decide +kernel
theorem d_MO_table_5 : decode s_MO_table.2.1 5 = .ok (.putfield 226, 3) := by decide +kernel
theorem d_MO_table_8 : decode s_MO_table.2.1 8 = .ok (.aload_n 0, 1) := by decide +kernel
theorem d_MO_table_9 : decode s_MO_table.2.1 9 = .ok (.iconst 0, 1) := by decide +kernel
theorem d_MO_table_10 : decode s_MO_table.2.1 10 = .ok (.putfield 197, 3) := by decide +kernel
theorem d_MO_table_13 : decode s_MO_table.2.1 13 = .ok (.aload_n 0, 1) := by decide +kernel
theorem d_MO_table_14 : decode s_MO_table.2.1 14 = .ok (.iconst 0, 1) := by decide +kernel
theorem d_MO_table_15 : decode s_MO_table.2.1 15 = .ok (.putfield 223, 3) := by decide +kernel
theorem d_MO_table_18 : decode s_MO_table.2.1 18 = .ok (.aload_n 0, 1) := by decide +kernel
theorem d_MO_table_19 : decode s_MO_table.2.1 19 = .ok (.iconst (-1), 1) := by decide +kernel
theorem d_MO_table_20 : decode s_MO_table.2.1 20 = .ok (.putfield 236, 3) := by decide +kernel
theorem d_MO_table_23 : decode s_MO_table.2.1 23 = .ok (.aload_n 0, 1) := by decide +kernel
theorem d_MO_table_24 : decode s_MO_table.2.1 24 = .ok (.iconst 0, 1) := by decide +kernel
theorem d_MO_table_25 : decode s_MO_table.2.1 25 = .ok (.putfield 217, 3) := by decide +kernel
theorem d_MO_table_28 : decode s_MO_table.2.1 28 = .ok (.aload_n 0, 1) := by decide +kernel
theorem d_MO_table_29 : decode s_MO_table.2.1 29 = .ok (.iconst (-1), 1) := by decide +kernel
theorem d_MO_table_30 : decode s_MO_table.2.1 30 = .ok (.putfield 220, 3) := by decide +kernel
theorem d_MO_table_33 : decode s_MO_table.2.1 33 = .ok (.aload_n 0, 1) := by decide +kernel
theorem d_MO_table_34 : decode s_MO_table.2.1 34 = .ok (.iconst 0, 1) := by decide +kernel
theorem d_MO_table_35 : decode s_MO_table.2.1 35 = .ok (.putfield 286, 3) := by decide +kernel
theorem d_MO_table_38 : decode s_MO_table.2.1 38 = .ok (.iconst 0, 1) := by decide +kernel
theorem d_MO_table_39 : decode s_MO_table.2.1 39 = .ok (.istore_n 1, 1) := by decide +kernel
theorem d_MO_table_40 : decode s_MO_table.2.1 40 = .ok (.iload_n 1, 1) := by decide +kernel
theorem d_MO_table_41 : decode s_MO_table.2.1 41 = .ok (.sipush 184, 3) := by decide +kernel
theorem d_MO_table_44 : decode s_MO_table.2.1 44 = .ok (.if_icmp .ge 16, 3) := by decide +kernel
theorem d_MO_table_47 : decode s_MO_table.2.1 47 = .ok (.aload_n 0, 1) := by decide +kernel
theorem d_MO_table_48 : decode s_MO_table.2.1 48 = .ok (.getfield 78, 3) := by decide +kernel
theorem d_MO_table_51 : decode s_MO_table.2.1 51 = .ok (.iload_n 1, 1) := by decide +kernel
theorem d_MO_table_52 : decode s_MO_table.2.1 52 = .ok (.iconst 0, 1) := by decide +kernel
theorem d_MO_table_53 : decode s_MO_table.2.1 53 = .ok (.iastore, 1) := by decide +kernel
theorem d_MO_table_54 : decode s_MO_table.2.1 54 = .ok (.iinc 1 1, 3) := by decide +kernel
theorem d_MO_table_57 : decode s_MO_table.2.1 57 = .ok (.goto (-17), 3) := by decide +kernel
theorem d_MO_table_60 : decode s_MO_table.2.1 60 = .ok (.aload_n 0, 1) := by decide +kernel
theorem d_MO_table_61 : decode s_MO_table.2.1 61 = .ok (.getfield 78, 3) := by decide +kernel
theorem d_MO_table_64 : decode s_MO_table.2.1 64 = .ok (.bipush 6, 2) := by decide +kernel
theorem d_MO_table_66 : decode s_MO_table.2.1 66 = .ok (.iconst (-1), 1) := by decide +kernel
theorem d_MO_table_67 : decode s_MO_table.2.1 67 = .ok (.iastore, 1) := by decide +kernel
theorem d_MO_table_68 : decode s_MO_table.2.1 68 = .ok (.aload_n 0, 1) := by decide +kernel
theorem d_MO_table_69 : decode s_MO_table.2.1 69 = .ok (.getfield 78, 3) := by decide +kernel
theorem d_MO_table_72 : decode s_MO_table.2.1 72 = .ok (.bipush 7, 2) := by decide +kernel
theorem d_MO_table_74 : decode s_MO_table.2.1 74 = .ok (.iconst (-1), 1) := by decide +kernel
theorem d_MO_table_75 : decode s_MO_table.2.1 75 = .ok (.iastore, 1) := by decide +kernel
theorem d_MO_table_76 : decode s_MO_table.2.1 76 = .ok (.aload_n 0, 1) := by decide +kernel
theorem d_MO_table_77 : decode s_MO_table.2.1 77 = .ok (.aload_n 0, 1) := by decide +kernel
theorem d_MO_table_78 : decode s_MO_table.2.1 78 = .ok (.getfield 20, 3) := by decide +kernel
theorem d_MO_table_81 : decode s_MO_table.2.1 81 = .ok (.invokevirtual 282, 3) := by decide +kernel
theorem d_MO_table_84 : decode s_MO_table.2.1 84 = .ok (.aload_n 0, 1) := by decide +kernel
theorem d_MO_table_85 : decode s_MO_table.2.1 85 = .ok (.getfield 78, 3) := by decide +kernel
theorem d_MO_table_88 : decode s_MO_table.2.1 88 = .ok (.iconst 3, 1) := by decide +kernel
theorem d_MO_table_89 : decode s_MO_table.2.1 89 = .ok (.aload_n 0, 1) := by decide +kernel
theorem d_MO_table_90 : decode s_MO_table.2.1 90 = .ok (.iconst 2, 1) := by decide +kernel
theorem d_MO_table_91 : decode s_MO_table.2.1 91 = .ok (.iconst 4, 1) := by decide +kernel
theorem d_MO_table_92 : decode s_MO_table.2.1 92 = .ok (.invokevirtual 273, 3) := by decide +kernel
theorem d_MO_table_95 : decode s_MO_table.2.1 95 = .ok (.iastore, 1) := by decide +kernel
theorem d_MO_table_96 : decode s_MO_table.2.1 96 = .ok (.aload_n 0, 1) := by decide +kernel
theorem d_MO_table_97 : decode s_MO_table.2.1 97 = .ok (.aload_n 0, 1) := by decide +kernel
theorem d_MO_table_98 : decode s_MO_table.2.1 98 = .ok (.getfield 24, 3) := by decide +kernel
theorem d_MO_table_101 : decode s_MO_table.2.1 101 = .ok (.invokevirtual 282, 3) := by decide +kernel
theorem d_MO_table_104 : decode s_MO_table.2.1 104 = .ok (.aload_n 0, 1) := by decide +kernel
theorem d_MO_table_105 : decode s_MO_table.2.1 105 = .ok (.iconst 0, 1) := by decide +kernel
theorem d_MO_table_106 : decode s_MO_table.2.1 106 = .ok (.invokevirtual 296, 3) := by decide +kernel
theorem d_MO_table_109 : decode s_MO_table.2.1 109 = .ok (.aload_n 0, 1) := by decide +kernel
theorem d_MO_table_110 : decode s_MO_table.2.1 110 = .ok (.bipush 59, 2) := by decide +kernel
theorem d_MO_table_112 : decode s_MO_table.2.1 112 = .ok (.invokevirtual 309, 3) := by decide +kernel
theorem d_MO_table_115 : decode s_MO_table.2.1 115 = .ok (.aload_n 0, 1) := by decide +kernel
theorem d_MO_table_116 : decode s_MO_table.2.1 116 = .ok (.iconst 1, 1) := by decide +kernel
theorem d_MO_table_117 : decode s_MO_table.2.1 117 = .ok (.putfield 289, 3) := by decide +kernel
theorem d_MO_table_120 : decode s_MO_table.2.1 120 = .ok (.aload_n 0, 1) := by decide +kernel
theorem d_MO_table_121 : decode s_MO_table.2.1 121 = .ok (.getfield 217, 3) := by decide +kernel
theorem d_MO_table_124 : decode s_MO_table.2.1 124 = .ok (.ifCond .ne 18, 3) := by decide +kernel
theorem d_MO_table_127 : decode s_MO_table.2.1 127 = .ok (.aload_n 0, 1) := by decide +kernel
theorem d_MO_table_128 : decode s_MO_table.2.1 128 = .ok (.invokevirtual 229, 3) := by decide +kernel
theorem d_MO_table_131 : decode s_MO_table.2.1 131 = .ok (.iconst (-1), 1) := by decide +kernel
theorem d_MO_table_132 : decode s_MO_table.2.1 132 = .ok (.if_icmp .eq 10, 3) := by decide +kernel
theorem d_MO_table_135 : decode s_MO_table.2.1 135 = .ok (.aload_n 0, 1) := by decide +kernel
theorem d_MO_table_136 : decode s_MO_table.2.1 136 = .ok (.invokevirtual 312, 3) := by decide +kernel
theorem d_MO_table_139 : decode s_MO_table.2.1 139 = .ok (.goto (-19), 3) := by decide +kernel
theorem d_MO_table_142 : decode s_MO_table.2.1 142 = .ok (.aload_n 0, 1) := by decide +kernel
theorem d_MO_table_143 : decode s_MO_table.2.1 143 = .ok (.getfield 217, 3) := by decide +kernel
theorem d_MO_table_146 : decode s_MO_table.2.1 146 = .ok (.ifCond .ne 7, 3) := by decide +kernel
theorem d_MO_table_149 : decode s_MO_table.2.1 149 = .ok (.aload_n 0, 1) := by decide +kernel
theorem d_MO_table_150 : decode s_MO_table.2.1 150 = .ok (.invokevirtual 315, 3) := by decide +kernel
theorem d_MO_table_153 : decode s_MO_table.2.1 153 = .ok (.aload_n 0, 1) := by decide +kernel
theorem d_MO_table_154 : decode s_MO_table.2.1 154 = .ok (.aload_n 0, 1) := by decide +kernel
theorem d_MO_table_155 : decode s_MO_table.2.1 155 = .ok (.getfield 217, 3) := by decide +kernel
theorem d_MO_table_158 : decode s_MO_table.2.1 158 = .ok (.putfield 214, 3) := by decide +kernel
theorem d_MO_table_161 : decode s_MO_table.2.1 161 = .ok (.aload_n 0, 1) := by decide +kernel
theorem d_MO_table_162 : decode s_MO_table.2.1 162 = .ok (.aload_n 0, 1) := by decide +kernel
theorem d_MO_table_163 : decode s_MO_table.2.1 163 = .ok (.getfield 220, 3) := by decide +kernel
theorem d_MO_table_166 : decode s_MO_table.2.1 166 = .ok (.putfield 13, 3) := by decide +kernel
theorem d_MO_table_169 : decode s_MO_table.2.1 169 = .ok (.aload_n 0, 1) := by decide +kernel
theorem d_MO_table_170 : decode s_MO_table.2.1 170 = .ok (.getfield 217, 3) := by decide +kernel
theorem d_MO_table_173 : decode s_MO_table.2.1 173 = .ok (.ifCond .ne 10, 3) := by decide +kernel
theorem d_MO_table_176 : decode s_MO_table.2.1 176 = .ok (.aload_n 0, 1) := by decide +kernel
theorem d_MO_table_177 : decode s_MO_table.2.1 177 = .ok (.getfield 289, 3) := by decide +kernel
theorem d_MO_table_180 : decode s_MO_table.2.1 180 = .ok (.goto 8, 3) := by decide +kernel
theorem d_MO_table_183 : decode s_MO_table.2.1 183 = .ok (.aload_n 0, 1) := by decide +kernel
theorem d_MO_table_184 : decode s_MO_table.2.1 184 = .ok (.iconst 1, 1) := by decide +kernel
theorem d_MO_table_185 : decode s_MO_table.2.1 185 = .ok (.invokevirtual 200, 3) := by decide +kernel
theorem d_MO_table_188 : decode s_MO_table.2.1 188 = .ok (.ireturn, 1) := by decide +kernel
theorem d_MO_atlas_0 : decode s_MO_atlas.2.1 0 = .ok (.aload_n 0, 1) := by decide +kernel
theorem d_MO_atlas_1 : decode s_MO_atlas.2.1 1 = .ok (.getfield 93, 3) := by decide +kernel
theorem d_MO_atlas_4 : decode s_MO_atlas.2.1 4 = .ok (.iload_n 1, 1) := by decide +kernel
theorem d_MO_atlas_5 : decode s_MO_atlas.2.1 5 = .ok (.if_icmp .eq 9, 3) := by decide +kernel
theorem d_MO_atlas_8 : decode s_MO_atlas.2.1 8 = .ok (.aload_n 0, 1) := by decide +kernel
theorem d_MO_atlas_9 : decode s_MO_atlas.2.1 9 = .ok (.iload_n 1, 1) := by decide +kernel
theorem d_MO_atlas_10 : decode s_MO_atlas.2.1 10 = .ok (.invokevirtual 318, 3) := by decide +kernel
theorem d_MO_atlas_13 : decode s_MO_atlas.2.1 13 = .ok (.pop, 1) := by decide +kernel
theorem d_MO_atlas_14 : decode s_MO_atlas.2.1 14 = .ok (.return_, 1) := by decide +kernel
theorem d_MO_isAsked_0 : decode s_MO_isAsked.2.1 0 = .ok (.aload_n 0, 1) := by decide +kernel
theorem d_MO_isAsked_1 : decode s_MO_isAsked.2.1 1 = .ok (.getfield 321, 3) := by decide +kernel
theorem d_MO_isAsked_4 : decode s_MO_isAsked.2.1 4 = .ok (.ifCond .ne 5, 3) := by decide +kernel
theorem d_MO_isAsked_7 : decode s_MO_isAsked.2.1 7 = .ok (.iconst 0, 1) := by decide +kernel
theorem d_MO_isAsked_8 : decode s_MO_isAsked.2.1 8 = .ok (.ireturn, 1) := by decide +kernel
theorem d_MO_isAsked_9 : decode s_MO_isAsked.2.1 9 = .ok (.aload_n 0, 1) := by decide +kernel
theorem d_MO_isAsked_10 : decode s_MO_isAsked.2.1 10 = .ok (.iconst (-1), 1) := by decide +kernel
theorem d_MO_isAsked_11 : decode s_MO_isAsked.2.1 11 = .ok (.invokevirtual 502, 3) := by decide +kernel
theorem d_MO_isAsked_14 : decode s_MO_isAsked.2.1 14 = .ok (.iconst 1, 1) := by decide +kernel
theorem d_MO_isAsked_15 : decode s_MO_isAsked.2.1 15 = .ok (.ireturn, 1) := by decide +kernel
theorem d_MO_copies_0 : decode s_MO_copies.2.1 0 = .ok (.aload_n 0, 1) := by decide +kernel
theorem d_MO_copies_1 : decode s_MO_copies.2.1 1 = .ok (.aload_n 0, 1) := by decide +kernel
theorem d_MO_copies_2 : decode s_MO_copies.2.1 2 = .ok (.getfield 96, 3) := by decide +kernel
theorem d_MO_copies_5 : decode s_MO_copies.2.1 5 = .ok (.iload_n 1, 1) := by decide +kernel
theorem d_MO_copies_6 : decode s_MO_copies.2.1 6 = .ok (.laload, 1) := by decide +kernel
theorem d_MO_copies_7 : decode s_MO_copies.2.1 7 = .ok (.invokevirtual 415, 3) := by decide +kernel
theorem d_MO_copies_10 : decode s_MO_copies.2.1 10 = .ok (.iconst 1, 1) := by decide +kernel
theorem d_MO_copies_11 : decode s_MO_copies.2.1 11 = .ok (.istore_n 2, 1) := by decide +kernel
theorem d_MO_copies_12 : decode s_MO_copies.2.1 12 = .ok (.iconst 0, 1) := by decide +kernel
theorem d_MO_copies_13 : decode s_MO_copies.2.1 13 = .ok (.istore_n 3, 1) := by decide +kernel
theorem d_MO_copies_14 : decode s_MO_copies.2.1 14 = .ok (.iconst 0, 1) := by decide +kernel
theorem d_MO_copies_15 : decode s_MO_copies.2.1 15 = .ok (.istore 4, 2) := by decide +kernel
theorem d_MO_copies_17 : decode s_MO_copies.2.1 17 = .ok (.iload 4, 2) := by decide +kernel
theorem d_MO_copies_19 : decode s_MO_copies.2.1 19 = .ok (.aload_n 0, 1) := by decide +kernel
theorem d_MO_copies_20 : decode s_MO_copies.2.1 20 = .ok (.invokevirtual 358, 3) := by decide +kernel
theorem d_MO_copies_23 : decode s_MO_copies.2.1 23 = .ok (.if_icmp .ge 50, 3) := by decide +kernel
theorem d_MO_copies_26 : decode s_MO_copies.2.1 26 = .ok (.iload 4, 2) := by decide +kernel
theorem d_MO_copies_28 : decode s_MO_copies.2.1 28 = .ok (.ifCond .le 28, 3) := by decide +kernel
theorem d_MO_copies_31 : decode s_MO_copies.2.1 31 = .ok (.aload_n 0, 1) := by decide +kernel
theorem d_MO_copies_32 : decode s_MO_copies.2.1 32 = .ok (.getfield 87, 3) := by decide +kernel
theorem d_MO_copies_35 : decode s_MO_copies.2.1 35 = .ok (.iload 4, 2) := by decide +kernel
theorem d_MO_copies_37 : decode s_MO_copies.2.1 37 = .ok (.iaload, 1) := by decide +kernel
theorem d_MO_copies_38 : decode s_MO_copies.2.1 38 = .ok (.aload_n 0, 1) := by decide +kernel
theorem d_MO_copies_39 : decode s_MO_copies.2.1 39 = .ok (.getfield 87, 3) := by decide +kernel
theorem d_MO_copies_42 : decode s_MO_copies.2.1 42 = .ok (.iload 4, 2) := by decide +kernel
theorem d_MO_copies_44 : decode s_MO_copies.2.1 44 = .ok (.iconst 1, 1) := by decide +kernel
theorem d_MO_copies_45 : decode s_MO_copies.2.1 45 = .ok (.isub, 1) := by decide +kernel
theorem d_MO_copies_46 : decode s_MO_copies.2.1 46 = .ok (.iaload, 1) := by decide +kernel
theorem d_MO_copies_47 : decode s_MO_copies.2.1 47 = .ok (.if_icmp .ne 9, 3) := by decide +kernel
theorem d_MO_copies_50 : decode s_MO_copies.2.1 50 = .ok (.iload_n 3, 1) := by decide +kernel
theorem d_MO_copies_51 : decode s_MO_copies.2.1 51 = .ok (.iconst 1, 1) := by decide +kernel
theorem d_MO_copies_52 : decode s_MO_copies.2.1 52 = .ok (.iadd, 1) := by decide +kernel
theorem d_MO_copies_53 : decode s_MO_copies.2.1 53 = .ok (.goto 4, 3) := by decide +kernel
theorem d_MO_copies_56 : decode s_MO_copies.2.1 56 = .ok (.iconst 1, 1) := by decide +kernel
theorem d_MO_copies_57 : decode s_MO_copies.2.1 57 = .ok (.istore_n 3, 1) := by decide +kernel
theorem d_MO_copies_58 : decode s_MO_copies.2.1 58 = .ok (.iload_n 2, 1) := by decide +kernel
theorem d_MO_copies_59 : decode s_MO_copies.2.1 59 = .ok (.iload 4, 2) := by decide +kernel
theorem d_MO_copies_61 : decode s_MO_copies.2.1 61 = .ok (.iconst 1, 1) := by decide +kernel
theorem d_MO_copies_62 : decode s_MO_copies.2.1 62 = .ok (.iadd, 1) := by decide +kernel
theorem d_MO_copies_63 : decode s_MO_copies.2.1 63 = .ok (.imul, 1) := by decide +kernel
theorem d_MO_copies_64 : decode s_MO_copies.2.1 64 = .ok (.iload_n 3, 1) := by decide +kernel
theorem d_MO_copies_65 : decode s_MO_copies.2.1 65 = .ok (.idiv, 1) := by decide +kernel
theorem d_MO_copies_66 : decode s_MO_copies.2.1 66 = .ok (.istore_n 2, 1) := by decide +kernel
theorem d_MO_copies_67 : decode s_MO_copies.2.1 67 = .ok (.iinc 4 1, 3) := by decide +kernel
theorem d_MO_copies_70 : decode s_MO_copies.2.1 70 = .ok (.goto (-53), 3) := by decide +kernel
theorem d_MO_copies_73 : decode s_MO_copies.2.1 73 = .ok (.iload_n 2, 1) := by decide +kernel
theorem d_MO_copies_74 : decode s_MO_copies.2.1 74 = .ok (.ireturn, 1) := by decide +kernel
theorem d_MO_movesFrom_0 : decode s_MO_movesFrom.2.1 0 = .ok (.iconst 0, 1) := by decide +kernel
theorem d_MO_movesFrom_1 : decode s_MO_movesFrom.2.1 1 = .ok (.istore_n 2, 1) := by decide +kernel
theorem d_MO_movesFrom_2 : decode s_MO_movesFrom.2.1 2 = .ok (.iconst 0, 1) := by decide +kernel
theorem d_MO_movesFrom_3 : decode s_MO_movesFrom.2.1 3 = .ok (.istore_n 3, 1) := by decide +kernel
theorem d_MO_movesFrom_4 : decode s_MO_movesFrom.2.1 4 = .ok (.iload_n 3, 1) := by decide +kernel
theorem d_MO_movesFrom_5 : decode s_MO_movesFrom.2.1 5 = .ok (.bipush 64, 2) := by decide +kernel
theorem d_MO_movesFrom_7 : decode s_MO_movesFrom.2.1 7 = .ok (.if_icmp .ge 27, 3) := by decide +kernel
theorem d_MO_movesFrom_10 : decode s_MO_movesFrom.2.1 10 = .ok (.aload_n 0, 1) := by decide +kernel
theorem d_MO_movesFrom_11 : decode s_MO_movesFrom.2.1 11 = .ok (.getfield 107, 3) := by decide +kernel
theorem d_MO_movesFrom_14 : decode s_MO_movesFrom.2.1 14 = .ok (.bipush 64, 2) := by decide +kernel
theorem d_MO_movesFrom_16 : decode s_MO_movesFrom.2.1 16 = .ok (.iload_n 1, 1) := by decide +kernel
theorem d_MO_movesFrom_17 : decode s_MO_movesFrom.2.1 17 = .ok (.imul, 1) := by decide +kernel
theorem d_MO_movesFrom_18 : decode s_MO_movesFrom.2.1 18 = .ok (.iload_n 3, 1) := by decide +kernel
theorem d_MO_movesFrom_19 : decode s_MO_movesFrom.2.1 19 = .ok (.iadd, 1) := by decide +kernel
theorem d_MO_movesFrom_20 : decode s_MO_movesFrom.2.1 20 = .ok (.iaload, 1) := by decide +kernel
theorem d_MO_movesFrom_21 : decode s_MO_movesFrom.2.1 21 = .ok (.iconst (-1), 1) := by decide +kernel
theorem d_MO_movesFrom_22 : decode s_MO_movesFrom.2.1 22 = .ok (.if_icmp .eq 6, 3) := by decide +kernel
theorem d_MO_movesFrom_25 : decode s_MO_movesFrom.2.1 25 = .ok (.iinc 2 1, 3) := by decide +kernel
theorem d_MO_movesFrom_28 : decode s_MO_movesFrom.2.1 28 = .ok (.iinc 3 1, 3) := by decide +kernel
theorem d_MO_movesFrom_31 : decode s_MO_movesFrom.2.1 31 = .ok (.goto (-27), 3) := by decide +kernel
theorem d_MO_movesFrom_34 : decode s_MO_movesFrom.2.1 34 = .ok (.iload_n 2, 1) := by decide +kernel
theorem d_MO_movesFrom_35 : decode s_MO_movesFrom.2.1 35 = .ok (.ireturn, 1) := by decide +kernel
theorem d_MO_isNever_0 : decode s_MO_isNever.2.1 0 = .ok (.bipush 28, 2) := by decide +kernel
theorem d_MO_isNever_2 : decode s_MO_isNever.2.1 2 = .ok (.bipush 7, 2) := by decide +kernel
theorem d_MO_isNever_4 : decode s_MO_isNever.2.1 4 = .ok (.iload_n 1, 1) := by decide +kernel
theorem d_MO_isNever_5 : decode s_MO_isNever.2.1 5 = .ok (.imul, 1) := by decide +kernel
theorem d_MO_isNever_6 : decode s_MO_isNever.2.1 6 = .ok (.iadd, 1) := by decide +kernel
theorem d_MO_isNever_7 : decode s_MO_isNever.2.1 7 = .ok (.istore_n 2, 1) := by decide +kernel
theorem d_MO_isNever_8 : decode s_MO_isNever.2.1 8 = .ok (.iconst 0, 1) := by decide +kernel
theorem d_MO_isNever_9 : decode s_MO_isNever.2.1 9 = .ok (.istore_n 3, 1) := by decide +kernel
theorem d_MO_isNever_10 : decode s_MO_isNever.2.1 10 = .ok (.iload_n 3, 1) := by decide +kernel
theorem d_MO_isNever_11 : decode s_MO_isNever.2.1 11 = .ok (.aload_n 0, 1) := by decide +kernel
theorem d_MO_isNever_12 : decode s_MO_isNever.2.1 12 = .ok (.getfield 81, 3) := by decide +kernel
theorem d_MO_isNever_15 : decode s_MO_isNever.2.1 15 = .ok (.iload_n 2, 1) := by decide +kernel
theorem d_MO_isNever_16 : decode s_MO_isNever.2.1 16 = .ok (.iaload, 1) := by decide +kernel
theorem d_MO_isNever_17 : decode s_MO_isNever.2.1 17 = .ok (.if_icmp .ge 77, 3) := by decide +kernel
theorem d_MO_isNever_20 : decode s_MO_isNever.2.1 20 = .ok (.iconst 0, 1) := by decide +kernel
theorem d_MO_isNever_21 : decode s_MO_isNever.2.1 21 = .ok (.istore 4, 2) := by decide +kernel
theorem d_MO_isNever_23 : decode s_MO_isNever.2.1 23 = .ok (.iconst 0, 1) := by decide +kernel
theorem d_MO_isNever_24 : decode s_MO_isNever.2.1 24 = .ok (.istore 5, 2) := by decide +kernel
theorem d_MO_isNever_26 : decode s_MO_isNever.2.1 26 = .ok (.iload 5, 2) := by decide +kernel
theorem d_MO_isNever_28 : decode s_MO_isNever.2.1 28 = .ok (.aload_n 0, 1) := by decide +kernel
theorem d_MO_isNever_29 : decode s_MO_isNever.2.1 29 = .ok (.invokevirtual 358, 3) := by decide +kernel
theorem d_MO_isNever_32 : decode s_MO_isNever.2.1 32 = .ok (.if_icmp .ge 37, 3) := by decide +kernel
theorem d_MO_isNever_35 : decode s_MO_isNever.2.1 35 = .ok (.aload_n 0, 1) := by decide +kernel
theorem d_MO_isNever_36 : decode s_MO_isNever.2.1 36 = .ok (.getfield 87, 3) := by decide +kernel
theorem d_MO_isNever_39 : decode s_MO_isNever.2.1 39 = .ok (.iload 5, 2) := by decide +kernel
theorem d_MO_isNever_41 : decode s_MO_isNever.2.1 41 = .ok (.iaload, 1) := by decide +kernel
theorem d_MO_isNever_42 : decode s_MO_isNever.2.1 42 = .ok (.invokestatic 346, 3) := by decide +kernel
theorem d_MO_isNever_45 : decode s_MO_isNever.2.1 45 = .ok (.aload_n 0, 1) := by decide +kernel
theorem d_MO_isNever_46 : decode s_MO_isNever.2.1 46 = .ok (.getfield 81, 3) := by decide +kernel
theorem d_MO_isNever_49 : decode s_MO_isNever.2.1 49 = .ok (.iload_n 2, 1) := by decide +kernel
theorem d_MO_isNever_50 : decode s_MO_isNever.2.1 50 = .ok (.iconst 2, 1) := by decide +kernel
theorem d_MO_isNever_51 : decode s_MO_isNever.2.1 51 = .ok (.iadd, 1) := by decide +kernel
theorem d_MO_isNever_52 : decode s_MO_isNever.2.1 52 = .ok (.iconst 2, 1) := by decide +kernel
theorem d_MO_isNever_53 : decode s_MO_isNever.2.1 53 = .ok (.iload_n 3, 1) := by decide +kernel
theorem d_MO_isNever_54 : decode s_MO_isNever.2.1 54 = .ok (.imul, 1) := by decide +kernel
theorem d_MO_isNever_55 : decode s_MO_isNever.2.1 55 = .ok (.iadd, 1) := by decide +kernel
theorem d_MO_isNever_56 : decode s_MO_isNever.2.1 56 = .ok (.iaload, 1) := by decide +kernel
theorem d_MO_isNever_57 : decode s_MO_isNever.2.1 57 = .ok (.if_icmp .ne 6, 3) := by decide +kernel
theorem d_MO_isNever_60 : decode s_MO_isNever.2.1 60 = .ok (.iinc 4 1, 3) := by decide +kernel
theorem d_MO_isNever_63 : decode s_MO_isNever.2.1 63 = .ok (.iinc 5 1, 3) := by decide +kernel
theorem d_MO_isNever_66 : decode s_MO_isNever.2.1 66 = .ok (.goto (-40), 3) := by decide +kernel
theorem d_MO_isNever_69 : decode s_MO_isNever.2.1 69 = .ok (.iload 4, 2) := by decide +kernel
theorem d_MO_isNever_71 : decode s_MO_isNever.2.1 71 = .ok (.aload_n 0, 1) := by decide +kernel
theorem d_MO_isNever_72 : decode s_MO_isNever.2.1 72 = .ok (.getfield 81, 3) := by decide +kernel
theorem d_MO_isNever_75 : decode s_MO_isNever.2.1 75 = .ok (.iload_n 2, 1) := by decide +kernel
theorem d_MO_isNever_76 : decode s_MO_isNever.2.1 76 = .ok (.iconst 1, 1) := by decide +kernel
theorem d_MO_isNever_77 : decode s_MO_isNever.2.1 77 = .ok (.iadd, 1) := by decide +kernel
theorem d_MO_isNever_78 : decode s_MO_isNever.2.1 78 = .ok (.iconst 2, 1) := by decide +kernel
theorem d_MO_isNever_79 : decode s_MO_isNever.2.1 79 = .ok (.iload_n 3, 1) := by decide +kernel
theorem d_MO_isNever_80 : decode s_MO_isNever.2.1 80 = .ok (.imul, 1) := by decide +kernel
theorem d_MO_isNever_81 : decode s_MO_isNever.2.1 81 = .ok (.iadd, 1) := by decide +kernel
theorem d_MO_isNever_82 : decode s_MO_isNever.2.1 82 = .ok (.iaload, 1) := by decide +kernel
theorem d_MO_isNever_83 : decode s_MO_isNever.2.1 83 = .ok (.if_icmp .ge 5, 3) := by decide +kernel
theorem d_MO_isNever_86 : decode s_MO_isNever.2.1 86 = .ok (.iconst 0, 1) := by decide +kernel
theorem d_MO_isNever_87 : decode s_MO_isNever.2.1 87 = .ok (.ireturn, 1) := by decide +kernel
theorem d_MO_isNever_88 : decode s_MO_isNever.2.1 88 = .ok (.iinc 3 1, 3) := by decide +kernel
theorem d_MO_isNever_91 : decode s_MO_isNever.2.1 91 = .ok (.goto (-81), 3) := by decide +kernel
theorem d_MO_isNever_94 : decode s_MO_isNever.2.1 94 = .ok (.iconst 1, 1) := by decide +kernel
theorem d_MO_isNever_95 : decode s_MO_isNever.2.1 95 = .ok (.ireturn, 1) := by decide +kernel
theorem d_MO_isBad_0 : decode s_MO_isBad.2.1 0 = .ok (.aload_n 0, 1) := by decide +kernel
theorem d_MO_isBad_1 : decode s_MO_isBad.2.1 1 = .ok (.lload_n 1, 1) := by decide +kernel
theorem d_MO_isBad_2 : decode s_MO_isBad.2.1 2 = .ok (.invokevirtual 415, 3) := by decide +kernel
theorem d_MO_isBad_5 : decode s_MO_isBad.2.1 5 = .ok (.iconst 0, 1) := by decide +kernel
theorem d_MO_isBad_6 : decode s_MO_isBad.2.1 6 = .ok (.istore_n 3, 1) := by decide +kernel
theorem d_MO_isBad_7 : decode s_MO_isBad.2.1 7 = .ok (.iload_n 3, 1) := by decide +kernel
theorem d_MO_isBad_8 : decode s_MO_isBad.2.1 8 = .ok (.aload_n 0, 1) := by decide +kernel
theorem d_MO_isBad_9 : decode s_MO_isBad.2.1 9 = .ok (.getfield 81, 3) := by decide +kernel
theorem d_MO_isBad_12 : decode s_MO_isBad.2.1 12 = .ok (.iconst 5, 1) := by decide +kernel
theorem d_MO_isBad_13 : decode s_MO_isBad.2.1 13 = .ok (.iaload, 1) := by decide +kernel
theorem d_MO_isBad_14 : decode s_MO_isBad.2.1 14 = .ok (.if_icmp .ge 19, 3) := by decide +kernel
theorem d_MO_isBad_17 : decode s_MO_isBad.2.1 17 = .ok (.aload_n 0, 1) := by decide +kernel
theorem d_MO_isBad_18 : decode s_MO_isBad.2.1 18 = .ok (.iload_n 3, 1) := by decide +kernel
theorem d_MO_isBad_19 : decode s_MO_isBad.2.1 19 = .ok (.invokevirtual 425, 3) := by decide +kernel
theorem d_MO_isBad_22 : decode s_MO_isBad.2.1 22 = .ok (.ifCond .eq 5, 3) := by decide +kernel
theorem d_MO_isBad_25 : decode s_MO_isBad.2.1 25 = .ok (.iconst 1, 1) := by decide +kernel
theorem d_MO_isBad_26 : decode s_MO_isBad.2.1 26 = .ok (.ireturn, 1) := by decide +kernel
theorem d_MO_isBad_27 : decode s_MO_isBad.2.1 27 = .ok (.iinc 3 1, 3) := by decide +kernel
theorem d_MO_isBad_30 : decode s_MO_isBad.2.1 30 = .ok (.goto (-23), 3) := by decide +kernel
theorem d_MO_isBad_33 : decode s_MO_isBad.2.1 33 = .ok (.iconst 0, 1) := by decide +kernel
theorem d_MO_isBad_34 : decode s_MO_isBad.2.1 34 = .ok (.ireturn, 1) := by decide +kernel
theorem d_MO_sumOf_0 : decode s_MO_sumOf.2.1 0 = .ok (.iconst 0, 1) := by decide +kernel
theorem d_MO_sumOf_1 : decode s_MO_sumOf.2.1 1 = .ok (.istore_n 2, 1) := by decide +kernel
theorem d_MO_sumOf_2 : decode s_MO_sumOf.2.1 2 = .ok (.iconst 0, 1) := by decide +kernel
theorem d_MO_sumOf_3 : decode s_MO_sumOf.2.1 3 = .ok (.istore_n 3, 1) := by decide +kernel
theorem d_MO_sumOf_4 : decode s_MO_sumOf.2.1 4 = .ok (.iload_n 3, 1) := by decide +kernel
theorem d_MO_sumOf_5 : decode s_MO_sumOf.2.1 5 = .ok (.aload_n 0, 1) := by decide +kernel
theorem d_MO_sumOf_6 : decode s_MO_sumOf.2.1 6 = .ok (.getfield 380, 3) := by decide +kernel
theorem d_MO_sumOf_9 : decode s_MO_sumOf.2.1 9 = .ok (.if_icmp .ge 82, 3) := by decide +kernel
theorem d_MO_sumOf_12 : decode s_MO_sumOf.2.1 12 = .ok (.aload_n 0, 1) := by decide +kernel
theorem d_MO_sumOf_13 : decode s_MO_sumOf.2.1 13 = .ok (.iload_n 3, 1) := by decide +kernel
theorem d_MO_sumOf_14 : decode s_MO_sumOf.2.1 14 = .ok (.invokevirtual 428, 3) := by decide +kernel
theorem d_MO_sumOf_17 : decode s_MO_sumOf.2.1 17 = .ok (.istore 4, 2) := by decide +kernel
theorem d_MO_sumOf_19 : decode s_MO_sumOf.2.1 19 = .ok (.iload_n 1, 1) := by decide +kernel
theorem d_MO_sumOf_20 : decode s_MO_sumOf.2.1 20 = .ok (.ifCond .ne 8, 3) := by decide +kernel
theorem d_MO_sumOf_23 : decode s_MO_sumOf.2.1 23 = .ok (.iload_n 2, 1) := by decide +kernel
theorem d_MO_sumOf_24 : decode s_MO_sumOf.2.1 24 = .ok (.iload 4, 2) := by decide +kernel
theorem d_MO_sumOf_26 : decode s_MO_sumOf.2.1 26 = .ok (.iadd, 1) := by decide +kernel
theorem d_MO_sumOf_27 : decode s_MO_sumOf.2.1 27 = .ok (.istore_n 2, 1) := by decide +kernel
theorem d_MO_sumOf_28 : decode s_MO_sumOf.2.1 28 = .ok (.iload_n 1, 1) := by decide +kernel
theorem d_MO_sumOf_29 : decode s_MO_sumOf.2.1 29 = .ok (.iconst 1, 1) := by decide +kernel
theorem d_MO_sumOf_30 : decode s_MO_sumOf.2.1 30 = .ok (.if_icmp .ne 14, 3) := by decide +kernel
theorem d_MO_sumOf_33 : decode s_MO_sumOf.2.1 33 = .ok (.iload_n 2, 1) := by decide +kernel
theorem d_MO_sumOf_34 : decode s_MO_sumOf.2.1 34 = .ok (.iload 4, 2) := by decide +kernel
theorem d_MO_sumOf_36 : decode s_MO_sumOf.2.1 36 = .ok (.aload_n 0, 1) := by decide +kernel
theorem d_MO_sumOf_37 : decode s_MO_sumOf.2.1 37 = .ok (.iload_n 3, 1) := by decide +kernel
theorem d_MO_sumOf_38 : decode s_MO_sumOf.2.1 38 = .ok (.invokevirtual 431, 3) := by decide +kernel
theorem d_MO_sumOf_41 : decode s_MO_sumOf.2.1 41 = .ok (.imul, 1) := by decide +kernel
theorem d_MO_sumOf_42 : decode s_MO_sumOf.2.1 42 = .ok (.iadd, 1) := by decide +kernel
theorem d_MO_sumOf_43 : decode s_MO_sumOf.2.1 43 = .ok (.istore_n 2, 1) := by decide +kernel
theorem d_MO_sumOf_44 : decode s_MO_sumOf.2.1 44 = .ok (.iload_n 1, 1) := by decide +kernel
theorem d_MO_sumOf_45 : decode s_MO_sumOf.2.1 45 = .ok (.iconst 2, 1) := by decide +kernel
theorem d_MO_sumOf_46 : decode s_MO_sumOf.2.1 46 = .ok (.if_icmp .ne 21, 3) := by decide +kernel
theorem d_MO_sumOf_49 : decode s_MO_sumOf.2.1 49 = .ok (.aload_n 0, 1) := by decide +kernel
theorem d_MO_sumOf_50 : decode s_MO_sumOf.2.1 50 = .ok (.aload_n 0, 1) := by decide +kernel
theorem d_MO_sumOf_51 : decode s_MO_sumOf.2.1 51 = .ok (.getfield 96, 3) := by decide +kernel
theorem d_MO_sumOf_54 : decode s_MO_sumOf.2.1 54 = .ok (.iload_n 3, 1) := by decide +kernel
theorem d_MO_sumOf_55 : decode s_MO_sumOf.2.1 55 = .ok (.laload, 1) := by decide +kernel
theorem d_MO_sumOf_56 : decode s_MO_sumOf.2.1 56 = .ok (.invokevirtual 434, 3) := by decide +kernel
theorem d_MO_sumOf_59 : decode s_MO_sumOf.2.1 59 = .ok (.ifCond .eq 8, 3) := by decide +kernel
theorem d_MO_sumOf_62 : decode s_MO_sumOf.2.1 62 = .ok (.iload_n 2, 1) := by decide +kernel
theorem d_MO_sumOf_63 : decode s_MO_sumOf.2.1 63 = .ok (.iload 4, 2) := by decide +kernel
theorem d_MO_sumOf_65 : decode s_MO_sumOf.2.1 65 = .ok (.iadd, 1) := by decide +kernel
theorem d_MO_sumOf_66 : decode s_MO_sumOf.2.1 66 = .ok (.istore_n 2, 1) := by decide +kernel
theorem d_MO_sumOf_67 : decode s_MO_sumOf.2.1 67 = .ok (.iload_n 1, 1) := by decide +kernel
theorem d_MO_sumOf_68 : decode s_MO_sumOf.2.1 68 = .ok (.iconst 3, 1) := by decide +kernel
theorem d_MO_sumOf_69 : decode s_MO_sumOf.2.1 69 = .ok (.if_icmp .ne 16, 3) := by decide +kernel
theorem d_MO_sumOf_72 : decode s_MO_sumOf.2.1 72 = .ok (.aload_n 0, 1) := by decide +kernel
theorem d_MO_sumOf_73 : decode s_MO_sumOf.2.1 73 = .ok (.iload_n 3, 1) := by decide +kernel
theorem d_MO_sumOf_74 : decode s_MO_sumOf.2.1 74 = .ok (.invokevirtual 431, 3) := by decide +kernel
theorem d_MO_sumOf_77 : decode s_MO_sumOf.2.1 77 = .ok (.ifCond .ne 8, 3) := by decide +kernel
theorem d_MO_sumOf_80 : decode s_MO_sumOf.2.1 80 = .ok (.iload_n 2, 1) := by decide +kernel
theorem d_MO_sumOf_81 : decode s_MO_sumOf.2.1 81 = .ok (.iload 4, 2) := by decide +kernel
theorem d_MO_sumOf_83 : decode s_MO_sumOf.2.1 83 = .ok (.iadd, 1) := by decide +kernel
theorem d_MO_sumOf_84 : decode s_MO_sumOf.2.1 84 = .ok (.istore_n 2, 1) := by decide +kernel
theorem d_MO_sumOf_85 : decode s_MO_sumOf.2.1 85 = .ok (.iinc 3 1, 3) := by decide +kernel
theorem d_MO_sumOf_88 : decode s_MO_sumOf.2.1 88 = .ok (.goto (-84), 3) := by decide +kernel
theorem d_MO_sumOf_91 : decode s_MO_sumOf.2.1 91 = .ok (.iload_n 2, 1) := by decide +kernel
theorem d_MO_sumOf_92 : decode s_MO_sumOf.2.1 92 = .ok (.ireturn, 1) := by decide +kernel
theorem d_MO_enters0_0 : decode s_MO_enters0.2.1 0 = .ok (.aload_n 0, 1) := by decide +kernel
theorem d_MO_enters0_1 : decode s_MO_enters0.2.1 1 = .ok (.dup, 1) := by decide +kernel
theorem d_MO_enters0_2 : decode s_MO_enters0.2.1 2 = .ok (.getfield 463, 3) := by decide +kernel
theorem d_MO_enters0_5 : decode s_MO_enters0.2.1 5 = .ok (.iconst 1, 1) := by decide +kernel
theorem d_MO_enters0_6 : decode s_MO_enters0.2.1 6 = .ok (.iadd, 1) := by decide +kernel
theorem d_MO_enters0_7 : decode s_MO_enters0.2.1 7 = .ok (.putfield 463, 3) := by decide +kernel
theorem d_MO_enters0_10 : decode s_MO_enters0.2.1 10 = .ok (.aload_n 0, 1) := by decide +kernel
theorem d_MO_enters0_11 : decode s_MO_enters0.2.1 11 = .ok (.getfield 133, 3) := by decide +kernel
theorem d_MO_enters0_14 : decode s_MO_enters0.2.1 14 = .ok (.iload_n 1, 1) := by decide +kernel
theorem d_MO_enters0_15 : decode s_MO_enters0.2.1 15 = .ok (.aload_n 0, 1) := by decide +kernel
theorem d_MO_enters0_16 : decode s_MO_enters0.2.1 16 = .ok (.getfield 463, 3) := by decide +kernel
theorem d_MO_enters0_19 : decode s_MO_enters0.2.1 19 = .ok (.iastore, 1) := by decide +kernel
theorem d_MO_enters0_20 : decode s_MO_enters0.2.1 20 = .ok (.aload_n 0, 1) := by decide +kernel
theorem d_MO_enters0_21 : decode s_MO_enters0.2.1 21 = .ok (.getfield 136, 3) := by decide +kernel
theorem d_MO_enters0_24 : decode s_MO_enters0.2.1 24 = .ok (.iload_n 1, 1) := by decide +kernel
theorem d_MO_enters0_25 : decode s_MO_enters0.2.1 25 = .ok (.aload_n 0, 1) := by decide +kernel
theorem d_MO_enters0_26 : decode s_MO_enters0.2.1 26 = .ok (.getfield 463, 3) := by decide +kernel
theorem d_MO_enters0_29 : decode s_MO_enters0.2.1 29 = .ok (.iastore, 1) := by decide +kernel
theorem d_MO_enters0_30 : decode s_MO_enters0.2.1 30 = .ok (.aload_n 0, 1) := by decide +kernel
theorem d_MO_enters0_31 : decode s_MO_enters0.2.1 31 = .ok (.getfield 142, 3) := by decide +kernel
theorem d_MO_enters0_34 : decode s_MO_enters0.2.1 34 = .ok (.iload_n 1, 1) := by decide +kernel
theorem d_MO_enters0_35 : decode s_MO_enters0.2.1 35 = .ok (.iconst 0, 1) := by decide +kernel
theorem d_MO_enters0_36 : decode s_MO_enters0.2.1 36 = .ok (.iastore, 1) := by decide +kernel
theorem d_MO_enters0_37 : decode s_MO_enters0.2.1 37 = .ok (.aload_n 0, 1) := by decide +kernel
theorem d_MO_enters0_38 : decode s_MO_enters0.2.1 38 = .ok (.getfield 139, 3) := by decide +kernel
theorem d_MO_enters0_41 : decode s_MO_enters0.2.1 41 = .ok (.aload_n 0, 1) := by decide +kernel
theorem d_MO_enters0_42 : decode s_MO_enters0.2.1 42 = .ok (.getfield 475, 3) := by decide +kernel
theorem d_MO_enters0_45 : decode s_MO_enters0.2.1 45 = .ok (.iload_n 1, 1) := by decide +kernel
theorem d_MO_enters0_46 : decode s_MO_enters0.2.1 46 = .ok (.iastore, 1) := by decide +kernel
theorem d_MO_enters0_47 : decode s_MO_enters0.2.1 47 = .ok (.aload_n 0, 1) := by decide +kernel
theorem d_MO_enters0_48 : decode s_MO_enters0.2.1 48 = .ok (.dup, 1) := by decide +kernel
theorem d_MO_enters0_49 : decode s_MO_enters0.2.1 49 = .ok (.getfield 475, 3) := by decide +kernel
theorem d_MO_enters0_52 : decode s_MO_enters0.2.1 52 = .ok (.iconst 1, 1) := by decide +kernel
theorem d_MO_enters0_53 : decode s_MO_enters0.2.1 53 = .ok (.iadd, 1) := by decide +kernel
theorem d_MO_enters0_54 : decode s_MO_enters0.2.1 54 = .ok (.putfield 475, 3) := by decide +kernel
theorem d_MO_enters0_57 : decode s_MO_enters0.2.1 57 = .ok (.aload_n 0, 1) := by decide +kernel
theorem d_MO_enters0_58 : decode s_MO_enters0.2.1 58 = .ok (.getfield 145, 3) := by decide +kernel
theorem d_MO_enters0_61 : decode s_MO_enters0.2.1 61 = .ok (.aload_n 0, 1) := by decide +kernel
theorem d_MO_enters0_62 : decode s_MO_enters0.2.1 62 = .ok (.getfield 469, 3) := by decide +kernel
theorem d_MO_enters0_65 : decode s_MO_enters0.2.1 65 = .ok (.iload_n 1, 1) := by decide +kernel
theorem d_MO_enters0_66 : decode s_MO_enters0.2.1 66 = .ok (.iastore, 1) := by decide +kernel
theorem d_MO_enters0_67 : decode s_MO_enters0.2.1 67 = .ok (.aload_n 0, 1) := by decide +kernel
theorem d_MO_enters0_68 : decode s_MO_enters0.2.1 68 = .ok (.dup, 1) := by decide +kernel
theorem d_MO_enters0_69 : decode s_MO_enters0.2.1 69 = .ok (.getfield 469, 3) := by decide +kernel
theorem d_MO_enters0_72 : decode s_MO_enters0.2.1 72 = .ok (.iconst 1, 1) := by decide +kernel
theorem d_MO_enters0_73 : decode s_MO_enters0.2.1 73 = .ok (.iadd, 1) := by decide +kernel
theorem d_MO_enters0_74 : decode s_MO_enters0.2.1 74 = .ok (.putfield 469, 3) := by decide +kernel
theorem d_MO_enters0_77 : decode s_MO_enters0.2.1 77 = .ok (.aload_n 0, 1) := by decide +kernel
theorem d_MO_enters0_78 : decode s_MO_enters0.2.1 78 = .ok (.getfield 148, 3) := by decide +kernel
theorem d_MO_enters0_81 : decode s_MO_enters0.2.1 81 = .ok (.iload_n 1, 1) := by decide +kernel
theorem d_MO_enters0_82 : decode s_MO_enters0.2.1 82 = .ok (.iconst 1, 1) := by decide +kernel
theorem d_MO_enters0_83 : decode s_MO_enters0.2.1 83 = .ok (.bastore, 1) := by decide +kernel
theorem d_MO_enters0_84 : decode s_MO_enters0.2.1 84 = .ok (.return_, 1) := by decide +kernel
theorem d_MO_leaves_0 : decode s_MO_leaves.2.1 0 = .ok (.iconst (-1), 1) := by decide +kernel
theorem d_MO_leaves_1 : decode s_MO_leaves.2.1 1 = .ok (.istore_n 2, 1) := by decide +kernel
theorem d_MO_leaves_2 : decode s_MO_leaves.2.1 2 = .ok (.iload_n 2, 1) := by decide +kernel
theorem d_MO_leaves_3 : decode s_MO_leaves.2.1 3 = .ok (.iload_n 1, 1) := by decide +kernel
theorem d_MO_leaves_4 : decode s_MO_leaves.2.1 4 = .ok (.if_icmp .eq 43, 3) := by decide +kernel
theorem d_MO_leaves_7 : decode s_MO_leaves.2.1 7 = .ok (.aload_n 0, 1) := by decide +kernel
theorem d_MO_leaves_8 : decode s_MO_leaves.2.1 8 = .ok (.dup, 1) := by decide +kernel
theorem d_MO_leaves_9 : decode s_MO_leaves.2.1 9 = .ok (.getfield 469, 3) := by decide +kernel
theorem d_MO_leaves_12 : decode s_MO_leaves.2.1 12 = .ok (.iconst 1, 1) := by decide +kernel
theorem d_MO_leaves_13 : decode s_MO_leaves.2.1 13 = .ok (.isub, 1) := by decide +kernel
theorem d_MO_leaves_14 : decode s_MO_leaves.2.1 14 = .ok (.putfield 469, 3) := by decide +kernel
theorem d_MO_leaves_17 : decode s_MO_leaves.2.1 17 = .ok (.aload_n 0, 1) := by decide +kernel
theorem d_MO_leaves_18 : decode s_MO_leaves.2.1 18 = .ok (.getfield 145, 3) := by decide +kernel
theorem d_MO_leaves_21 : decode s_MO_leaves.2.1 21 = .ok (.aload_n 0, 1) := by decide +kernel
theorem d_MO_leaves_22 : decode s_MO_leaves.2.1 22 = .ok (.getfield 469, 3) := by decide +kernel
theorem d_MO_leaves_25 : decode s_MO_leaves.2.1 25 = .ok (.iaload, 1) := by decide +kernel
theorem d_MO_leaves_26 : decode s_MO_leaves.2.1 26 = .ok (.istore_n 2, 1) := by decide +kernel
theorem d_MO_leaves_27 : decode s_MO_leaves.2.1 27 = .ok (.aload_n 0, 1) := by decide +kernel
theorem d_MO_leaves_28 : decode s_MO_leaves.2.1 28 = .ok (.getfield 148, 3) := by decide +kernel
theorem d_MO_leaves_31 : decode s_MO_leaves.2.1 31 = .ok (.iload_n 2, 1) := by decide +kernel
theorem d_MO_leaves_32 : decode s_MO_leaves.2.1 32 = .ok (.iconst 0, 1) := by decide +kernel
theorem d_MO_leaves_33 : decode s_MO_leaves.2.1 33 = .ok (.bastore, 1) := by decide +kernel
theorem d_MO_leaves_34 : decode s_MO_leaves.2.1 34 = .ok (.aload_n 0, 1) := by decide +kernel
theorem d_MO_leaves_35 : decode s_MO_leaves.2.1 35 = .ok (.getfield 130, 3) := by decide +kernel
theorem d_MO_leaves_38 : decode s_MO_leaves.2.1 38 = .ok (.iload_n 2, 1) := by decide +kernel
theorem d_MO_leaves_39 : decode s_MO_leaves.2.1 39 = .ok (.aload_n 0, 1) := by decide +kernel
theorem d_MO_leaves_40 : decode s_MO_leaves.2.1 40 = .ok (.getfield 466, 3) := by decide +kernel
theorem d_MO_leaves_43 : decode s_MO_leaves.2.1 43 = .ok (.iastore, 1) := by decide +kernel
theorem d_MO_leaves_44 : decode s_MO_leaves.2.1 44 = .ok (.goto (-42), 3) := by decide +kernel
theorem d_MO_leaves_47 : decode s_MO_leaves.2.1 47 = .ok (.aload_n 0, 1) := by decide +kernel
theorem d_MO_leaves_48 : decode s_MO_leaves.2.1 48 = .ok (.dup, 1) := by decide +kernel
theorem d_MO_leaves_49 : decode s_MO_leaves.2.1 49 = .ok (.getfield 466, 3) := by decide +kernel
theorem d_MO_leaves_52 : decode s_MO_leaves.2.1 52 = .ok (.iconst 1, 1) := by decide +kernel
theorem d_MO_leaves_53 : decode s_MO_leaves.2.1 53 = .ok (.iadd, 1) := by decide +kernel
theorem d_MO_leaves_54 : decode s_MO_leaves.2.1 54 = .ok (.putfield 466, 3) := by decide +kernel
theorem d_MO_leaves_57 : decode s_MO_leaves.2.1 57 = .ok (.return_, 1) := by decide +kernel
theorem d_MO_goesDown_0 : decode s_MO_goesDown.2.1 0 = .ok (.aload_n 0, 1) := by decide +kernel
theorem d_MO_goesDown_1 : decode s_MO_goesDown.2.1 1 = .ok (.iconst 0, 1) := by decide +kernel
theorem d_MO_goesDown_2 : decode s_MO_goesDown.2.1 2 = .ok (.putfield 475, 3) := by decide +kernel
theorem d_MO_goesDown_5 : decode s_MO_goesDown.2.1 5 = .ok (.aload_n 0, 1) := by decide +kernel
theorem d_MO_goesDown_6 : decode s_MO_goesDown.2.1 6 = .ok (.iload_n 2, 1) := by decide +kernel
theorem d_MO_goesDown_7 : decode s_MO_goesDown.2.1 7 = .ok (.invokevirtual 478, 3) := by decide +kernel
theorem d_MO_goesDown_10 : decode s_MO_goesDown.2.1 10 = .ok (.aload_n 0, 1) := by decide +kernel
theorem d_MO_goesDown_11 : decode s_MO_goesDown.2.1 11 = .ok (.getfield 475, 3) := by decide +kernel
theorem d_MO_goesDown_14 : decode s_MO_goesDown.2.1 14 = .ok (.ifCond .le 218, 3) := by decide +kernel
theorem d_MO_goesDown_17 : decode s_MO_goesDown.2.1 17 = .ok (.aload_n 0, 1) := by decide +kernel
theorem d_MO_goesDown_18 : decode s_MO_goesDown.2.1 18 = .ok (.getfield 139, 3) := by decide +kernel
theorem d_MO_goesDown_21 : decode s_MO_goesDown.2.1 21 = .ok (.aload_n 0, 1) := by decide +kernel
theorem d_MO_goesDown_22 : decode s_MO_goesDown.2.1 22 = .ok (.getfield 475, 3) := by decide +kernel
theorem d_MO_goesDown_25 : decode s_MO_goesDown.2.1 25 = .ok (.iconst 1, 1) := by decide +kernel
theorem d_MO_goesDown_26 : decode s_MO_goesDown.2.1 26 = .ok (.isub, 1) := by decide +kernel
theorem d_MO_goesDown_27 : decode s_MO_goesDown.2.1 27 = .ok (.iaload, 1) := by decide +kernel
theorem d_MO_goesDown_28 : decode s_MO_goesDown.2.1 28 = .ok (.istore_n 3, 1) := by decide +kernel
theorem d_MO_goesDown_29 : decode s_MO_goesDown.2.1 29 = .ok (.aload_n 0, 1) := by decide +kernel
theorem d_MO_goesDown_30 : decode s_MO_goesDown.2.1 30 = .ok (.getfield 142, 3) := by decide +kernel
theorem d_MO_goesDown_33 : decode s_MO_goesDown.2.1 33 = .ok (.iload_n 3, 1) := by decide +kernel
theorem d_MO_goesDown_34 : decode s_MO_goesDown.2.1 34 = .ok (.iaload, 1) := by decide +kernel
theorem d_MO_goesDown_35 : decode s_MO_goesDown.2.1 35 = .ok (.bipush 64, 2) := by decide +kernel
theorem d_MO_goesDown_37 : decode s_MO_goesDown.2.1 37 = .ok (.if_icmp .ge 108, 3) := by decide +kernel
theorem d_MO_goesDown_40 : decode s_MO_goesDown.2.1 40 = .ok (.aload_n 1, 1) := by decide +kernel
theorem d_MO_goesDown_41 : decode s_MO_goesDown.2.1 41 = .ok (.bipush 64, 2) := by decide +kernel
theorem d_MO_goesDown_43 : decode s_MO_goesDown.2.1 43 = .ok (.iload_n 3, 1) := by decide +kernel
theorem d_MO_goesDown_44 : decode s_MO_goesDown.2.1 44 = .ok (.imul, 1) := by decide +kernel
theorem d_MO_goesDown_45 : decode s_MO_goesDown.2.1 45 = .ok (.aload_n 0, 1) := by decide +kernel
theorem d_MO_goesDown_46 : decode s_MO_goesDown.2.1 46 = .ok (.getfield 142, 3) := by decide +kernel
theorem d_MO_goesDown_49 : decode s_MO_goesDown.2.1 49 = .ok (.iload_n 3, 1) := by decide +kernel
theorem d_MO_goesDown_50 : decode s_MO_goesDown.2.1 50 = .ok (.iaload, 1) := by decide +kernel
theorem d_MO_goesDown_51 : decode s_MO_goesDown.2.1 51 = .ok (.iadd, 1) := by decide +kernel
theorem d_MO_goesDown_52 : decode s_MO_goesDown.2.1 52 = .ok (.iaload, 1) := by decide +kernel
theorem d_MO_goesDown_53 : decode s_MO_goesDown.2.1 53 = .ok (.istore 4, 2) := by decide +kernel
theorem d_MO_goesDown_55 : decode s_MO_goesDown.2.1 55 = .ok (.aload_n 0, 1) := by decide +kernel
theorem d_MO_goesDown_56 : decode s_MO_goesDown.2.1 56 = .ok (.getfield 142, 3) := by decide +kernel
theorem d_MO_goesDown_59 : decode s_MO_goesDown.2.1 59 = .ok (.iload_n 3, 1) := by decide +kernel
theorem d_MO_goesDown_60 : decode s_MO_goesDown.2.1 60 = .ok (.dup2, 1) := by decide +kernel
theorem d_MO_goesDown_61 : decode s_MO_goesDown.2.1 61 = .ok (.iaload, 1) := by decide +kernel
theorem d_MO_goesDown_62 : decode s_MO_goesDown.2.1 62 = .ok (.iconst 1, 1) := by decide +kernel
theorem d_MO_goesDown_63 : decode s_MO_goesDown.2.1 63 = .ok (.iadd, 1) := by decide +kernel
theorem d_MO_goesDown_64 : decode s_MO_goesDown.2.1 64 = .ok (.iastore, 1) := by decide +kernel
theorem d_MO_goesDown_65 : decode s_MO_goesDown.2.1 65 = .ok (.iload 4, 2) := by decide +kernel
theorem d_MO_goesDown_67 : decode s_MO_goesDown.2.1 67 = .ok (.iconst (-1), 1) := by decide +kernel
theorem d_MO_goesDown_68 : decode s_MO_goesDown.2.1 68 = .ok (.if_icmp .eq (-58), 3) := by decide +kernel
theorem d_MO_goesDown_71 : decode s_MO_goesDown.2.1 71 = .ok (.aload_n 0, 1) := by decide +kernel
theorem d_MO_goesDown_72 : decode s_MO_goesDown.2.1 72 = .ok (.getfield 120, 3) := by decide +kernel
theorem d_MO_goesDown_75 : decode s_MO_goesDown.2.1 75 = .ok (.iload 4, 2) := by decide +kernel
theorem d_MO_goesDown_77 : decode s_MO_goesDown.2.1 77 = .ok (.baload, 1) := by decide +kernel
theorem d_MO_goesDown_78 : decode s_MO_goesDown.2.1 78 = .ok (.ifCond .ne 6, 3) := by decide +kernel
theorem d_MO_goesDown_81 : decode s_MO_goesDown.2.1 81 = .ok (.goto (-71), 3) := by decide +kernel
theorem d_MO_goesDown_84 : decode s_MO_goesDown.2.1 84 = .ok (.aload_n 0, 1) := by decide +kernel
theorem d_MO_goesDown_85 : decode s_MO_goesDown.2.1 85 = .ok (.getfield 133, 3) := by decide +kernel
theorem d_MO_goesDown_88 : decode s_MO_goesDown.2.1 88 = .ok (.iload 4, 2) := by decide +kernel
theorem d_MO_goesDown_90 : decode s_MO_goesDown.2.1 90 = .ok (.iaload, 1) := by decide +kernel
theorem d_MO_goesDown_91 : decode s_MO_goesDown.2.1 91 = .ok (.ifCond .ne 12, 3) := by decide +kernel
theorem d_MO_goesDown_94 : decode s_MO_goesDown.2.1 94 = .ok (.aload_n 0, 1) := by decide +kernel
theorem d_MO_goesDown_95 : decode s_MO_goesDown.2.1 95 = .ok (.iload 4, 2) := by decide +kernel
theorem d_MO_goesDown_97 : decode s_MO_goesDown.2.1 97 = .ok (.invokevirtual 478, 3) := by decide +kernel
theorem d_MO_goesDown_100 : decode s_MO_goesDown.2.1 100 = .ok (.goto (-90), 3) := by decide +kernel
theorem d_MO_goesDown_103 : decode s_MO_goesDown.2.1 103 = .ok (.aload_n 0, 1) := by decide +kernel
theorem d_MO_goesDown_104 : decode s_MO_goesDown.2.1 104 = .ok (.getfield 148, 3) := by decide +kernel
theorem d_MO_goesDown_107 : decode s_MO_goesDown.2.1 107 = .ok (.iload 4, 2) := by decide +kernel
theorem d_MO_goesDown_109 : decode s_MO_goesDown.2.1 109 = .ok (.baload, 1) := by decide +kernel
theorem d_MO_goesDown_110 : decode s_MO_goesDown.2.1 110 = .ok (.ifCond .eq (-100), 3) := by decide +kernel
theorem d_MO_goesDown_113 : decode s_MO_goesDown.2.1 113 = .ok (.aload_n 0, 1) := by decide +kernel
theorem d_MO_goesDown_114 : decode s_MO_goesDown.2.1 114 = .ok (.getfield 133, 3) := by decide +kernel
theorem d_MO_goesDown_117 : decode s_MO_goesDown.2.1 117 = .ok (.iload 4, 2) := by decide +kernel
theorem d_MO_goesDown_119 : decode s_MO_goesDown.2.1 119 = .ok (.iaload, 1) := by decide +kernel
theorem d_MO_goesDown_120 : decode s_MO_goesDown.2.1 120 = .ok (.aload_n 0, 1) := by decide +kernel
theorem d_MO_goesDown_121 : decode s_MO_goesDown.2.1 121 = .ok (.getfield 136, 3) := by decide +kernel
theorem d_MO_goesDown_124 : decode s_MO_goesDown.2.1 124 = .ok (.iload_n 3, 1) := by decide +kernel
theorem d_MO_goesDown_125 : decode s_MO_goesDown.2.1 125 = .ok (.iaload, 1) := by decide +kernel
theorem d_MO_goesDown_126 : decode s_MO_goesDown.2.1 126 = .ok (.if_icmp .ge (-116), 3) := by decide +kernel
theorem d_MO_goesDown_129 : decode s_MO_goesDown.2.1 129 = .ok (.aload_n 0, 1) := by decide +kernel
theorem d_MO_goesDown_130 : decode s_MO_goesDown.2.1 130 = .ok (.getfield 136, 3) := by decide +kernel
theorem d_MO_goesDown_133 : decode s_MO_goesDown.2.1 133 = .ok (.iload_n 3, 1) := by decide +kernel
theorem d_MO_goesDown_134 : decode s_MO_goesDown.2.1 134 = .ok (.aload_n 0, 1) := by decide +kernel
theorem d_MO_goesDown_135 : decode s_MO_goesDown.2.1 135 = .ok (.getfield 133, 3) := by decide +kernel
theorem d_MO_goesDown_138 : decode s_MO_goesDown.2.1 138 = .ok (.iload 4, 2) := by decide +kernel
theorem d_MO_goesDown_140 : decode s_MO_goesDown.2.1 140 = .ok (.iaload, 1) := by decide +kernel
theorem d_MO_goesDown_141 : decode s_MO_goesDown.2.1 141 = .ok (.iastore, 1) := by decide +kernel
theorem d_MO_goesDown_142 : decode s_MO_goesDown.2.1 142 = .ok (.goto (-132), 3) := by decide +kernel
theorem d_MO_goesDown_145 : decode s_MO_goesDown.2.1 145 = .ok (.aload_n 0, 1) := by decide +kernel
theorem d_MO_goesDown_146 : decode s_MO_goesDown.2.1 146 = .ok (.dup, 1) := by decide +kernel
theorem d_MO_goesDown_147 : decode s_MO_goesDown.2.1 147 = .ok (.getfield 475, 3) := by decide +kernel
theorem d_MO_goesDown_150 : decode s_MO_goesDown.2.1 150 = .ok (.iconst 1, 1) := by decide +kernel
theorem d_MO_goesDown_151 : decode s_MO_goesDown.2.1 151 = .ok (.isub, 1) := by decide +kernel
theorem d_MO_goesDown_152 : decode s_MO_goesDown.2.1 152 = .ok (.putfield 475, 3) := by decide +kernel
theorem d_MO_goesDown_155 : decode s_MO_goesDown.2.1 155 = .ok (.aload_n 0, 1) := by decide +kernel
theorem d_MO_goesDown_156 : decode s_MO_goesDown.2.1 156 = .ok (.getfield 475, 3) := by decide +kernel
theorem d_MO_goesDown_159 : decode s_MO_goesDown.2.1 159 = .ok (.ifCond .le 50, 3) := by decide +kernel
theorem d_MO_goesDown_162 : decode s_MO_goesDown.2.1 162 = .ok (.aload_n 0, 1) := by decide +kernel
theorem d_MO_goesDown_163 : decode s_MO_goesDown.2.1 163 = .ok (.getfield 136, 3) := by decide +kernel
theorem d_MO_goesDown_166 : decode s_MO_goesDown.2.1 166 = .ok (.iload_n 3, 1) := by decide +kernel
theorem d_MO_goesDown_167 : decode s_MO_goesDown.2.1 167 = .ok (.iaload, 1) := by decide +kernel
theorem d_MO_goesDown_168 : decode s_MO_goesDown.2.1 168 = .ok (.aload_n 0, 1) := by decide +kernel
theorem d_MO_goesDown_169 : decode s_MO_goesDown.2.1 169 = .ok (.getfield 136, 3) := by decide +kernel
theorem d_MO_goesDown_172 : decode s_MO_goesDown.2.1 172 = .ok (.aload_n 0, 1) := by decide +kernel
theorem d_MO_goesDown_173 : decode s_MO_goesDown.2.1 173 = .ok (.getfield 139, 3) := by decide +kernel
theorem d_MO_goesDown_176 : decode s_MO_goesDown.2.1 176 = .ok (.aload_n 0, 1) := by decide +kernel
theorem d_MO_goesDown_177 : decode s_MO_goesDown.2.1 177 = .ok (.getfield 475, 3) := by decide +kernel
theorem d_MO_goesDown_180 : decode s_MO_goesDown.2.1 180 = .ok (.iconst 1, 1) := by decide +kernel
theorem d_MO_goesDown_181 : decode s_MO_goesDown.2.1 181 = .ok (.isub, 1) := by decide +kernel
theorem d_MO_goesDown_182 : decode s_MO_goesDown.2.1 182 = .ok (.iaload, 1) := by decide +kernel
theorem d_MO_goesDown_183 : decode s_MO_goesDown.2.1 183 = .ok (.iaload, 1) := by decide +kernel
theorem d_MO_goesDown_184 : decode s_MO_goesDown.2.1 184 = .ok (.if_icmp .ge 25, 3) := by decide +kernel
theorem d_MO_goesDown_187 : decode s_MO_goesDown.2.1 187 = .ok (.aload_n 0, 1) := by decide +kernel
theorem d_MO_goesDown_188 : decode s_MO_goesDown.2.1 188 = .ok (.getfield 136, 3) := by decide +kernel
theorem d_MO_goesDown_191 : decode s_MO_goesDown.2.1 191 = .ok (.aload_n 0, 1) := by decide +kernel
theorem d_MO_goesDown_192 : decode s_MO_goesDown.2.1 192 = .ok (.getfield 139, 3) := by decide +kernel
theorem d_MO_goesDown_195 : decode s_MO_goesDown.2.1 195 = .ok (.aload_n 0, 1) := by decide +kernel
theorem d_MO_goesDown_196 : decode s_MO_goesDown.2.1 196 = .ok (.getfield 475, 3) := by decide +kernel
theorem d_MO_goesDown_199 : decode s_MO_goesDown.2.1 199 = .ok (.iconst 1, 1) := by decide +kernel
theorem d_MO_goesDown_200 : decode s_MO_goesDown.2.1 200 = .ok (.isub, 1) := by decide +kernel
theorem d_MO_goesDown_201 : decode s_MO_goesDown.2.1 201 = .ok (.iaload, 1) := by decide +kernel
theorem d_MO_goesDown_202 : decode s_MO_goesDown.2.1 202 = .ok (.aload_n 0, 1) := by decide +kernel
theorem d_MO_goesDown_203 : decode s_MO_goesDown.2.1 203 = .ok (.getfield 136, 3) := by decide +kernel
theorem d_MO_goesDown_206 : decode s_MO_goesDown.2.1 206 = .ok (.iload_n 3, 1) := by decide +kernel
theorem d_MO_goesDown_207 : decode s_MO_goesDown.2.1 207 = .ok (.iaload, 1) := by decide +kernel
theorem d_MO_goesDown_208 : decode s_MO_goesDown.2.1 208 = .ok (.iastore, 1) := by decide +kernel
theorem d_MO_goesDown_209 : decode s_MO_goesDown.2.1 209 = .ok (.aload_n 0, 1) := by decide +kernel
theorem d_MO_goesDown_210 : decode s_MO_goesDown.2.1 210 = .ok (.getfield 136, 3) := by decide +kernel
theorem d_MO_goesDown_213 : decode s_MO_goesDown.2.1 213 = .ok (.iload_n 3, 1) := by decide +kernel
theorem d_MO_goesDown_214 : decode s_MO_goesDown.2.1 214 = .ok (.iaload, 1) := by decide +kernel
theorem d_MO_goesDown_215 : decode s_MO_goesDown.2.1 215 = .ok (.aload_n 0, 1) := by decide +kernel
theorem d_MO_goesDown_216 : decode s_MO_goesDown.2.1 216 = .ok (.getfield 133, 3) := by decide +kernel
theorem d_MO_goesDown_219 : decode s_MO_goesDown.2.1 219 = .ok (.iload_n 3, 1) := by decide +kernel
theorem d_MO_goesDown_220 : decode s_MO_goesDown.2.1 220 = .ok (.iaload, 1) := by decide +kernel
theorem d_MO_goesDown_221 : decode s_MO_goesDown.2.1 221 = .ok (.if_icmp .ne 8, 3) := by decide +kernel
theorem d_MO_goesDown_224 : decode s_MO_goesDown.2.1 224 = .ok (.aload_n 0, 1) := by decide +kernel
theorem d_MO_goesDown_225 : decode s_MO_goesDown.2.1 225 = .ok (.iload_n 3, 1) := by decide +kernel
theorem d_MO_goesDown_226 : decode s_MO_goesDown.2.1 226 = .ok (.invokevirtual 481, 3) := by decide +kernel
theorem d_MO_goesDown_229 : decode s_MO_goesDown.2.1 229 = .ok (.goto (-219), 3) := by decide +kernel
theorem d_MO_goesDown_232 : decode s_MO_goesDown.2.1 232 = .ok (.return_, 1) := by decide +kernel
theorem d_MO_joins_0 : decode s_MO_joins.2.1 0 = .ok (.aload_n 0, 1) := by decide +kernel
theorem d_MO_joins_1 : decode s_MO_joins.2.1 1 = .ok (.iconst 0, 1) := by decide +kernel
theorem d_MO_joins_2 : decode s_MO_joins.2.1 2 = .ok (.putfield 463, 3) := by decide +kernel
theorem d_MO_joins_5 : decode s_MO_joins.2.1 5 = .ok (.aload_n 0, 1) := by decide +kernel
theorem d_MO_joins_6 : decode s_MO_joins.2.1 6 = .ok (.iconst 0, 1) := by decide +kernel
theorem d_MO_joins_7 : decode s_MO_joins.2.1 7 = .ok (.putfield 466, 3) := by decide +kernel
theorem d_MO_joins_10 : decode s_MO_joins.2.1 10 = .ok (.aload_n 0, 1) := by decide +kernel
theorem d_MO_joins_11 : decode s_MO_joins.2.1 11 = .ok (.iconst 0, 1) := by decide +kernel
theorem d_MO_joins_12 : decode s_MO_joins.2.1 12 = .ok (.putfield 469, 3) := by decide +kernel
theorem d_MO_joins_15 : decode s_MO_joins.2.1 15 = .ok (.iconst 0, 1) := by decide +kernel
theorem d_MO_joins_16 : decode s_MO_joins.2.1 16 = .ok (.istore_n 3, 1) := by decide +kernel
theorem d_MO_joins_17 : decode s_MO_joins.2.1 17 = .ok (.iload_n 3, 1) := by decide +kernel
theorem d_MO_joins_18 : decode s_MO_joins.2.1 18 = .ok (.iload_n 2, 1) := by decide +kernel
theorem d_MO_joins_19 : decode s_MO_joins.2.1 19 = .ok (.if_icmp .ge 30, 3) := by decide +kernel
theorem d_MO_joins_22 : decode s_MO_joins.2.1 22 = .ok (.aload_n 0, 1) := by decide +kernel
theorem d_MO_joins_23 : decode s_MO_joins.2.1 23 = .ok (.getfield 133, 3) := by decide +kernel
theorem d_MO_joins_26 : decode s_MO_joins.2.1 26 = .ok (.iload_n 3, 1) := by decide +kernel
theorem d_MO_joins_27 : decode s_MO_joins.2.1 27 = .ok (.iconst 0, 1) := by decide +kernel
theorem d_MO_joins_28 : decode s_MO_joins.2.1 28 = .ok (.iastore, 1) := by decide +kernel
theorem d_MO_joins_29 : decode s_MO_joins.2.1 29 = .ok (.aload_n 0, 1) := by decide +kernel
theorem d_MO_joins_30 : decode s_MO_joins.2.1 30 = .ok (.getfield 130, 3) := by decide +kernel
theorem d_MO_joins_33 : decode s_MO_joins.2.1 33 = .ok (.iload_n 3, 1) := by decide +kernel
theorem d_MO_joins_34 : decode s_MO_joins.2.1 34 = .ok (.iconst (-1), 1) := by decide +kernel
theorem d_MO_joins_35 : decode s_MO_joins.2.1 35 = .ok (.iastore, 1) := by decide +kernel
theorem d_MO_joins_36 : decode s_MO_joins.2.1 36 = .ok (.aload_n 0, 1) := by decide +kernel
theorem d_MO_joins_37 : decode s_MO_joins.2.1 37 = .ok (.getfield 148, 3) := by decide +kernel
theorem d_MO_joins_40 : decode s_MO_joins.2.1 40 = .ok (.iload_n 3, 1) := by decide +kernel
theorem d_MO_joins_41 : decode s_MO_joins.2.1 41 = .ok (.iconst 0, 1) := by decide +kernel
theorem d_MO_joins_42 : decode s_MO_joins.2.1 42 = .ok (.bastore, 1) := by decide +kernel
theorem d_MO_joins_43 : decode s_MO_joins.2.1 43 = .ok (.iinc 3 1, 3) := by decide +kernel
theorem d_MO_joins_46 : decode s_MO_joins.2.1 46 = .ok (.goto (-29), 3) := by decide +kernel
theorem d_MO_joins_49 : decode s_MO_joins.2.1 49 = .ok (.iconst 0, 1) := by decide +kernel
theorem d_MO_joins_50 : decode s_MO_joins.2.1 50 = .ok (.istore_n 3, 1) := by decide +kernel
theorem d_MO_joins_51 : decode s_MO_joins.2.1 51 = .ok (.iload_n 3, 1) := by decide +kernel
theorem d_MO_joins_52 : decode s_MO_joins.2.1 52 = .ok (.iload_n 2, 1) := by decide +kernel
theorem d_MO_joins_53 : decode s_MO_joins.2.1 53 = .ok (.if_icmp .ge 33, 3) := by decide +kernel
theorem d_MO_joins_56 : decode s_MO_joins.2.1 56 = .ok (.aload_n 0, 1) := by decide +kernel
theorem d_MO_joins_57 : decode s_MO_joins.2.1 57 = .ok (.getfield 120, 3) := by decide +kernel
theorem d_MO_joins_60 : decode s_MO_joins.2.1 60 = .ok (.iload_n 3, 1) := by decide +kernel
theorem d_MO_joins_61 : decode s_MO_joins.2.1 61 = .ok (.baload, 1) := by decide +kernel
theorem d_MO_joins_62 : decode s_MO_joins.2.1 62 = .ok (.ifCond .eq 18, 3) := by decide +kernel
theorem d_MO_joins_65 : decode s_MO_joins.2.1 65 = .ok (.aload_n 0, 1) := by decide +kernel
theorem d_MO_joins_66 : decode s_MO_joins.2.1 66 = .ok (.getfield 133, 3) := by decide +kernel
theorem d_MO_joins_69 : decode s_MO_joins.2.1 69 = .ok (.iload_n 3, 1) := by decide +kernel
theorem d_MO_joins_70 : decode s_MO_joins.2.1 70 = .ok (.iaload, 1) := by decide +kernel
theorem d_MO_joins_71 : decode s_MO_joins.2.1 71 = .ok (.ifCond .ne 9, 3) := by decide +kernel
theorem d_MO_joins_74 : decode s_MO_joins.2.1 74 = .ok (.aload_n 0, 1) := by decide +kernel
theorem d_MO_joins_75 : decode s_MO_joins.2.1 75 = .ok (.aload_n 1, 1) := by decide +kernel
theorem d_MO_joins_76 : decode s_MO_joins.2.1 76 = .ok (.iload_n 3, 1) := by decide +kernel
theorem d_MO_joins_77 : decode s_MO_joins.2.1 77 = .ok (.invokevirtual 472, 3) := by decide +kernel
theorem d_MO_joins_80 : decode s_MO_joins.2.1 80 = .ok (.iinc 3 1, 3) := by decide +kernel
theorem d_MO_joins_83 : decode s_MO_joins.2.1 83 = .ok (.goto (-32), 3) := by decide +kernel
theorem d_MO_joins_86 : decode s_MO_joins.2.1 86 = .ok (.return_, 1) := by decide +kernel
theorem d_MO_partMany_0 : decode s_MO_partMany.2.1 0 = .ok (.iconst 0, 1) := by decide +kernel
theorem d_MO_partMany_1 : decode s_MO_partMany.2.1 1 = .ok (.istore_n 1, 1) := by decide +kernel
theorem d_MO_partMany_2 : decode s_MO_partMany.2.1 2 = .ok (.iload_n 1, 1) := by decide +kernel
theorem d_MO_partMany_3 : decode s_MO_partMany.2.1 3 = .ok (.aload_n 0, 1) := by decide +kernel
theorem d_MO_partMany_4 : decode s_MO_partMany.2.1 4 = .ok (.getfield 380, 3) := by decide +kernel
theorem d_MO_partMany_7 : decode s_MO_partMany.2.1 7 = .ok (.if_icmp .ge 16, 3) := by decide +kernel
theorem d_MO_partMany_10 : decode s_MO_partMany.2.1 10 = .ok (.aload_n 0, 1) := by decide +kernel
theorem d_MO_partMany_11 : decode s_MO_partMany.2.1 11 = .ok (.getfield 120, 3) := by decide +kernel
theorem d_MO_partMany_14 : decode s_MO_partMany.2.1 14 = .ok (.iload_n 1, 1) := by decide +kernel
theorem d_MO_partMany_15 : decode s_MO_partMany.2.1 15 = .ok (.iconst 1, 1) := by decide +kernel
theorem d_MO_partMany_16 : decode s_MO_partMany.2.1 16 = .ok (.bastore, 1) := by decide +kernel
theorem d_MO_partMany_17 : decode s_MO_partMany.2.1 17 = .ok (.iinc 1 1, 3) := by decide +kernel
theorem d_MO_partMany_20 : decode s_MO_partMany.2.1 20 = .ok (.goto (-18), 3) := by decide +kernel
theorem d_MO_partMany_23 : decode s_MO_partMany.2.1 23 = .ok (.aload_n 0, 1) := by decide +kernel
theorem d_MO_partMany_24 : decode s_MO_partMany.2.1 24 = .ok (.aload_n 0, 1) := by decide +kernel
theorem d_MO_partMany_25 : decode s_MO_partMany.2.1 25 = .ok (.getfield 107, 3) := by decide +kernel
theorem d_MO_partMany_28 : decode s_MO_partMany.2.1 28 = .ok (.aload_n 0, 1) := by decide +kernel
theorem d_MO_partMany_29 : decode s_MO_partMany.2.1 29 = .ok (.getfield 380, 3) := by decide +kernel
theorem d_MO_partMany_32 : decode s_MO_partMany.2.1 32 = .ok (.invokevirtual 456, 3) := by decide +kernel
theorem d_MO_partMany_35 : decode s_MO_partMany.2.1 35 = .ok (.iconst 0, 1) := by decide +kernel
theorem d_MO_partMany_36 : decode s_MO_partMany.2.1 36 = .ok (.istore_n 1, 1) := by decide +kernel
theorem d_MO_partMany_37 : decode s_MO_partMany.2.1 37 = .ok (.iload_n 1, 1) := by decide +kernel
theorem d_MO_partMany_38 : decode s_MO_partMany.2.1 38 = .ok (.aload_n 0, 1) := by decide +kernel
theorem d_MO_partMany_39 : decode s_MO_partMany.2.1 39 = .ok (.getfield 466, 3) := by decide +kernel
theorem d_MO_partMany_42 : decode s_MO_partMany.2.1 42 = .ok (.if_icmp .ge 16, 3) := by decide +kernel
theorem d_MO_partMany_45 : decode s_MO_partMany.2.1 45 = .ok (.aload_n 0, 1) := by decide +kernel
theorem d_MO_partMany_46 : decode s_MO_partMany.2.1 46 = .ok (.getfield 166, 3) := by decide +kernel
theorem d_MO_partMany_49 : decode s_MO_partMany.2.1 49 = .ok (.iload_n 1, 1) := by decide +kernel
theorem d_MO_partMany_50 : decode s_MO_partMany.2.1 50 = .ok (.iconst (-1), 1) := by decide +kernel
theorem d_MO_partMany_51 : decode s_MO_partMany.2.1 51 = .ok (.iastore, 1) := by decide +kernel
theorem d_MO_partMany_52 : decode s_MO_partMany.2.1 52 = .ok (.iinc 1 1, 3) := by decide +kernel
theorem d_MO_partMany_55 : decode s_MO_partMany.2.1 55 = .ok (.goto (-18), 3) := by decide +kernel
theorem d_MO_partMany_58 : decode s_MO_partMany.2.1 58 = .ok (.iconst 0, 1) := by decide +kernel
theorem d_MO_partMany_59 : decode s_MO_partMany.2.1 59 = .ok (.istore_n 1, 1) := by decide +kernel
theorem d_MO_partMany_60 : decode s_MO_partMany.2.1 60 = .ok (.iconst 0, 1) := by decide +kernel
theorem d_MO_partMany_61 : decode s_MO_partMany.2.1 61 = .ok (.istore_n 2, 1) := by decide +kernel
theorem d_MO_partMany_62 : decode s_MO_partMany.2.1 62 = .ok (.iload_n 2, 1) := by decide +kernel
theorem d_MO_partMany_63 : decode s_MO_partMany.2.1 63 = .ok (.aload_n 0, 1) := by decide +kernel
theorem d_MO_partMany_64 : decode s_MO_partMany.2.1 64 = .ok (.getfield 380, 3) := by decide +kernel
theorem d_MO_partMany_67 : decode s_MO_partMany.2.1 67 = .ok (.if_icmp .ge 63, 3) := by decide +kernel
theorem d_MO_partMany_70 : decode s_MO_partMany.2.1 70 = .ok (.aload_n 0, 1) := by decide +kernel
theorem d_MO_partMany_71 : decode s_MO_partMany.2.1 71 = .ok (.getfield 166, 3) := by decide +kernel
theorem d_MO_partMany_74 : decode s_MO_partMany.2.1 74 = .ok (.aload_n 0, 1) := by decide +kernel
theorem d_MO_partMany_75 : decode s_MO_partMany.2.1 75 = .ok (.getfield 130, 3) := by decide +kernel
theorem d_MO_partMany_78 : decode s_MO_partMany.2.1 78 = .ok (.iload_n 2, 1) := by decide +kernel
theorem d_MO_partMany_79 : decode s_MO_partMany.2.1 79 = .ok (.iaload, 1) := by decide +kernel
theorem d_MO_partMany_80 : decode s_MO_partMany.2.1 80 = .ok (.iaload, 1) := by decide +kernel
theorem d_MO_partMany_81 : decode s_MO_partMany.2.1 81 = .ok (.iconst (-1), 1) := by decide +kernel
theorem d_MO_partMany_82 : decode s_MO_partMany.2.1 82 = .ok (.if_icmp .ne 25, 3) := by decide +kernel
theorem d_MO_partMany_85 : decode s_MO_partMany.2.1 85 = .ok (.aload_n 0, 1) := by decide +kernel
theorem d_MO_partMany_86 : decode s_MO_partMany.2.1 86 = .ok (.getfield 166, 3) := by decide +kernel
theorem d_MO_partMany_89 : decode s_MO_partMany.2.1 89 = .ok (.aload_n 0, 1) := by decide +kernel
theorem d_MO_partMany_90 : decode s_MO_partMany.2.1 90 = .ok (.getfield 130, 3) := by decide +kernel
theorem d_MO_partMany_93 : decode s_MO_partMany.2.1 93 = .ok (.iload_n 2, 1) := by decide +kernel
theorem d_MO_partMany_94 : decode s_MO_partMany.2.1 94 = .ok (.iaload, 1) := by decide +kernel
theorem d_MO_partMany_95 : decode s_MO_partMany.2.1 95 = .ok (.iload_n 1, 1) := by decide +kernel
theorem d_MO_partMany_96 : decode s_MO_partMany.2.1 96 = .ok (.iastore, 1) := by decide +kernel
theorem d_MO_partMany_97 : decode s_MO_partMany.2.1 97 = .ok (.aload_n 0, 1) := by decide +kernel
theorem d_MO_partMany_98 : decode s_MO_partMany.2.1 98 = .ok (.getfield 163, 3) := by decide +kernel
theorem d_MO_partMany_101 : decode s_MO_partMany.2.1 101 = .ok (.iload_n 1, 1) := by decide +kernel
theorem d_MO_partMany_102 : decode s_MO_partMany.2.1 102 = .ok (.iload_n 2, 1) := by decide +kernel
theorem d_MO_partMany_103 : decode s_MO_partMany.2.1 103 = .ok (.iastore, 1) := by decide +kernel
theorem d_MO_partMany_104 : decode s_MO_partMany.2.1 104 = .ok (.iinc 1 1, 3) := by decide +kernel
theorem d_MO_partMany_107 : decode s_MO_partMany.2.1 107 = .ok (.aload_n 0, 1) := by decide +kernel
theorem d_MO_partMany_108 : decode s_MO_partMany.2.1 108 = .ok (.getfield 160, 3) := by decide +kernel
theorem d_MO_partMany_111 : decode s_MO_partMany.2.1 111 = .ok (.iload_n 2, 1) := by decide +kernel
theorem d_MO_partMany_112 : decode s_MO_partMany.2.1 112 = .ok (.aload_n 0, 1) := by decide +kernel
theorem d_MO_partMany_113 : decode s_MO_partMany.2.1 113 = .ok (.getfield 166, 3) := by decide +kernel
theorem d_MO_partMany_116 : decode s_MO_partMany.2.1 116 = .ok (.aload_n 0, 1) := by decide +kernel
theorem d_MO_partMany_117 : decode s_MO_partMany.2.1 117 = .ok (.getfield 130, 3) := by decide +kernel
theorem d_MO_partMany_120 : decode s_MO_partMany.2.1 120 = .ok (.iload_n 2, 1) := by decide +kernel
theorem d_MO_partMany_121 : decode s_MO_partMany.2.1 121 = .ok (.iaload, 1) := by decide +kernel
theorem d_MO_partMany_122 : decode s_MO_partMany.2.1 122 = .ok (.iaload, 1) := by decide +kernel
theorem d_MO_partMany_123 : decode s_MO_partMany.2.1 123 = .ok (.iastore, 1) := by decide +kernel
theorem d_MO_partMany_124 : decode s_MO_partMany.2.1 124 = .ok (.iinc 2 1, 3) := by decide +kernel
theorem d_MO_partMany_127 : decode s_MO_partMany.2.1 127 = .ok (.goto (-65), 3) := by decide +kernel
theorem d_MO_partMany_130 : decode s_MO_partMany.2.1 130 = .ok (.iload_n 1, 1) := by decide +kernel
theorem d_MO_partMany_131 : decode s_MO_partMany.2.1 131 = .ok (.ireturn, 1) := by decide +kernel
theorem d_MO_has_0 : decode s_MO_has.2.1 0 = .ok (.iload_n 1, 1) := by decide +kernel
theorem d_MO_has_1 : decode s_MO_has.2.1 1 = .ok (.i2l, 1) := by decide +kernel
theorem d_MO_has_2 : decode s_MO_has.2.1 2 = .ok (.lconst 0, 1) := by decide +kernel
theorem d_MO_has_3 : decode s_MO_has.2.1 3 = .ok (.ldc2_w 508, 3) := by decide +kernel
theorem d_MO_has_6 : decode s_MO_has.2.1 6 = .ok (.invokestatic 210, 3) := by decide +kernel
theorem d_MO_has_9 : decode s_MO_has.2.1 9 = .ok (.ifCond .ne 5, 3) := by decide +kernel
theorem d_MO_has_12 : decode s_MO_has.2.1 12 = .ok (.iconst (-1), 1) := by decide +kernel
theorem d_MO_has_13 : decode s_MO_has.2.1 13 = .ok (.ireturn, 1) := by decide +kernel
theorem d_MO_has_14 : decode s_MO_has.2.1 14 = .ok (.aload_n 0, 1) := by decide +kernel
theorem d_MO_has_15 : decode s_MO_has.2.1 15 = .ok (.invokevirtual 505, 3) := by decide +kernel
theorem d_MO_has_18 : decode s_MO_has.2.1 18 = .ok (.ifCond .ne 5, 3) := by decide +kernel
theorem d_MO_has_21 : decode s_MO_has.2.1 21 = .ok (.iconst 0, 1) := by decide +kernel
theorem d_MO_has_22 : decode s_MO_has.2.1 22 = .ok (.ireturn, 1) := by decide +kernel
theorem d_MO_has_23 : decode s_MO_has.2.1 23 = .ok (.iload_n 1, 1) := by decide +kernel
theorem d_MO_has_24 : decode s_MO_has.2.1 24 = .ok (.tableswitch 131 0 12 #[68, 73, 73, 73, 84, 89, 94, 100, 112, 112, 112, 121, 126], 68) := by decide +kernel
theorem d_MO_has_92 : decode s_MO_has.2.1 92 = .ok (.aload_n 0, 1) := by decide +kernel
theorem d_MO_has_93 : decode s_MO_has.2.1 93 = .ok (.invokevirtual 358, 3) := by decide +kernel
theorem d_MO_has_96 : decode s_MO_has.2.1 96 = .ok (.ireturn, 1) := by decide +kernel
theorem d_MO_has_97 : decode s_MO_has.2.1 97 = .ok (.aload_n 0, 1) := by decide +kernel
theorem d_MO_has_98 : decode s_MO_has.2.1 98 = .ok (.getfield 81, 3) := by decide +kernel
theorem d_MO_has_101 : decode s_MO_has.2.1 101 = .ok (.iconst 0, 1) := by decide +kernel
theorem d_MO_has_102 : decode s_MO_has.2.1 102 = .ok (.iload_n 1, 1) := by decide +kernel
theorem d_MO_has_103 : decode s_MO_has.2.1 103 = .ok (.iadd, 1) := by decide +kernel
theorem d_MO_has_104 : decode s_MO_has.2.1 104 = .ok (.iconst 1, 1) := by decide +kernel
theorem d_MO_has_105 : decode s_MO_has.2.1 105 = .ok (.isub, 1) := by decide +kernel
theorem d_MO_has_106 : decode s_MO_has.2.1 106 = .ok (.iaload, 1) := by decide +kernel
theorem d_MO_has_107 : decode s_MO_has.2.1 107 = .ok (.ireturn, 1) := by decide +kernel
theorem d_MO_has_108 : decode s_MO_has.2.1 108 = .ok (.aload_n 0, 1) := by decide +kernel
theorem d_MO_has_109 : decode s_MO_has.2.1 109 = .ok (.invokevirtual 400, 3) := by decide +kernel
theorem d_MO_has_112 : decode s_MO_has.2.1 112 = .ok (.ireturn, 1) := by decide +kernel
theorem d_MO_has_113 : decode s_MO_has.2.1 113 = .ok (.aload_n 0, 1) := by decide +kernel
theorem d_MO_has_114 : decode s_MO_has.2.1 114 = .ok (.getfield 380, 3) := by decide +kernel
theorem d_MO_has_117 : decode s_MO_has.2.1 117 = .ok (.ireturn, 1) := by decide +kernel
theorem d_MO_has_118 : decode s_MO_has.2.1 118 = .ok (.aload_n 0, 1) := by decide +kernel
theorem d_MO_has_119 : decode s_MO_has.2.1 119 = .ok (.iconst 0, 1) := by decide +kernel
theorem d_MO_has_120 : decode s_MO_has.2.1 120 = .ok (.invokevirtual 510, 3) := by decide +kernel
theorem d_MO_has_123 : decode s_MO_has.2.1 123 = .ok (.ireturn, 1) := by decide +kernel
theorem d_MO_has_124 : decode s_MO_has.2.1 124 = .ok (.aload_n 0, 1) := by decide +kernel
theorem d_MO_has_125 : decode s_MO_has.2.1 125 = .ok (.getfield 100, 3) := by decide +kernel
theorem d_MO_has_128 : decode s_MO_has.2.1 128 = .ok (.aload_n 0, 1) := by decide +kernel
theorem d_MO_has_129 : decode s_MO_has.2.1 129 = .ok (.getfield 380, 3) := by decide +kernel
theorem d_MO_has_132 : decode s_MO_has.2.1 132 = .ok (.iconst 1, 1) := by decide +kernel
theorem d_MO_has_133 : decode s_MO_has.2.1 133 = .ok (.isub, 1) := by decide +kernel
theorem d_MO_has_134 : decode s_MO_has.2.1 134 = .ok (.iaload, 1) := by decide +kernel
theorem d_MO_has_135 : decode s_MO_has.2.1 135 = .ok (.ireturn, 1) := by decide +kernel
theorem d_MO_has_136 : decode s_MO_has.2.1 136 = .ok (.aload_n 0, 1) := by decide +kernel
theorem d_MO_has_137 : decode s_MO_has.2.1 137 = .ok (.iload_n 1, 1) := by decide +kernel
theorem d_MO_has_138 : decode s_MO_has.2.1 138 = .ok (.bipush 7, 2) := by decide +kernel
theorem d_MO_has_140 : decode s_MO_has.2.1 140 = .ok (.isub, 1) := by decide +kernel
theorem d_MO_has_141 : decode s_MO_has.2.1 141 = .ok (.invokevirtual 510, 3) := by decide +kernel
theorem d_MO_has_144 : decode s_MO_has.2.1 144 = .ok (.ireturn, 1) := by decide +kernel
theorem d_MO_has_145 : decode s_MO_has.2.1 145 = .ok (.aload_n 0, 1) := by decide +kernel
theorem d_MO_has_146 : decode s_MO_has.2.1 146 = .ok (.invokevirtual 513, 3) := by decide +kernel
theorem d_MO_has_149 : decode s_MO_has.2.1 149 = .ok (.ireturn, 1) := by decide +kernel
theorem d_MO_has_150 : decode s_MO_has.2.1 150 = .ok (.aload_n 0, 1) := by decide +kernel
theorem d_MO_has_151 : decode s_MO_has.2.1 151 = .ok (.getfield 328, 3) := by decide +kernel
theorem d_MO_has_154 : decode s_MO_has.2.1 154 = .ok (.ireturn, 1) := by decide +kernel
theorem d_MO_has_155 : decode s_MO_has.2.1 155 = .ok (.aload_n 0, 1) := by decide +kernel
theorem d_MO_has_156 : decode s_MO_has.2.1 156 = .ok (.getfield 331, 3) := by decide +kernel
theorem d_MO_has_159 : decode s_MO_has.2.1 159 = .ok (.ireturn, 1) := by decide +kernel
theorem d_MO_lettersOf_0 : decode s_MO_lettersOf.2.1 0 = .ok (.iconst 0, 1) := by decide +kernel
theorem d_MO_lettersOf_1 : decode s_MO_lettersOf.2.1 1 = .ok (.istore_n 1, 1) := by decide +kernel
theorem d_MO_lettersOf_2 : decode s_MO_lettersOf.2.1 2 = .ok (.iload_n 0, 1) := by decide +kernel
theorem d_MO_lettersOf_3 : decode s_MO_lettersOf.2.1 3 = .ok (.istore_n 2, 1) := by decide +kernel
theorem d_MO_lettersOf_4 : decode s_MO_lettersOf.2.1 4 = .ok (.iload_n 2, 1) := by decide +kernel
theorem d_MO_lettersOf_5 : decode s_MO_lettersOf.2.1 5 = .ok (.ifCond .le 14, 3) := by decide +kernel
theorem d_MO_lettersOf_8 : decode s_MO_lettersOf.2.1 8 = .ok (.iinc 1 1, 3) := by decide +kernel
theorem d_MO_lettersOf_11 : decode s_MO_lettersOf.2.1 11 = .ok (.iload_n 2, 1) := by decide +kernel
theorem d_MO_lettersOf_12 : decode s_MO_lettersOf.2.1 12 = .ok (.bipush 27, 2) := by decide +kernel
theorem d_MO_lettersOf_14 : decode s_MO_lettersOf.2.1 14 = .ok (.idiv, 1) := by decide +kernel
theorem d_MO_lettersOf_15 : decode s_MO_lettersOf.2.1 15 = .ok (.istore_n 2, 1) := by decide +kernel
theorem d_MO_lettersOf_16 : decode s_MO_lettersOf.2.1 16 = .ok (.goto (-12), 3) := by decide +kernel
theorem d_MO_lettersOf_19 : decode s_MO_lettersOf.2.1 19 = .ok (.iload_n 1, 1) := by decide +kernel
theorem d_MO_lettersOf_20 : decode s_MO_lettersOf.2.1 20 = .ok (.ireturn, 1) := by decide +kernel
theorem d_MO_letter_0 : decode s_MO_letter.2.1 0 = .ok (.aload_n 0, 1) := by decide +kernel
theorem d_MO_letter_1 : decode s_MO_letter.2.1 1 = .ok (.getfield 321, 3) := by decide +kernel
theorem d_MO_letter_4 : decode s_MO_letter.2.1 4 = .ok (.ifCond .eq 47, 3) := by decide +kernel
theorem d_MO_letter_7 : decode s_MO_letter.2.1 7 = .ok (.iload_n 1, 1) := by decide +kernel
theorem d_MO_letter_8 : decode s_MO_letter.2.1 8 = .ok (.i2l, 1) := by decide +kernel
theorem d_MO_letter_9 : decode s_MO_letter.2.1 9 = .ok (.lconst 0, 1) := by decide +kernel
theorem d_MO_letter_10 : decode s_MO_letter.2.1 10 = .ok (.ldc2_w 516, 3) := by decide +kernel
theorem d_MO_letter_13 : decode s_MO_letter.2.1 13 = .ok (.invokestatic 210, 3) := by decide +kernel
theorem d_MO_letter_16 : decode s_MO_letter.2.1 16 = .ok (.ifCond .eq 35, 3) := by decide +kernel
theorem d_MO_letter_19 : decode s_MO_letter.2.1 19 = .ok (.iload_n 2, 1) := by decide +kernel
theorem d_MO_letter_20 : decode s_MO_letter.2.1 20 = .ok (.i2l, 1) := by decide +kernel
theorem d_MO_letter_21 : decode s_MO_letter.2.1 21 = .ok (.lconst 0, 1) := by decide +kernel
theorem d_MO_letter_22 : decode s_MO_letter.2.1 22 = .ok (.aload_n 0, 1) := by decide +kernel
theorem d_MO_letter_23 : decode s_MO_letter.2.1 23 = .ok (.getfield 81, 3) := by decide +kernel
theorem d_MO_letter_26 : decode s_MO_letter.2.1 26 = .ok (.iconst 0, 1) := by decide +kernel
theorem d_MO_letter_27 : decode s_MO_letter.2.1 27 = .ok (.iload_n 1, 1) := by decide +kernel
theorem d_MO_letter_28 : decode s_MO_letter.2.1 28 = .ok (.iadd, 1) := by decide +kernel
theorem d_MO_letter_29 : decode s_MO_letter.2.1 29 = .ok (.iaload, 1) := by decide +kernel
theorem d_MO_letter_30 : decode s_MO_letter.2.1 30 = .ok (.iconst 1, 1) := by decide +kernel
theorem d_MO_letter_31 : decode s_MO_letter.2.1 31 = .ok (.isub, 1) := by decide +kernel
theorem d_MO_letter_32 : decode s_MO_letter.2.1 32 = .ok (.i2l, 1) := by decide +kernel
theorem d_MO_letter_33 : decode s_MO_letter.2.1 33 = .ok (.invokestatic 210, 3) := by decide +kernel
theorem d_MO_letter_36 : decode s_MO_letter.2.1 36 = .ok (.ifCond .eq 15, 3) := by decide +kernel
theorem d_MO_letter_39 : decode s_MO_letter.2.1 39 = .ok (.iload_n 3, 1) := by decide +kernel
theorem d_MO_letter_40 : decode s_MO_letter.2.1 40 = .ok (.i2l, 1) := by decide +kernel
theorem d_MO_letter_41 : decode s_MO_letter.2.1 41 = .ok (.lconst 0, 1) := by decide +kernel
theorem d_MO_letter_42 : decode s_MO_letter.2.1 42 = .ok (.ldc2_w 208, 3) := by decide +kernel
theorem d_MO_letter_45 : decode s_MO_letter.2.1 45 = .ok (.invokestatic 210, 3) := by decide +kernel
theorem d_MO_letter_48 : decode s_MO_letter.2.1 48 = .ok (.ifCond .ne 5, 3) := by decide +kernel
theorem d_MO_letter_51 : decode s_MO_letter.2.1 51 = .ok (.iconst (-1), 1) := by decide +kernel
theorem d_MO_letter_52 : decode s_MO_letter.2.1 52 = .ok (.ireturn, 1) := by decide +kernel
theorem d_MO_letter_53 : decode s_MO_letter.2.1 53 = .ok (.aload_n 0, 1) := by decide +kernel
theorem d_MO_letter_54 : decode s_MO_letter.2.1 54 = .ok (.getfield 81, 3) := by decide +kernel
theorem d_MO_letter_57 : decode s_MO_letter.2.1 57 = .ok (.iload_n 1, 1) := by decide +kernel
theorem d_MO_letter_58 : decode s_MO_letter.2.1 58 = .ok (.iload_n 2, 1) := by decide +kernel
theorem d_MO_letter_59 : decode s_MO_letter.2.1 59 = .ok (.invokestatic 263, 3) := by decide +kernel
theorem d_MO_letter_62 : decode s_MO_letter.2.1 62 = .ok (.iaload, 1) := by decide +kernel
theorem d_MO_letter_63 : decode s_MO_letter.2.1 63 = .ok (.istore 4, 2) := by decide +kernel
theorem d_MO_letter_65 : decode s_MO_letter.2.1 65 = .ok (.iload 4, 2) := by decide +kernel
theorem d_MO_letter_67 : decode s_MO_letter.2.1 67 = .ok (.invokestatic 518, 3) := by decide +kernel
theorem d_MO_letter_70 : decode s_MO_letter.2.1 70 = .ok (.istore 5, 2) := by decide +kernel
theorem d_MO_letter_72 : decode s_MO_letter.2.1 72 = .ok (.iload 5, 2) := by decide +kernel
theorem d_MO_letter_74 : decode s_MO_letter.2.1 74 = .ok (.iconst 1, 1) := by decide +kernel
theorem d_MO_letter_75 : decode s_MO_letter.2.1 75 = .ok (.isub, 1) := by decide +kernel
theorem d_MO_letter_76 : decode s_MO_letter.2.1 76 = .ok (.istore 6, 2) := by decide +kernel
theorem d_MO_letter_78 : decode s_MO_letter.2.1 78 = .ok (.iload 6, 2) := by decide +kernel
theorem d_MO_letter_80 : decode s_MO_letter.2.1 80 = .ok (.iload_n 3, 1) := by decide +kernel
theorem d_MO_letter_81 : decode s_MO_letter.2.1 81 = .ok (.if_icmp .le 16, 3) := by decide +kernel
theorem d_MO_letter_84 : decode s_MO_letter.2.1 84 = .ok (.iload 4, 2) := by decide +kernel
theorem d_MO_letter_86 : decode s_MO_letter.2.1 86 = .ok (.bipush 27, 2) := by decide +kernel
theorem d_MO_letter_88 : decode s_MO_letter.2.1 88 = .ok (.idiv, 1) := by decide +kernel
theorem d_MO_letter_89 : decode s_MO_letter.2.1 89 = .ok (.istore 4, 2) := by decide +kernel
theorem d_MO_letter_91 : decode s_MO_letter.2.1 91 = .ok (.iinc 6 (-1), 3) := by decide +kernel
theorem d_MO_letter_94 : decode s_MO_letter.2.1 94 = .ok (.goto (-16), 3) := by decide +kernel
theorem d_MO_letter_97 : decode s_MO_letter.2.1 97 = .ok (.iload_n 3, 1) := by decide +kernel
theorem d_MO_letter_98 : decode s_MO_letter.2.1 98 = .ok (.iload 5, 2) := by decide +kernel
theorem d_MO_letter_100 : decode s_MO_letter.2.1 100 = .ok (.if_icmp .ge 11, 3) := by decide +kernel
theorem d_MO_letter_103 : decode s_MO_letter.2.1 103 = .ok (.iload 4, 2) := by decide +kernel
theorem d_MO_letter_105 : decode s_MO_letter.2.1 105 = .ok (.bipush 27, 2) := by decide +kernel
theorem d_MO_letter_107 : decode s_MO_letter.2.1 107 = .ok (.irem, 1) := by decide +kernel
theorem d_MO_letter_108 : decode s_MO_letter.2.1 108 = .ok (.goto 4, 3) := by decide +kernel
theorem d_MO_letter_111 : decode s_MO_letter.2.1 111 = .ok (.iconst 0, 1) := by decide +kernel
theorem d_MO_letter_112 : decode s_MO_letter.2.1 112 = .ok (.ireturn, 1) := by decide +kernel
theorem d_MO_rule_0 : decode s_MO_rule.2.1 0 = .ok (.aload_n 0, 1) := by decide +kernel
theorem d_MO_rule_1 : decode s_MO_rule.2.1 1 = .ok (.getfield 321, 3) := by decide +kernel
theorem d_MO_rule_4 : decode s_MO_rule.2.1 4 = .ok (.ifCond .eq 40, 3) := by decide +kernel
theorem d_MO_rule_7 : decode s_MO_rule.2.1 7 = .ok (.iload_n 1, 1) := by decide +kernel
theorem d_MO_rule_8 : decode s_MO_rule.2.1 8 = .ok (.i2l, 1) := by decide +kernel
theorem d_MO_rule_9 : decode s_MO_rule.2.1 9 = .ok (.lconst 0, 1) := by decide +kernel
theorem d_MO_rule_10 : decode s_MO_rule.2.1 10 = .ok (.aload_n 0, 1) := by decide +kernel
theorem d_MO_rule_11 : decode s_MO_rule.2.1 11 = .ok (.invokevirtual 400, 3) := by decide +kernel
theorem d_MO_rule_14 : decode s_MO_rule.2.1 14 = .ok (.iconst 1, 1) := by decide +kernel
theorem d_MO_rule_15 : decode s_MO_rule.2.1 15 = .ok (.isub, 1) := by decide +kernel
theorem d_MO_rule_16 : decode s_MO_rule.2.1 16 = .ok (.i2l, 1) := by decide +kernel
theorem d_MO_rule_17 : decode s_MO_rule.2.1 17 = .ok (.invokestatic 210, 3) := by decide +kernel
theorem d_MO_rule_20 : decode s_MO_rule.2.1 20 = .ok (.ifCond .eq 24, 3) := by decide +kernel
theorem d_MO_rule_23 : decode s_MO_rule.2.1 23 = .ok (.iload_n 2, 1) := by decide +kernel
theorem d_MO_rule_24 : decode s_MO_rule.2.1 24 = .ok (.i2l, 1) := by decide +kernel
theorem d_MO_rule_25 : decode s_MO_rule.2.1 25 = .ok (.lconst 0, 1) := by decide +kernel
theorem d_MO_rule_26 : decode s_MO_rule.2.1 26 = .ok (.ldc2_w 521, 3) := by decide +kernel
theorem d_MO_rule_29 : decode s_MO_rule.2.1 29 = .ok (.invokestatic 210, 3) := by decide +kernel
theorem d_MO_rule_32 : decode s_MO_rule.2.1 32 = .ok (.ifCond .eq 12, 3) := by decide +kernel
theorem d_MO_rule_35 : decode s_MO_rule.2.1 35 = .ok (.aload_n 0, 1) := by decide +kernel
theorem d_MO_rule_36 : decode s_MO_rule.2.1 36 = .ok (.iload_n 1, 1) := by decide +kernel
theorem d_MO_rule_37 : decode s_MO_rule.2.1 37 = .ok (.iload_n 2, 1) := by decide +kernel
theorem d_MO_rule_38 : decode s_MO_rule.2.1 38 = .ok (.invokevirtual 349, 3) := by decide +kernel
theorem d_MO_rule_41 : decode s_MO_rule.2.1 41 = .ok (.goto 4, 3) := by decide +kernel
theorem d_MO_rule_44 : decode s_MO_rule.2.1 44 = .ok (.iconst (-1), 1) := by decide +kernel
theorem d_MO_rule_45 : decode s_MO_rule.2.1 45 = .ok (.ireturn, 1) := by decide +kernel
theorem d_MO_isEnd_0 : decode s_MO_isEnd.2.1 0 = .ok (.iconst 0, 1) := by decide +kernel
theorem d_MO_isEnd_1 : decode s_MO_isEnd.2.1 1 = .ok (.istore_n 2, 1) := by decide +kernel
theorem d_MO_isEnd_2 : decode s_MO_isEnd.2.1 2 = .ok (.iload_n 2, 1) := by decide +kernel
theorem d_MO_isEnd_3 : decode s_MO_isEnd.2.1 3 = .ok (.bipush 64, 2) := by decide +kernel
theorem d_MO_isEnd_5 : decode s_MO_isEnd.2.1 5 = .ok (.aload_n 0, 1) := by decide +kernel
theorem d_MO_isEnd_6 : decode s_MO_isEnd.2.1 6 = .ok (.getfield 380, 3) := by decide +kernel
theorem d_MO_isEnd_9 : decode s_MO_isEnd.2.1 9 = .ok (.imul, 1) := by decide +kernel
theorem d_MO_isEnd_10 : decode s_MO_isEnd.2.1 10 = .ok (.if_icmp .ge 49, 3) := by decide +kernel
theorem d_MO_isEnd_13 : decode s_MO_isEnd.2.1 13 = .ok (.aload_n 0, 1) := by decide +kernel
theorem d_MO_isEnd_14 : decode s_MO_isEnd.2.1 14 = .ok (.getfield 160, 3) := by decide +kernel
theorem d_MO_isEnd_17 : decode s_MO_isEnd.2.1 17 = .ok (.iload_n 2, 1) := by decide +kernel
theorem d_MO_isEnd_18 : decode s_MO_isEnd.2.1 18 = .ok (.bipush 64, 2) := by decide +kernel
theorem d_MO_isEnd_20 : decode s_MO_isEnd.2.1 20 = .ok (.idiv, 1) := by decide +kernel
theorem d_MO_isEnd_21 : decode s_MO_isEnd.2.1 21 = .ok (.iaload, 1) := by decide +kernel
theorem d_MO_isEnd_22 : decode s_MO_isEnd.2.1 22 = .ok (.iload_n 1, 1) := by decide +kernel
theorem d_MO_isEnd_23 : decode s_MO_isEnd.2.1 23 = .ok (.if_icmp .ne 30, 3) := by decide +kernel
theorem d_MO_isEnd_26 : decode s_MO_isEnd.2.1 26 = .ok (.aload_n 0, 1) := by decide +kernel
theorem d_MO_isEnd_27 : decode s_MO_isEnd.2.1 27 = .ok (.getfield 107, 3) := by decide +kernel
theorem d_MO_isEnd_30 : decode s_MO_isEnd.2.1 30 = .ok (.iload_n 2, 1) := by decide +kernel
theorem d_MO_isEnd_31 : decode s_MO_isEnd.2.1 31 = .ok (.iaload, 1) := by decide +kernel
theorem d_MO_isEnd_32 : decode s_MO_isEnd.2.1 32 = .ok (.iconst (-1), 1) := by decide +kernel
theorem d_MO_isEnd_33 : decode s_MO_isEnd.2.1 33 = .ok (.if_icmp .eq 20, 3) := by decide +kernel
theorem d_MO_isEnd_36 : decode s_MO_isEnd.2.1 36 = .ok (.aload_n 0, 1) := by decide +kernel
theorem d_MO_isEnd_37 : decode s_MO_isEnd.2.1 37 = .ok (.getfield 160, 3) := by decide +kernel
theorem d_MO_isEnd_40 : decode s_MO_isEnd.2.1 40 = .ok (.aload_n 0, 1) := by decide +kernel
theorem d_MO_isEnd_41 : decode s_MO_isEnd.2.1 41 = .ok (.getfield 107, 3) := by decide +kernel
theorem d_MO_isEnd_44 : decode s_MO_isEnd.2.1 44 = .ok (.iload_n 2, 1) := by decide +kernel
theorem d_MO_isEnd_45 : decode s_MO_isEnd.2.1 45 = .ok (.iaload, 1) := by decide +kernel
theorem d_MO_isEnd_46 : decode s_MO_isEnd.2.1 46 = .ok (.iaload, 1) := by decide +kernel
theorem d_MO_isEnd_47 : decode s_MO_isEnd.2.1 47 = .ok (.iload_n 1, 1) := by decide +kernel
theorem d_MO_isEnd_48 : decode s_MO_isEnd.2.1 48 = .ok (.if_icmp .eq 5, 3) := by decide +kernel
theorem d_MO_isEnd_51 : decode s_MO_isEnd.2.1 51 = .ok (.iconst 0, 1) := by decide +kernel
theorem d_MO_isEnd_52 : decode s_MO_isEnd.2.1 52 = .ok (.ireturn, 1) := by decide +kernel
theorem d_MO_isEnd_53 : decode s_MO_isEnd.2.1 53 = .ok (.iinc 2 1, 3) := by decide +kernel
theorem d_MO_isEnd_56 : decode s_MO_isEnd.2.1 56 = .ok (.goto (-54), 3) := by decide +kernel
theorem d_MO_isEnd_59 : decode s_MO_isEnd.2.1 59 = .ok (.iconst 1, 1) := by decide +kernel
theorem d_MO_isEnd_60 : decode s_MO_isEnd.2.1 60 = .ok (.ireturn, 1) := by decide +kernel
theorem d_MO_part_0 : decode s_MO_part.2.1 0 = .ok (.aload_n 0, 1) := by decide +kernel
theorem d_MO_part_1 : decode s_MO_part.2.1 1 = .ok (.invokevirtual 505, 3) := by decide +kernel
theorem d_MO_part_4 : decode s_MO_part.2.1 4 = .ok (.ifCond .eq 19, 3) := by decide +kernel
theorem d_MO_part_7 : decode s_MO_part.2.1 7 = .ok (.iload_n 1, 1) := by decide +kernel
theorem d_MO_part_8 : decode s_MO_part.2.1 8 = .ok (.i2l, 1) := by decide +kernel
theorem d_MO_part_9 : decode s_MO_part.2.1 9 = .ok (.lconst 0, 1) := by decide +kernel
theorem d_MO_part_10 : decode s_MO_part.2.1 10 = .ok (.aload_n 0, 1) := by decide +kernel
theorem d_MO_part_11 : decode s_MO_part.2.1 11 = .ok (.invokevirtual 513, 3) := by decide +kernel
theorem d_MO_part_14 : decode s_MO_part.2.1 14 = .ok (.iconst 1, 1) := by decide +kernel
theorem d_MO_part_15 : decode s_MO_part.2.1 15 = .ok (.isub, 1) := by decide +kernel
theorem d_MO_part_16 : decode s_MO_part.2.1 16 = .ok (.i2l, 1) := by decide +kernel
theorem d_MO_part_17 : decode s_MO_part.2.1 17 = .ok (.invokestatic 210, 3) := by decide +kernel
theorem d_MO_part_20 : decode s_MO_part.2.1 20 = .ok (.ifCond .ne 5, 3) := by decide +kernel
theorem d_MO_part_23 : decode s_MO_part.2.1 23 = .ok (.iconst (-1), 1) := by decide +kernel
theorem d_MO_part_24 : decode s_MO_part.2.1 24 = .ok (.ireturn, 1) := by decide +kernel
theorem d_MO_part_25 : decode s_MO_part.2.1 25 = .ok (.iconst 0, 1) := by decide +kernel
theorem d_MO_part_26 : decode s_MO_part.2.1 26 = .ok (.istore_n 3, 1) := by decide +kernel
theorem d_MO_part_27 : decode s_MO_part.2.1 27 = .ok (.iconst 0, 1) := by decide +kernel
theorem d_MO_part_28 : decode s_MO_part.2.1 28 = .ok (.istore 4, 2) := by decide +kernel
theorem d_MO_part_30 : decode s_MO_part.2.1 30 = .ok (.iload 4, 2) := by decide +kernel
theorem d_MO_part_32 : decode s_MO_part.2.1 32 = .ok (.aload_n 0, 1) := by decide +kernel
theorem d_MO_part_33 : decode s_MO_part.2.1 33 = .ok (.getfield 380, 3) := by decide +kernel
theorem d_MO_part_36 : decode s_MO_part.2.1 36 = .ok (.if_icmp .ge 23, 3) := by decide +kernel
theorem d_MO_part_39 : decode s_MO_part.2.1 39 = .ok (.aload_n 0, 1) := by decide +kernel
theorem d_MO_part_40 : decode s_MO_part.2.1 40 = .ok (.getfield 160, 3) := by decide +kernel
theorem d_MO_part_43 : decode s_MO_part.2.1 43 = .ok (.iload 4, 2) := by decide +kernel
theorem d_MO_part_45 : decode s_MO_part.2.1 45 = .ok (.iaload, 1) := by decide +kernel
theorem d_MO_part_46 : decode s_MO_part.2.1 46 = .ok (.iload_n 1, 1) := by decide +kernel
theorem d_MO_part_47 : decode s_MO_part.2.1 47 = .ok (.if_icmp .ne 6, 3) := by decide +kernel
theorem d_MO_part_50 : decode s_MO_part.2.1 50 = .ok (.iinc 3 1, 3) := by decide +kernel
theorem d_MO_part_53 : decode s_MO_part.2.1 53 = .ok (.iinc 4 1, 3) := by decide +kernel
theorem d_MO_part_56 : decode s_MO_part.2.1 56 = .ok (.goto (-26), 3) := by decide +kernel
theorem d_MO_part_59 : decode s_MO_part.2.1 59 = .ok (.iload_n 2, 1) := by decide +kernel
theorem d_MO_part_60 : decode s_MO_part.2.1 60 = .ok (.tableswitch 51 0 2 #[28, 30, 37], 28) := by decide +kernel
theorem d_MO_part_88 : decode s_MO_part.2.1 88 = .ok (.iload_n 3, 1) := by decide +kernel
theorem d_MO_part_89 : decode s_MO_part.2.1 89 = .ok (.ireturn, 1) := by decide +kernel
theorem d_MO_part_90 : decode s_MO_part.2.1 90 = .ok (.aload_n 0, 1) := by decide +kernel
theorem d_MO_part_91 : decode s_MO_part.2.1 91 = .ok (.getfield 163, 3) := by decide +kernel
theorem d_MO_part_94 : decode s_MO_part.2.1 94 = .ok (.iload_n 1, 1) := by decide +kernel
theorem d_MO_part_95 : decode s_MO_part.2.1 95 = .ok (.iaload, 1) := by decide +kernel
theorem d_MO_part_96 : decode s_MO_part.2.1 96 = .ok (.ireturn, 1) := by decide +kernel
theorem d_MO_part_97 : decode s_MO_part.2.1 97 = .ok (.aload_n 0, 1) := by decide +kernel
theorem d_MO_part_98 : decode s_MO_part.2.1 98 = .ok (.iload_n 1, 1) := by decide +kernel
theorem d_MO_part_99 : decode s_MO_part.2.1 99 = .ok (.invokevirtual 523, 3) := by decide +kernel
theorem d_MO_part_102 : decode s_MO_part.2.1 102 = .ok (.ifCond .eq 7, 3) := by decide +kernel
theorem d_MO_part_105 : decode s_MO_part.2.1 105 = .ok (.iconst 1, 1) := by decide +kernel
theorem d_MO_part_106 : decode s_MO_part.2.1 106 = .ok (.goto 4, 3) := by decide +kernel
theorem d_MO_part_109 : decode s_MO_part.2.1 109 = .ok (.iconst 0, 1) := by decide +kernel
theorem d_MO_part_110 : decode s_MO_part.2.1 110 = .ok (.ireturn, 1) := by decide +kernel
theorem d_MO_part_111 : decode s_MO_part.2.1 111 = .ok (.iconst (-1), 1) := by decide +kernel
theorem d_MO_part_112 : decode s_MO_part.2.1 112 = .ok (.ireturn, 1) := by decide +kernel
theorem d_MO_isWorld_0 : decode s_MO_isWorld.2.1 0 = .ok (.aload_n 0, 1) := by decide +kernel
theorem d_MO_isWorld_1 : decode s_MO_isWorld.2.1 1 = .ok (.invokevirtual 505, 3) := by decide +kernel
theorem d_MO_isWorld_4 : decode s_MO_isWorld.2.1 4 = .ok (.ifCond .eq 23, 3) := by decide +kernel
theorem d_MO_isWorld_7 : decode s_MO_isWorld.2.1 7 = .ok (.iload_n 1, 1) := by decide +kernel
theorem d_MO_isWorld_8 : decode s_MO_isWorld.2.1 8 = .ok (.i2l, 1) := by decide +kernel
theorem d_MO_isWorld_9 : decode s_MO_isWorld.2.1 9 = .ok (.lconst 0, 1) := by decide +kernel
theorem d_MO_isWorld_10 : decode s_MO_isWorld.2.1 10 = .ok (.aload_n 0, 1) := by decide +kernel
theorem d_MO_isWorld_11 : decode s_MO_isWorld.2.1 11 = .ok (.getfield 380, 3) := by decide +kernel
theorem d_MO_isWorld_14 : decode s_MO_isWorld.2.1 14 = .ok (.iconst 1, 1) := by decide +kernel
theorem d_MO_isWorld_15 : decode s_MO_isWorld.2.1 15 = .ok (.isub, 1) := by decide +kernel
theorem d_MO_isWorld_16 : decode s_MO_isWorld.2.1 16 = .ok (.i2l, 1) := by decide +kernel
theorem d_MO_isWorld_17 : decode s_MO_isWorld.2.1 17 = .ok (.invokestatic 210, 3) := by decide +kernel
theorem d_MO_isWorld_20 : decode s_MO_isWorld.2.1 20 = .ok (.ifCond .eq 7, 3) := by decide +kernel
theorem d_MO_isWorld_23 : decode s_MO_isWorld.2.1 23 = .ok (.iconst 1, 1) := by decide +kernel
theorem d_MO_isWorld_24 : decode s_MO_isWorld.2.1 24 = .ok (.goto 4, 3) := by decide +kernel
theorem d_MO_isWorld_27 : decode s_MO_isWorld.2.1 27 = .ok (.iconst 0, 1) := by decide +kernel
theorem d_MO_isWorld_28 : decode s_MO_isWorld.2.1 28 = .ok (.ireturn, 1) := by decide +kernel
theorem d_MO_world_0 : decode s_MO_world.2.1 0 = .ok (.aload_n 0, 1) := by decide +kernel
theorem d_MO_world_1 : decode s_MO_world.2.1 1 = .ok (.iload_n 1, 1) := by decide +kernel
theorem d_MO_world_2 : decode s_MO_world.2.1 2 = .ok (.invokevirtual 526, 3) := by decide +kernel
theorem d_MO_world_5 : decode s_MO_world.2.1 5 = .ok (.ifCond .ne 5, 3) := by decide +kernel
theorem d_MO_world_8 : decode s_MO_world.2.1 8 = .ok (.iconst (-1), 1) := by decide +kernel
theorem d_MO_world_9 : decode s_MO_world.2.1 9 = .ok (.ireturn, 1) := by decide +kernel
theorem d_MO_world_10 : decode s_MO_world.2.1 10 = .ok (.iload_n 2, 1) := by decide +kernel
theorem d_MO_world_11 : decode s_MO_world.2.1 11 = .ok (.tableswitch 118 0 6 #[41, 48, 54, 67, 86, 100, 106], 41) := by decide +kernel
theorem d_MO_world_52 : decode s_MO_world.2.1 52 = .ok (.aload_n 0, 1) := by decide +kernel
theorem d_MO_world_53 : decode s_MO_world.2.1 53 = .ok (.getfield 100, 3) := by decide +kernel
theorem d_MO_world_56 : decode s_MO_world.2.1 56 = .ok (.iload_n 1, 1) := by decide +kernel
theorem d_MO_world_57 : decode s_MO_world.2.1 57 = .ok (.iaload, 1) := by decide +kernel
theorem d_MO_world_58 : decode s_MO_world.2.1 58 = .ok (.ireturn, 1) := by decide +kernel
theorem d_MO_world_59 : decode s_MO_world.2.1 59 = .ok (.aload_n 0, 1) := by decide +kernel
theorem d_MO_world_60 : decode s_MO_world.2.1 60 = .ok (.iload_n 1, 1) := by decide +kernel
theorem d_MO_world_61 : decode s_MO_world.2.1 61 = .ok (.invokevirtual 428, 3) := by decide +kernel
theorem d_MO_world_64 : decode s_MO_world.2.1 64 = .ok (.ireturn, 1) := by decide +kernel
theorem d_MO_world_65 : decode s_MO_world.2.1 65 = .ok (.aload_n 0, 1) := by decide +kernel
theorem d_MO_world_66 : decode s_MO_world.2.1 66 = .ok (.getfield 96, 3) := by decide +kernel
theorem d_MO_world_69 : decode s_MO_world.2.1 69 = .ok (.iload_n 1, 1) := by decide +kernel
theorem d_MO_world_70 : decode s_MO_world.2.1 70 = .ok (.laload, 1) := by decide +kernel
theorem d_MO_world_71 : decode s_MO_world.2.1 71 = .ok (.bipush 48, 2) := by decide +kernel
theorem d_MO_world_73 : decode s_MO_world.2.1 73 = .ok (.lshr, 1) := by decide +kernel
theorem d_MO_world_74 : decode s_MO_world.2.1 74 = .ok (.l2i, 1) := by decide +kernel
theorem d_MO_world_75 : decode s_MO_world.2.1 75 = .ok (.iconst 1, 1) := by decide +kernel
theorem d_MO_world_76 : decode s_MO_world.2.1 76 = .ok (.isub, 1) := by decide +kernel
theorem d_MO_world_77 : decode s_MO_world.2.1 77 = .ok (.ireturn, 1) := by decide +kernel
theorem d_MO_world_78 : decode s_MO_world.2.1 78 = .ok (.aload_n 0, 1) := by decide +kernel
theorem d_MO_world_79 : decode s_MO_world.2.1 79 = .ok (.aload_n 0, 1) := by decide +kernel
theorem d_MO_world_80 : decode s_MO_world.2.1 80 = .ok (.getfield 96, 3) := by decide +kernel
theorem d_MO_world_83 : decode s_MO_world.2.1 83 = .ok (.iload_n 1, 1) := by decide +kernel
theorem d_MO_world_84 : decode s_MO_world.2.1 84 = .ok (.laload, 1) := by decide +kernel
theorem d_MO_world_85 : decode s_MO_world.2.1 85 = .ok (.invokevirtual 434, 3) := by decide +kernel
theorem d_MO_world_88 : decode s_MO_world.2.1 88 = .ok (.ifCond .eq 7, 3) := by decide +kernel
theorem d_MO_world_91 : decode s_MO_world.2.1 91 = .ok (.iconst 1, 1) := by decide +kernel
theorem d_MO_world_92 : decode s_MO_world.2.1 92 = .ok (.goto 4, 3) := by decide +kernel
theorem d_MO_world_95 : decode s_MO_world.2.1 95 = .ok (.iconst 0, 1) := by decide +kernel
theorem d_MO_world_96 : decode s_MO_world.2.1 96 = .ok (.ireturn, 1) := by decide +kernel
theorem d_MO_world_97 : decode s_MO_world.2.1 97 = .ok (.aload_n 0, 1) := by decide +kernel
theorem d_MO_world_98 : decode s_MO_world.2.1 98 = .ok (.iload_n 1, 1) := by decide +kernel
theorem d_MO_world_99 : decode s_MO_world.2.1 99 = .ok (.invokevirtual 431, 3) := by decide +kernel
theorem d_MO_world_102 : decode s_MO_world.2.1 102 = .ok (.ifCond .ne 7, 3) := by decide +kernel
theorem d_MO_world_105 : decode s_MO_world.2.1 105 = .ok (.iconst 1, 1) := by decide +kernel
theorem d_MO_world_106 : decode s_MO_world.2.1 106 = .ok (.goto 4, 3) := by decide +kernel
theorem d_MO_world_109 : decode s_MO_world.2.1 109 = .ok (.iconst 0, 1) := by decide +kernel
theorem d_MO_world_110 : decode s_MO_world.2.1 110 = .ok (.ireturn, 1) := by decide +kernel
theorem d_MO_world_111 : decode s_MO_world.2.1 111 = .ok (.aload_n 0, 1) := by decide +kernel
theorem d_MO_world_112 : decode s_MO_world.2.1 112 = .ok (.iload_n 1, 1) := by decide +kernel
theorem d_MO_world_113 : decode s_MO_world.2.1 113 = .ok (.invokevirtual 431, 3) := by decide +kernel
theorem d_MO_world_116 : decode s_MO_world.2.1 116 = .ok (.ireturn, 1) := by decide +kernel
theorem d_MO_world_117 : decode s_MO_world.2.1 117 = .ok (.aload_n 0, 1) := by decide +kernel
theorem d_MO_world_118 : decode s_MO_world.2.1 118 = .ok (.invokevirtual 513, 3) := by decide +kernel
theorem d_MO_world_121 : decode s_MO_world.2.1 121 = .ok (.pop, 1) := by decide +kernel
theorem d_MO_world_122 : decode s_MO_world.2.1 122 = .ok (.aload_n 0, 1) := by decide +kernel
theorem d_MO_world_123 : decode s_MO_world.2.1 123 = .ok (.getfield 160, 3) := by decide +kernel
theorem d_MO_world_126 : decode s_MO_world.2.1 126 = .ok (.iload_n 1, 1) := by decide +kernel
theorem d_MO_world_127 : decode s_MO_world.2.1 127 = .ok (.iaload, 1) := by decide +kernel
theorem d_MO_world_128 : decode s_MO_world.2.1 128 = .ok (.ireturn, 1) := by decide +kernel
theorem d_MO_world_129 : decode s_MO_world.2.1 129 = .ok (.iconst (-1), 1) := by decide +kernel
theorem d_MO_world_130 : decode s_MO_world.2.1 130 = .ok (.ireturn, 1) := by decide +kernel
theorem d_MO_lookMany_0 : decode s_MO_lookMany.2.1 0 = .ok (.iconst 4, 1) := by decide +kernel
theorem d_MO_lookMany_1 : decode s_MO_lookMany.2.1 1 = .ok (.aload_n 0, 1) := by decide +kernel
theorem d_MO_lookMany_2 : decode s_MO_lookMany.2.1 2 = .ok (.getfield 380, 3) := by decide +kernel
theorem d_MO_lookMany_5 : decode s_MO_lookMany.2.1 5 = .ok (.imul, 1) := by decide +kernel
theorem d_MO_lookMany_6 : decode s_MO_lookMany.2.1 6 = .ok (.ireturn, 1) := by decide +kernel
theorem d_MO_firstLike_0 : decode s_MO_firstLike.2.1 0 = .ok (.iconst 0, 1) := by decide +kernel
theorem d_MO_firstLike_1 : decode s_MO_firstLike.2.1 1 = .ok (.istore_n 2, 1) := by decide +kernel
theorem d_MO_firstLike_2 : decode s_MO_firstLike.2.1 2 = .ok (.aload_n 0, 1) := by decide +kernel
theorem d_MO_firstLike_3 : decode s_MO_firstLike.2.1 3 = .ok (.iload_n 2, 1) := by decide +kernel
theorem d_MO_firstLike_4 : decode s_MO_firstLike.2.1 4 = .ok (.iaload, 1) := by decide +kernel
theorem d_MO_firstLike_5 : decode s_MO_firstLike.2.1 5 = .ok (.iload_n 1, 1) := by decide +kernel
theorem d_MO_firstLike_6 : decode s_MO_firstLike.2.1 6 = .ok (.if_icmp .eq 9, 3) := by decide +kernel
theorem d_MO_firstLike_9 : decode s_MO_firstLike.2.1 9 = .ok (.iinc 2 1, 3) := by decide +kernel
theorem d_MO_firstLike_12 : decode s_MO_firstLike.2.1 12 = .ok (.goto (-10), 3) := by decide +kernel
theorem d_MO_firstLike_15 : decode s_MO_firstLike.2.1 15 = .ok (.iload_n 2, 1) := by decide +kernel
theorem d_MO_firstLike_16 : decode s_MO_firstLike.2.1 16 = .ok (.ireturn, 1) := by decide +kernel
theorem d_MO_looksFrom_0 : decode s_MO_looksFrom.2.1 0 = .ok (.iconst 4, 1) := by decide +kernel
theorem d_MO_looksFrom_1 : decode s_MO_looksFrom.2.1 1 = .ok (.iload_n 1, 1) := by decide +kernel
theorem d_MO_looksFrom_2 : decode s_MO_looksFrom.2.1 2 = .ok (.imul, 1) := by decide +kernel
theorem d_MO_looksFrom_3 : decode s_MO_looksFrom.2.1 3 = .ok (.iload_n 2, 1) := by decide +kernel
theorem d_MO_looksFrom_4 : decode s_MO_looksFrom.2.1 4 = .ok (.iadd, 1) := by decide +kernel
theorem d_MO_looksFrom_5 : decode s_MO_looksFrom.2.1 5 = .ok (.istore_n 3, 1) := by decide +kernel
theorem d_MO_looksFrom_6 : decode s_MO_looksFrom.2.1 6 = .ok (.aload_n 0, 1) := by decide +kernel
theorem d_MO_looksFrom_7 : decode s_MO_looksFrom.2.1 7 = .ok (.aload_n 0, 1) := by decide +kernel
theorem d_MO_looksFrom_8 : decode s_MO_looksFrom.2.1 8 = .ok (.getfield 96, 3) := by decide +kernel
theorem d_MO_looksFrom_11 : decode s_MO_looksFrom.2.1 11 = .ok (.iload_n 1, 1) := by decide +kernel
theorem d_MO_looksFrom_12 : decode s_MO_looksFrom.2.1 12 = .ok (.laload, 1) := by decide +kernel
theorem d_MO_looksFrom_13 : decode s_MO_looksFrom.2.1 13 = .ok (.invokevirtual 415, 3) := by decide +kernel
theorem d_MO_looksFrom_16 : decode s_MO_looksFrom.2.1 16 = .ok (.aload_n 0, 1) := by decide +kernel
theorem d_MO_looksFrom_17 : decode s_MO_looksFrom.2.1 17 = .ok (.getfield 114, 3) := by decide +kernel
theorem d_MO_looksFrom_20 : decode s_MO_looksFrom.2.1 20 = .ok (.iload_n 3, 1) := by decide +kernel
theorem d_MO_looksFrom_21 : decode s_MO_looksFrom.2.1 21 = .ok (.iload_n 2, 1) := by decide +kernel
theorem d_MO_looksFrom_22 : decode s_MO_looksFrom.2.1 22 = .ok (.aload_n 0, 1) := by decide +kernel
theorem d_MO_looksFrom_23 : decode s_MO_looksFrom.2.1 23 = .ok (.invokevirtual 358, 3) := by decide +kernel
theorem d_MO_looksFrom_26 : decode s_MO_looksFrom.2.1 26 = .ok (.if_icmp .ge 32, 3) := by decide +kernel
theorem d_MO_looksFrom_29 : decode s_MO_looksFrom.2.1 29 = .ok (.aload_n 0, 1) := by decide +kernel
theorem d_MO_looksFrom_30 : decode s_MO_looksFrom.2.1 30 = .ok (.getfield 87, 3) := by decide +kernel
theorem d_MO_looksFrom_33 : decode s_MO_looksFrom.2.1 33 = .ok (.aload_n 0, 1) := by decide +kernel
theorem d_MO_looksFrom_34 : decode s_MO_looksFrom.2.1 34 = .ok (.getfield 87, 3) := by decide +kernel
theorem d_MO_looksFrom_37 : decode s_MO_looksFrom.2.1 37 = .ok (.iload_n 2, 1) := by decide +kernel
theorem d_MO_looksFrom_38 : decode s_MO_looksFrom.2.1 38 = .ok (.iaload, 1) := by decide +kernel
theorem d_MO_looksFrom_39 : decode s_MO_looksFrom.2.1 39 = .ok (.invokestatic 438, 3) := by decide +kernel
theorem d_MO_looksFrom_42 : decode s_MO_looksFrom.2.1 42 = .ok (.iload_n 2, 1) := by decide +kernel
theorem d_MO_looksFrom_43 : decode s_MO_looksFrom.2.1 43 = .ok (.if_icmp .ne 15, 3) := by decide +kernel
theorem d_MO_looksFrom_46 : decode s_MO_looksFrom.2.1 46 = .ok (.aload_n 0, 1) := by decide +kernel
theorem d_MO_looksFrom_47 : decode s_MO_looksFrom.2.1 47 = .ok (.getfield 87, 3) := by decide +kernel
theorem d_MO_looksFrom_50 : decode s_MO_looksFrom.2.1 50 = .ok (.iload_n 2, 1) := by decide +kernel
theorem d_MO_looksFrom_51 : decode s_MO_looksFrom.2.1 51 = .ok (.iaload, 1) := by decide +kernel
theorem d_MO_looksFrom_52 : decode s_MO_looksFrom.2.1 52 = .ok (.invokestatic 346, 3) := by decide +kernel
theorem d_MO_looksFrom_55 : decode s_MO_looksFrom.2.1 55 = .ok (.goto 4, 3) := by decide +kernel
theorem d_MO_looksFrom_58 : decode s_MO_looksFrom.2.1 58 = .ok (.iconst (-1), 1) := by decide +kernel
theorem d_MO_looksFrom_59 : decode s_MO_looksFrom.2.1 59 = .ok (.iastore, 1) := by decide +kernel
theorem d_MO_looksFrom_60 : decode s_MO_looksFrom.2.1 60 = .ok (.iconst 0, 1) := by decide +kernel
theorem d_MO_looksFrom_61 : decode s_MO_looksFrom.2.1 61 = .ok (.istore 4, 2) := by decide +kernel
theorem d_MO_looksFrom_63 : decode s_MO_looksFrom.2.1 63 = .ok (.iload 4, 2) := by decide +kernel
theorem d_MO_looksFrom_65 : decode s_MO_looksFrom.2.1 65 = .ok (.bipush 64, 2) := by decide +kernel
theorem d_MO_looksFrom_67 : decode s_MO_looksFrom.2.1 67 = .ok (.if_icmp .ge 112, 3) := by decide +kernel
theorem d_MO_looksFrom_70 : decode s_MO_looksFrom.2.1 70 = .ok (.aload_n 0, 1) := by decide +kernel
theorem d_MO_looksFrom_71 : decode s_MO_looksFrom.2.1 71 = .ok (.getfield 111, 3) := by decide +kernel
theorem d_MO_looksFrom_74 : decode s_MO_looksFrom.2.1 74 = .ok (.bipush 64, 2) := by decide +kernel
theorem d_MO_looksFrom_76 : decode s_MO_looksFrom.2.1 76 = .ok (.iload_n 3, 1) := by decide +kernel
theorem d_MO_looksFrom_77 : decode s_MO_looksFrom.2.1 77 = .ok (.imul, 1) := by decide +kernel
theorem d_MO_looksFrom_78 : decode s_MO_looksFrom.2.1 78 = .ok (.iload 4, 2) := by decide +kernel
theorem d_MO_looksFrom_80 : decode s_MO_looksFrom.2.1 80 = .ok (.iadd, 1) := by decide +kernel
theorem d_MO_looksFrom_81 : decode s_MO_looksFrom.2.1 81 = .ok (.iconst (-1), 1) := by decide +kernel
theorem d_MO_looksFrom_82 : decode s_MO_looksFrom.2.1 82 = .ok (.iastore, 1) := by decide +kernel
theorem d_MO_looksFrom_83 : decode s_MO_looksFrom.2.1 83 = .ok (.aload_n 0, 1) := by decide +kernel
theorem d_MO_looksFrom_84 : decode s_MO_looksFrom.2.1 84 = .ok (.getfield 114, 3) := by decide +kernel
theorem d_MO_looksFrom_87 : decode s_MO_looksFrom.2.1 87 = .ok (.iload_n 3, 1) := by decide +kernel
theorem d_MO_looksFrom_88 : decode s_MO_looksFrom.2.1 88 = .ok (.iaload, 1) := by decide +kernel
theorem d_MO_looksFrom_89 : decode s_MO_looksFrom.2.1 89 = .ok (.iconst (-1), 1) := by decide +kernel
theorem d_MO_looksFrom_90 : decode s_MO_looksFrom.2.1 90 = .ok (.if_icmp .eq 83, 3) := by decide +kernel
theorem d_MO_looksFrom_93 : decode s_MO_looksFrom.2.1 93 = .ok (.aload_n 0, 1) := by decide +kernel
theorem d_MO_looksFrom_94 : decode s_MO_looksFrom.2.1 94 = .ok (.getfield 107, 3) := by decide +kernel
theorem d_MO_looksFrom_97 : decode s_MO_looksFrom.2.1 97 = .ok (.bipush 64, 2) := by decide +kernel
theorem d_MO_looksFrom_99 : decode s_MO_looksFrom.2.1 99 = .ok (.iload_n 1, 1) := by decide +kernel
theorem d_MO_looksFrom_100 : decode s_MO_looksFrom.2.1 100 = .ok (.imul, 1) := by decide +kernel
theorem d_MO_looksFrom_101 : decode s_MO_looksFrom.2.1 101 = .ok (.iload 4, 2) := by decide +kernel
theorem d_MO_looksFrom_103 : decode s_MO_looksFrom.2.1 103 = .ok (.iadd, 1) := by decide +kernel
theorem d_MO_looksFrom_104 : decode s_MO_looksFrom.2.1 104 = .ok (.iaload, 1) := by decide +kernel
theorem d_MO_looksFrom_105 : decode s_MO_looksFrom.2.1 105 = .ok (.iconst (-1), 1) := by decide +kernel
theorem d_MO_looksFrom_106 : decode s_MO_looksFrom.2.1 106 = .ok (.if_icmp .ne 6, 3) := by decide +kernel
theorem d_MO_looksFrom_109 : decode s_MO_looksFrom.2.1 109 = .ok (.goto 64, 3) := by decide +kernel
theorem d_MO_looksFrom_112 : decode s_MO_looksFrom.2.1 112 = .ok (.aload_n 0, 1) := by decide +kernel
theorem d_MO_looksFrom_113 : decode s_MO_looksFrom.2.1 113 = .ok (.iload 4, 2) := by decide +kernel
theorem d_MO_looksFrom_115 : decode s_MO_looksFrom.2.1 115 = .ok (.iconst 4, 1) := by decide +kernel
theorem d_MO_looksFrom_116 : decode s_MO_looksFrom.2.1 116 = .ok (.idiv, 1) := by decide +kernel
theorem d_MO_looksFrom_117 : decode s_MO_looksFrom.2.1 117 = .ok (.iload 4, 2) := by decide +kernel
theorem d_MO_looksFrom_119 : decode s_MO_looksFrom.2.1 119 = .ok (.iconst 4, 1) := by decide +kernel
theorem d_MO_looksFrom_120 : decode s_MO_looksFrom.2.1 120 = .ok (.irem, 1) := by decide +kernel
theorem d_MO_looksFrom_121 : decode s_MO_looksFrom.2.1 121 = .ok (.invokevirtual 419, 3) := by decide +kernel
theorem d_MO_looksFrom_124 : decode s_MO_looksFrom.2.1 124 = .ok (.pop, 1) := by decide +kernel
theorem d_MO_looksFrom_125 : decode s_MO_looksFrom.2.1 125 = .ok (.aload_n 0, 1) := by decide +kernel
theorem d_MO_looksFrom_126 : decode s_MO_looksFrom.2.1 126 = .ok (.getfield 90, 3) := by decide +kernel
theorem d_MO_looksFrom_129 : decode s_MO_looksFrom.2.1 129 = .ok (.iload_n 2, 1) := by decide +kernel
theorem d_MO_looksFrom_130 : decode s_MO_looksFrom.2.1 130 = .ok (.iaload, 1) := by decide +kernel
theorem d_MO_looksFrom_131 : decode s_MO_looksFrom.2.1 131 = .ok (.istore 5, 2) := by decide +kernel
theorem d_MO_looksFrom_133 : decode s_MO_looksFrom.2.1 133 = .ok (.aload_n 0, 1) := by decide +kernel
theorem d_MO_looksFrom_134 : decode s_MO_looksFrom.2.1 134 = .ok (.invokevirtual 422, 3) := by decide +kernel
theorem d_MO_looksFrom_137 : decode s_MO_looksFrom.2.1 137 = .ok (.aload_n 0, 1) := by decide +kernel
theorem d_MO_looksFrom_138 : decode s_MO_looksFrom.2.1 138 = .ok (.getfield 111, 3) := by decide +kernel
theorem d_MO_looksFrom_141 : decode s_MO_looksFrom.2.1 141 = .ok (.bipush 64, 2) := by decide +kernel
theorem d_MO_looksFrom_143 : decode s_MO_looksFrom.2.1 143 = .ok (.iload_n 3, 1) := by decide +kernel
theorem d_MO_looksFrom_144 : decode s_MO_looksFrom.2.1 144 = .ok (.imul, 1) := by decide +kernel
theorem d_MO_looksFrom_145 : decode s_MO_looksFrom.2.1 145 = .ok (.iload 4, 2) := by decide +kernel
theorem d_MO_looksFrom_147 : decode s_MO_looksFrom.2.1 147 = .ok (.iadd, 1) := by decide +kernel
theorem d_MO_looksFrom_148 : decode s_MO_looksFrom.2.1 148 = .ok (.iconst 4, 1) := by decide +kernel
theorem d_MO_looksFrom_149 : decode s_MO_looksFrom.2.1 149 = .ok (.aload_n 0, 1) := by decide +kernel
theorem d_MO_looksFrom_150 : decode s_MO_looksFrom.2.1 150 = .ok (.getfield 107, 3) := by decide +kernel
theorem d_MO_looksFrom_153 : decode s_MO_looksFrom.2.1 153 = .ok (.bipush 64, 2) := by decide +kernel
theorem d_MO_looksFrom_155 : decode s_MO_looksFrom.2.1 155 = .ok (.iload_n 1, 1) := by decide +kernel
theorem d_MO_looksFrom_156 : decode s_MO_looksFrom.2.1 156 = .ok (.imul, 1) := by decide +kernel
theorem d_MO_looksFrom_157 : decode s_MO_looksFrom.2.1 157 = .ok (.iload 4, 2) := by decide +kernel
theorem d_MO_looksFrom_159 : decode s_MO_looksFrom.2.1 159 = .ok (.iadd, 1) := by decide +kernel
theorem d_MO_looksFrom_160 : decode s_MO_looksFrom.2.1 160 = .ok (.iaload, 1) := by decide +kernel
theorem d_MO_looksFrom_161 : decode s_MO_looksFrom.2.1 161 = .ok (.imul, 1) := by decide +kernel
theorem d_MO_looksFrom_162 : decode s_MO_looksFrom.2.1 162 = .ok (.aload_n 0, 1) := by decide +kernel
theorem d_MO_looksFrom_163 : decode s_MO_looksFrom.2.1 163 = .ok (.getfield 90, 3) := by decide +kernel
theorem d_MO_looksFrom_166 : decode s_MO_looksFrom.2.1 166 = .ok (.iload 5, 2) := by decide +kernel
theorem d_MO_looksFrom_168 : decode s_MO_looksFrom.2.1 168 = .ok (.invokestatic 438, 3) := by decide +kernel
theorem d_MO_looksFrom_171 : decode s_MO_looksFrom.2.1 171 = .ok (.iadd, 1) := by decide +kernel
theorem d_MO_looksFrom_172 : decode s_MO_looksFrom.2.1 172 = .ok (.iastore, 1) := by decide +kernel
theorem d_MO_looksFrom_173 : decode s_MO_looksFrom.2.1 173 = .ok (.iinc 4 1, 3) := by decide +kernel
theorem d_MO_looksFrom_176 : decode s_MO_looksFrom.2.1 176 = .ok (.goto (-113), 3) := by decide +kernel
theorem d_MO_looksFrom_179 : decode s_MO_looksFrom.2.1 179 = .ok (.return_, 1) := by decide +kernel
theorem d_MO_leadsInto_0 : decode s_MO_leadsInto.2.1 0 = .ok (.bipush 64, 2) := by decide +kernel
theorem d_MO_leadsInto_2 : decode s_MO_leadsInto.2.1 2 = .ok (.iload_n 1, 1) := by decide +kernel
theorem d_MO_leadsInto_3 : decode s_MO_leadsInto.2.1 3 = .ok (.imul, 1) := by decide +kernel
theorem d_MO_leadsInto_4 : decode s_MO_leadsInto.2.1 4 = .ok (.istore_n 3, 1) := by decide +kernel
theorem d_MO_leadsInto_5 : decode s_MO_leadsInto.2.1 5 = .ok (.iload_n 3, 1) := by decide +kernel
theorem d_MO_leadsInto_6 : decode s_MO_leadsInto.2.1 6 = .ok (.bipush 64, 2) := by decide +kernel
theorem d_MO_leadsInto_8 : decode s_MO_leadsInto.2.1 8 = .ok (.iload_n 1, 1) := by decide +kernel
theorem d_MO_leadsInto_9 : decode s_MO_leadsInto.2.1 9 = .ok (.imul, 1) := by decide +kernel
theorem d_MO_leadsInto_10 : decode s_MO_leadsInto.2.1 10 = .ok (.bipush 64, 2) := by decide +kernel
theorem d_MO_leadsInto_12 : decode s_MO_leadsInto.2.1 12 = .ok (.iadd, 1) := by decide +kernel
theorem d_MO_leadsInto_13 : decode s_MO_leadsInto.2.1 13 = .ok (.if_icmp .ge 32, 3) := by decide +kernel
theorem d_MO_leadsInto_16 : decode s_MO_leadsInto.2.1 16 = .ok (.aload_n 0, 1) := by decide +kernel
theorem d_MO_leadsInto_17 : decode s_MO_leadsInto.2.1 17 = .ok (.getfield 111, 3) := by decide +kernel
theorem d_MO_leadsInto_20 : decode s_MO_leadsInto.2.1 20 = .ok (.iload_n 3, 1) := by decide +kernel
theorem d_MO_leadsInto_21 : decode s_MO_leadsInto.2.1 21 = .ok (.iaload, 1) := by decide +kernel
theorem d_MO_leadsInto_22 : decode s_MO_leadsInto.2.1 22 = .ok (.iconst (-1), 1) := by decide +kernel
theorem d_MO_leadsInto_23 : decode s_MO_leadsInto.2.1 23 = .ok (.if_icmp .eq 16, 3) := by decide +kernel
theorem d_MO_leadsInto_26 : decode s_MO_leadsInto.2.1 26 = .ok (.aload_n 2, 1) := by decide +kernel
theorem d_MO_leadsInto_27 : decode s_MO_leadsInto.2.1 27 = .ok (.aload_n 0, 1) := by decide +kernel
theorem d_MO_leadsInto_28 : decode s_MO_leadsInto.2.1 28 = .ok (.getfield 111, 3) := by decide +kernel
theorem d_MO_leadsInto_31 : decode s_MO_leadsInto.2.1 31 = .ok (.iload_n 3, 1) := by decide +kernel
theorem d_MO_leadsInto_32 : decode s_MO_leadsInto.2.1 32 = .ok (.iaload, 1) := by decide +kernel
theorem d_MO_leadsInto_33 : decode s_MO_leadsInto.2.1 33 = .ok (.baload, 1) := by decide +kernel
theorem d_MO_leadsInto_34 : decode s_MO_leadsInto.2.1 34 = .ok (.ifCond .eq 5, 3) := by decide +kernel
theorem d_MO_leadsInto_37 : decode s_MO_leadsInto.2.1 37 = .ok (.iconst 1, 1) := by decide +kernel
theorem d_MO_leadsInto_38 : decode s_MO_leadsInto.2.1 38 = .ok (.ireturn, 1) := by decide +kernel
theorem d_MO_leadsInto_39 : decode s_MO_leadsInto.2.1 39 = .ok (.iinc 3 1, 3) := by decide +kernel
theorem d_MO_leadsInto_42 : decode s_MO_leadsInto.2.1 42 = .ok (.goto (-37), 3) := by decide +kernel
theorem d_MO_leadsInto_45 : decode s_MO_leadsInto.2.1 45 = .ok (.iconst 0, 1) := by decide +kernel
theorem d_MO_leadsInto_46 : decode s_MO_leadsInto.2.1 46 = .ok (.ireturn, 1) := by decide +kernel
theorem d_MO_spreads_0 : decode s_MO_spreads.2.1 0 = .ok (.iconst 1, 1) := by decide +kernel
theorem d_MO_spreads_1 : decode s_MO_spreads.2.1 1 = .ok (.istore_n 2, 1) := by decide +kernel
theorem d_MO_spreads_2 : decode s_MO_spreads.2.1 2 = .ok (.iload_n 2, 1) := by decide +kernel
theorem d_MO_spreads_3 : decode s_MO_spreads.2.1 3 = .ok (.ifCond .eq 55, 3) := by decide +kernel
theorem d_MO_spreads_6 : decode s_MO_spreads.2.1 6 = .ok (.iconst 0, 1) := by decide +kernel
theorem d_MO_spreads_7 : decode s_MO_spreads.2.1 7 = .ok (.istore_n 2, 1) := by decide +kernel
theorem d_MO_spreads_8 : decode s_MO_spreads.2.1 8 = .ok (.aload_n 0, 1) := by decide +kernel
theorem d_MO_spreads_9 : decode s_MO_spreads.2.1 9 = .ok (.invokevirtual 442, 3) := by decide +kernel
theorem d_MO_spreads_12 : decode s_MO_spreads.2.1 12 = .ok (.iconst 1, 1) := by decide +kernel
theorem d_MO_spreads_13 : decode s_MO_spreads.2.1 13 = .ok (.isub, 1) := by decide +kernel
theorem d_MO_spreads_14 : decode s_MO_spreads.2.1 14 = .ok (.istore_n 3, 1) := by decide +kernel
theorem d_MO_spreads_15 : decode s_MO_spreads.2.1 15 = .ok (.iload_n 3, 1) := by decide +kernel
theorem d_MO_spreads_16 : decode s_MO_spreads.2.1 16 = .ok (.ifCond .lt 39, 3) := by decide +kernel
theorem d_MO_spreads_19 : decode s_MO_spreads.2.1 19 = .ok (.aload_n 1, 1) := by decide +kernel
theorem d_MO_spreads_20 : decode s_MO_spreads.2.1 20 = .ok (.iload_n 3, 1) := by decide +kernel
theorem d_MO_spreads_21 : decode s_MO_spreads.2.1 21 = .ok (.baload, 1) := by decide +kernel
theorem d_MO_spreads_22 : decode s_MO_spreads.2.1 22 = .ok (.ifCond .ne 27, 3) := by decide +kernel
theorem d_MO_spreads_25 : decode s_MO_spreads.2.1 25 = .ok (.aload_n 0, 1) := by decide +kernel
theorem d_MO_spreads_26 : decode s_MO_spreads.2.1 26 = .ok (.getfield 120, 3) := by decide +kernel
theorem d_MO_spreads_29 : decode s_MO_spreads.2.1 29 = .ok (.iload_n 3, 1) := by decide +kernel
theorem d_MO_spreads_30 : decode s_MO_spreads.2.1 30 = .ok (.baload, 1) := by decide +kernel
theorem d_MO_spreads_31 : decode s_MO_spreads.2.1 31 = .ok (.ifCond .eq 18, 3) := by decide +kernel
theorem d_MO_spreads_34 : decode s_MO_spreads.2.1 34 = .ok (.aload_n 0, 1) := by decide +kernel
theorem d_MO_spreads_35 : decode s_MO_spreads.2.1 35 = .ok (.iload_n 3, 1) := by decide +kernel
theorem d_MO_spreads_36 : decode s_MO_spreads.2.1 36 = .ok (.aload_n 1, 1) := by decide +kernel
theorem d_MO_spreads_37 : decode s_MO_spreads.2.1 37 = .ok (.invokevirtual 445, 3) := by decide +kernel
theorem d_MO_spreads_40 : decode s_MO_spreads.2.1 40 = .ok (.ifCond .eq 9, 3) := by decide +kernel
theorem d_MO_spreads_43 : decode s_MO_spreads.2.1 43 = .ok (.aload_n 1, 1) := by decide +kernel
theorem d_MO_spreads_44 : decode s_MO_spreads.2.1 44 = .ok (.iload_n 3, 1) := by decide +kernel
theorem d_MO_spreads_45 : decode s_MO_spreads.2.1 45 = .ok (.iconst 1, 1) := by decide +kernel
theorem d_MO_spreads_46 : decode s_MO_spreads.2.1 46 = .ok (.bastore, 1) := by decide +kernel
theorem d_MO_spreads_47 : decode s_MO_spreads.2.1 47 = .ok (.iconst 1, 1) := by decide +kernel
theorem d_MO_spreads_48 : decode s_MO_spreads.2.1 48 = .ok (.istore_n 2, 1) := by decide +kernel
theorem d_MO_spreads_49 : decode s_MO_spreads.2.1 49 = .ok (.iinc 3 (-1), 3) := by decide +kernel
theorem d_MO_spreads_52 : decode s_MO_spreads.2.1 52 = .ok (.goto (-37), 3) := by decide +kernel
theorem d_MO_spreads_55 : decode s_MO_spreads.2.1 55 = .ok (.goto (-53), 3) := by decide +kernel
theorem d_MO_spreads_58 : decode s_MO_spreads.2.1 58 = .ok (.return_, 1) := by decide +kernel
theorem d_MO_ringsBy_0 : decode s_MO_ringsBy.2.1 0 = .ok (.aload_n 0, 1) := by decide +kernel
theorem d_MO_ringsBy_1 : decode s_MO_ringsBy.2.1 1 = .ok (.getfield 111, 3) := by decide +kernel
theorem d_MO_ringsBy_4 : decode s_MO_ringsBy.2.1 4 = .ok (.bipush 64, 2) := by decide +kernel
theorem d_MO_ringsBy_6 : decode s_MO_ringsBy.2.1 6 = .ok (.iload_n 1, 1) := by decide +kernel
theorem d_MO_ringsBy_7 : decode s_MO_ringsBy.2.1 7 = .ok (.imul, 1) := by decide +kernel
theorem d_MO_ringsBy_8 : decode s_MO_ringsBy.2.1 8 = .ok (.iload_n 2, 1) := by decide +kernel
theorem d_MO_ringsBy_9 : decode s_MO_ringsBy.2.1 9 = .ok (.iadd, 1) := by decide +kernel
theorem d_MO_ringsBy_10 : decode s_MO_ringsBy.2.1 10 = .ok (.iaload, 1) := by decide +kernel
theorem d_MO_ringsBy_11 : decode s_MO_ringsBy.2.1 11 = .ok (.istore_n 3, 1) := by decide +kernel
theorem d_MO_ringsBy_12 : decode s_MO_ringsBy.2.1 12 = .ok (.iload_n 3, 1) := by decide +kernel
theorem d_MO_ringsBy_13 : decode s_MO_ringsBy.2.1 13 = .ok (.iconst (-1), 1) := by decide +kernel
theorem d_MO_ringsBy_14 : decode s_MO_ringsBy.2.1 14 = .ok (.if_icmp .ne 4, 3) := by decide +kernel
theorem d_MO_ringsBy_17 : decode s_MO_ringsBy.2.1 17 = .ok (.return_, 1) := by decide +kernel
theorem d_MO_ringsBy_18 : decode s_MO_ringsBy.2.1 18 = .ok (.aload_n 0, 1) := by decide +kernel
theorem d_MO_ringsBy_19 : decode s_MO_ringsBy.2.1 19 = .ok (.getfield 130, 3) := by decide +kernel
theorem d_MO_ringsBy_22 : decode s_MO_ringsBy.2.1 22 = .ok (.iload_n 1, 1) := by decide +kernel
theorem d_MO_ringsBy_23 : decode s_MO_ringsBy.2.1 23 = .ok (.iaload, 1) := by decide +kernel
theorem d_MO_ringsBy_24 : decode s_MO_ringsBy.2.1 24 = .ok (.istore 4, 2) := by decide +kernel
theorem d_MO_ringsBy_26 : decode s_MO_ringsBy.2.1 26 = .ok (.aload_n 0, 1) := by decide +kernel
theorem d_MO_ringsBy_27 : decode s_MO_ringsBy.2.1 27 = .ok (.getfield 120, 3) := by decide +kernel
theorem d_MO_ringsBy_30 : decode s_MO_ringsBy.2.1 30 = .ok (.iload_n 3, 1) := by decide +kernel
theorem d_MO_ringsBy_31 : decode s_MO_ringsBy.2.1 31 = .ok (.baload, 1) := by decide +kernel
theorem d_MO_ringsBy_32 : decode s_MO_ringsBy.2.1 32 = .ok (.ifCond .eq 18, 3) := by decide +kernel
theorem d_MO_ringsBy_35 : decode s_MO_ringsBy.2.1 35 = .ok (.aload_n 0, 1) := by decide +kernel
theorem d_MO_ringsBy_36 : decode s_MO_ringsBy.2.1 36 = .ok (.getfield 130, 3) := by decide +kernel
theorem d_MO_ringsBy_39 : decode s_MO_ringsBy.2.1 39 = .ok (.iload_n 3, 1) := by decide +kernel
theorem d_MO_ringsBy_40 : decode s_MO_ringsBy.2.1 40 = .ok (.iaload, 1) := by decide +kernel
theorem d_MO_ringsBy_41 : decode s_MO_ringsBy.2.1 41 = .ok (.iload 4, 2) := by decide +kernel
theorem d_MO_ringsBy_43 : decode s_MO_ringsBy.2.1 43 = .ok (.if_icmp .ne 7, 3) := by decide +kernel
theorem d_MO_ringsBy_46 : decode s_MO_ringsBy.2.1 46 = .ok (.iconst 1, 1) := by decide +kernel
theorem d_MO_ringsBy_47 : decode s_MO_ringsBy.2.1 47 = .ok (.goto 4, 3) := by decide +kernel
theorem d_MO_ringsBy_50 : decode s_MO_ringsBy.2.1 50 = .ok (.iconst 0, 1) := by decide +kernel
theorem d_MO_ringsBy_51 : decode s_MO_ringsBy.2.1 51 = .ok (.istore 5, 2) := by decide +kernel
theorem d_MO_ringsBy_53 : decode s_MO_ringsBy.2.1 53 = .ok (.iload 5, 2) := by decide +kernel
theorem d_MO_ringsBy_55 : decode s_MO_ringsBy.2.1 55 = .ok (.ifCond .eq 11, 3) := by decide +kernel
theorem d_MO_ringsBy_58 : decode s_MO_ringsBy.2.1 58 = .ok (.aload_n 0, 1) := by decide +kernel
theorem d_MO_ringsBy_59 : decode s_MO_ringsBy.2.1 59 = .ok (.getfield 151, 3) := by decide +kernel
theorem d_MO_ringsBy_62 : decode s_MO_ringsBy.2.1 62 = .ok (.iload 4, 2) := by decide +kernel
theorem d_MO_ringsBy_64 : decode s_MO_ringsBy.2.1 64 = .ok (.iconst 1, 1) := by decide +kernel
theorem d_MO_ringsBy_65 : decode s_MO_ringsBy.2.1 65 = .ok (.bastore, 1) := by decide +kernel
theorem d_MO_ringsBy_66 : decode s_MO_ringsBy.2.1 66 = .ok (.iload_n 2, 1) := by decide +kernel
theorem d_MO_ringsBy_67 : decode s_MO_ringsBy.2.1 67 = .ok (.iconst 4, 1) := by decide +kernel
theorem d_MO_ringsBy_68 : decode s_MO_ringsBy.2.1 68 = .ok (.irem, 1) := by decide +kernel
theorem d_MO_ringsBy_69 : decode s_MO_ringsBy.2.1 69 = .ok (.iload_n 1, 1) := by decide +kernel
theorem d_MO_ringsBy_70 : decode s_MO_ringsBy.2.1 70 = .ok (.iconst 4, 1) := by decide +kernel
theorem d_MO_ringsBy_71 : decode s_MO_ringsBy.2.1 71 = .ok (.irem, 1) := by decide +kernel
theorem d_MO_ringsBy_72 : decode s_MO_ringsBy.2.1 72 = .ok (.if_icmp .ne 15, 3) := by decide +kernel
theorem d_MO_ringsBy_75 : decode s_MO_ringsBy.2.1 75 = .ok (.aload_n 0, 1) := by decide +kernel
theorem d_MO_ringsBy_76 : decode s_MO_ringsBy.2.1 76 = .ok (.iload_n 2, 1) := by decide +kernel
theorem d_MO_ringsBy_77 : decode s_MO_ringsBy.2.1 77 = .ok (.iconst 4, 1) := by decide +kernel
theorem d_MO_ringsBy_78 : decode s_MO_ringsBy.2.1 78 = .ok (.idiv, 1) := by decide +kernel
theorem d_MO_ringsBy_79 : decode s_MO_ringsBy.2.1 79 = .ok (.iconst 0, 1) := by decide +kernel
theorem d_MO_ringsBy_80 : decode s_MO_ringsBy.2.1 80 = .ok (.invokevirtual 349, 3) := by decide +kernel
theorem d_MO_ringsBy_83 : decode s_MO_ringsBy.2.1 83 = .ok (.iconst 1, 1) := by decide +kernel
theorem d_MO_ringsBy_84 : decode s_MO_ringsBy.2.1 84 = .ok (.if_icmp .ne 4, 3) := by decide +kernel
theorem d_MO_ringsBy_87 : decode s_MO_ringsBy.2.1 87 = .ok (.return_, 1) := by decide +kernel
theorem d_MO_ringsBy_88 : decode s_MO_ringsBy.2.1 88 = .ok (.aload_n 0, 1) := by decide +kernel
theorem d_MO_ringsBy_89 : decode s_MO_ringsBy.2.1 89 = .ok (.getfield 154, 3) := by decide +kernel
theorem d_MO_ringsBy_92 : decode s_MO_ringsBy.2.1 92 = .ok (.iload 4, 2) := by decide +kernel
theorem d_MO_ringsBy_94 : decode s_MO_ringsBy.2.1 94 = .ok (.dup2, 1) := by decide +kernel
theorem d_MO_ringsBy_95 : decode s_MO_ringsBy.2.1 95 = .ok (.iaload, 1) := by decide +kernel
theorem d_MO_ringsBy_96 : decode s_MO_ringsBy.2.1 96 = .ok (.iconst 1, 1) := by decide +kernel
theorem d_MO_ringsBy_97 : decode s_MO_ringsBy.2.1 97 = .ok (.iload_n 2, 1) := by decide +kernel
theorem d_MO_ringsBy_98 : decode s_MO_ringsBy.2.1 98 = .ok (.iconst 4, 1) := by decide +kernel
theorem d_MO_ringsBy_99 : decode s_MO_ringsBy.2.1 99 = .ok (.idiv, 1) := by decide +kernel
theorem d_MO_ringsBy_100 : decode s_MO_ringsBy.2.1 100 = .ok (.ishl, 1) := by decide +kernel
theorem d_MO_ringsBy_101 : decode s_MO_ringsBy.2.1 101 = .ok (.ior, 1) := by decide +kernel
theorem d_MO_ringsBy_102 : decode s_MO_ringsBy.2.1 102 = .ok (.iastore, 1) := by decide +kernel
theorem d_MO_ringsBy_103 : decode s_MO_ringsBy.2.1 103 = .ok (.iload 5, 2) := by decide +kernel
theorem d_MO_ringsBy_105 : decode s_MO_ringsBy.2.1 105 = .ok (.ifCond .eq 18, 3) := by decide +kernel
theorem d_MO_ringsBy_108 : decode s_MO_ringsBy.2.1 108 = .ok (.aload_n 0, 1) := by decide +kernel
theorem d_MO_ringsBy_109 : decode s_MO_ringsBy.2.1 109 = .ok (.getfield 157, 3) := by decide +kernel
theorem d_MO_ringsBy_112 : decode s_MO_ringsBy.2.1 112 = .ok (.iload 4, 2) := by decide +kernel
theorem d_MO_ringsBy_114 : decode s_MO_ringsBy.2.1 114 = .ok (.dup2, 1) := by decide +kernel
theorem d_MO_ringsBy_115 : decode s_MO_ringsBy.2.1 115 = .ok (.iaload, 1) := by decide +kernel
theorem d_MO_ringsBy_116 : decode s_MO_ringsBy.2.1 116 = .ok (.iconst 1, 1) := by decide +kernel
theorem d_MO_ringsBy_117 : decode s_MO_ringsBy.2.1 117 = .ok (.iload_n 2, 1) := by decide +kernel
theorem d_MO_ringsBy_118 : decode s_MO_ringsBy.2.1 118 = .ok (.iconst 4, 1) := by decide +kernel
theorem d_MO_ringsBy_119 : decode s_MO_ringsBy.2.1 119 = .ok (.idiv, 1) := by decide +kernel
theorem d_MO_ringsBy_120 : decode s_MO_ringsBy.2.1 120 = .ok (.ishl, 1) := by decide +kernel
theorem d_MO_ringsBy_121 : decode s_MO_ringsBy.2.1 121 = .ok (.ior, 1) := by decide +kernel
theorem d_MO_ringsBy_122 : decode s_MO_ringsBy.2.1 122 = .ok (.iastore, 1) := by decide +kernel
theorem d_MO_ringsBy_123 : decode s_MO_ringsBy.2.1 123 = .ok (.return_, 1) := by decide +kernel
theorem d_MO_rings_0 : decode s_MO_rings.2.1 0 = .ok (.iconst 0, 1) := by decide +kernel
theorem d_MO_rings_1 : decode s_MO_rings.2.1 1 = .ok (.istore_n 1, 1) := by decide +kernel
theorem d_MO_rings_2 : decode s_MO_rings.2.1 2 = .ok (.iload_n 1, 1) := by decide +kernel
theorem d_MO_rings_3 : decode s_MO_rings.2.1 3 = .ok (.aload_n 0, 1) := by decide +kernel
theorem d_MO_rings_4 : decode s_MO_rings.2.1 4 = .ok (.getfield 466, 3) := by decide +kernel
theorem d_MO_rings_7 : decode s_MO_rings.2.1 7 = .ok (.if_icmp .ge 30, 3) := by decide +kernel
theorem d_MO_rings_10 : decode s_MO_rings.2.1 10 = .ok (.aload_n 0, 1) := by decide +kernel
theorem d_MO_rings_11 : decode s_MO_rings.2.1 11 = .ok (.getfield 151, 3) := by decide +kernel
theorem d_MO_rings_14 : decode s_MO_rings.2.1 14 = .ok (.iload_n 1, 1) := by decide +kernel
theorem d_MO_rings_15 : decode s_MO_rings.2.1 15 = .ok (.iconst 0, 1) := by decide +kernel
theorem d_MO_rings_16 : decode s_MO_rings.2.1 16 = .ok (.bastore, 1) := by decide +kernel
theorem d_MO_rings_17 : decode s_MO_rings.2.1 17 = .ok (.aload_n 0, 1) := by decide +kernel
theorem d_MO_rings_18 : decode s_MO_rings.2.1 18 = .ok (.getfield 154, 3) := by decide +kernel
theorem d_MO_rings_21 : decode s_MO_rings.2.1 21 = .ok (.iload_n 1, 1) := by decide +kernel
theorem d_MO_rings_22 : decode s_MO_rings.2.1 22 = .ok (.iconst 0, 1) := by decide +kernel
theorem d_MO_rings_23 : decode s_MO_rings.2.1 23 = .ok (.iastore, 1) := by decide +kernel
theorem d_MO_rings_24 : decode s_MO_rings.2.1 24 = .ok (.aload_n 0, 1) := by decide +kernel
theorem d_MO_rings_25 : decode s_MO_rings.2.1 25 = .ok (.getfield 157, 3) := by decide +kernel
theorem d_MO_rings_28 : decode s_MO_rings.2.1 28 = .ok (.iload_n 1, 1) := by decide +kernel
theorem d_MO_rings_29 : decode s_MO_rings.2.1 29 = .ok (.iconst 0, 1) := by decide +kernel
theorem d_MO_rings_30 : decode s_MO_rings.2.1 30 = .ok (.iastore, 1) := by decide +kernel
theorem d_MO_rings_31 : decode s_MO_rings.2.1 31 = .ok (.iinc 1 1, 3) := by decide +kernel
theorem d_MO_rings_34 : decode s_MO_rings.2.1 34 = .ok (.goto (-32), 3) := by decide +kernel
theorem d_MO_rings_37 : decode s_MO_rings.2.1 37 = .ok (.iconst 0, 1) := by decide +kernel
theorem d_MO_rings_38 : decode s_MO_rings.2.1 38 = .ok (.istore_n 1, 1) := by decide +kernel
theorem d_MO_rings_39 : decode s_MO_rings.2.1 39 = .ok (.iload_n 1, 1) := by decide +kernel
theorem d_MO_rings_40 : decode s_MO_rings.2.1 40 = .ok (.aload_n 0, 1) := by decide +kernel
theorem d_MO_rings_41 : decode s_MO_rings.2.1 41 = .ok (.invokevirtual 442, 3) := by decide +kernel
theorem d_MO_rings_44 : decode s_MO_rings.2.1 44 = .ok (.if_icmp .ge 38, 3) := by decide +kernel
theorem d_MO_rings_47 : decode s_MO_rings.2.1 47 = .ok (.aload_n 0, 1) := by decide +kernel
theorem d_MO_rings_48 : decode s_MO_rings.2.1 48 = .ok (.getfield 120, 3) := by decide +kernel
theorem d_MO_rings_51 : decode s_MO_rings.2.1 51 = .ok (.iload_n 1, 1) := by decide +kernel
theorem d_MO_rings_52 : decode s_MO_rings.2.1 52 = .ok (.baload, 1) := by decide +kernel
theorem d_MO_rings_53 : decode s_MO_rings.2.1 53 = .ok (.ifCond .eq 23, 3) := by decide +kernel
theorem d_MO_rings_56 : decode s_MO_rings.2.1 56 = .ok (.iconst 0, 1) := by decide +kernel
theorem d_MO_rings_57 : decode s_MO_rings.2.1 57 = .ok (.istore_n 2, 1) := by decide +kernel
theorem d_MO_rings_58 : decode s_MO_rings.2.1 58 = .ok (.iload_n 2, 1) := by decide +kernel
theorem d_MO_rings_59 : decode s_MO_rings.2.1 59 = .ok (.bipush 64, 2) := by decide +kernel
theorem d_MO_rings_61 : decode s_MO_rings.2.1 61 = .ok (.if_icmp .ge 15, 3) := by decide +kernel
theorem d_MO_rings_64 : decode s_MO_rings.2.1 64 = .ok (.aload_n 0, 1) := by decide +kernel
theorem d_MO_rings_65 : decode s_MO_rings.2.1 65 = .ok (.iload_n 1, 1) := by decide +kernel
theorem d_MO_rings_66 : decode s_MO_rings.2.1 66 = .ok (.iload_n 2, 1) := by decide +kernel
theorem d_MO_rings_67 : decode s_MO_rings.2.1 67 = .ok (.invokevirtual 484, 3) := by decide +kernel
theorem d_MO_rings_70 : decode s_MO_rings.2.1 70 = .ok (.iinc 2 1, 3) := by decide +kernel
theorem d_MO_rings_73 : decode s_MO_rings.2.1 73 = .ok (.goto (-15), 3) := by decide +kernel
theorem d_MO_rings_76 : decode s_MO_rings.2.1 76 = .ok (.iinc 1 1, 3) := by decide +kernel
theorem d_MO_rings_79 : decode s_MO_rings.2.1 79 = .ok (.goto (-40), 3) := by decide +kernel
theorem d_MO_rings_82 : decode s_MO_rings.2.1 82 = .ok (.iconst 0, 1) := by decide +kernel
theorem d_MO_rings_83 : decode s_MO_rings.2.1 83 = .ok (.istore_n 1, 1) := by decide +kernel
theorem d_MO_rings_84 : decode s_MO_rings.2.1 84 = .ok (.iload_n 1, 1) := by decide +kernel
theorem d_MO_rings_85 : decode s_MO_rings.2.1 85 = .ok (.aload_n 0, 1) := by decide +kernel
theorem d_MO_rings_86 : decode s_MO_rings.2.1 86 = .ok (.invokevirtual 442, 3) := by decide +kernel
theorem d_MO_rings_89 : decode s_MO_rings.2.1 89 = .ok (.if_icmp .ge 63, 3) := by decide +kernel
theorem d_MO_rings_92 : decode s_MO_rings.2.1 92 = .ok (.aload_n 0, 1) := by decide +kernel
theorem d_MO_rings_93 : decode s_MO_rings.2.1 93 = .ok (.getfield 120, 3) := by decide +kernel
theorem d_MO_rings_96 : decode s_MO_rings.2.1 96 = .ok (.iload_n 1, 1) := by decide +kernel
theorem d_MO_rings_97 : decode s_MO_rings.2.1 97 = .ok (.baload, 1) := by decide +kernel
theorem d_MO_rings_98 : decode s_MO_rings.2.1 98 = .ok (.ifCond .eq 48, 3) := by decide +kernel
theorem d_MO_rings_101 : decode s_MO_rings.2.1 101 = .ok (.aload_n 0, 1) := by decide +kernel
theorem d_MO_rings_102 : decode s_MO_rings.2.1 102 = .ok (.getfield 130, 3) := by decide +kernel
theorem d_MO_rings_105 : decode s_MO_rings.2.1 105 = .ok (.iload_n 1, 1) := by decide +kernel
theorem d_MO_rings_106 : decode s_MO_rings.2.1 106 = .ok (.iaload, 1) := by decide +kernel
theorem d_MO_rings_107 : decode s_MO_rings.2.1 107 = .ok (.istore_n 2, 1) := by decide +kernel
theorem d_MO_rings_108 : decode s_MO_rings.2.1 108 = .ok (.aload_n 0, 1) := by decide +kernel
theorem d_MO_rings_109 : decode s_MO_rings.2.1 109 = .ok (.getfield 127, 3) := by decide +kernel
theorem d_MO_rings_112 : decode s_MO_rings.2.1 112 = .ok (.iload_n 1, 1) := by decide +kernel
theorem d_MO_rings_113 : decode s_MO_rings.2.1 113 = .ok (.aload_n 0, 1) := by decide +kernel
theorem d_MO_rings_114 : decode s_MO_rings.2.1 114 = .ok (.getfield 151, 3) := by decide +kernel
theorem d_MO_rings_117 : decode s_MO_rings.2.1 117 = .ok (.iload_n 2, 1) := by decide +kernel
theorem d_MO_rings_118 : decode s_MO_rings.2.1 118 = .ok (.baload, 1) := by decide +kernel
theorem d_MO_rings_119 : decode s_MO_rings.2.1 119 = .ok (.ifCond .eq 25, 3) := by decide +kernel
theorem d_MO_rings_122 : decode s_MO_rings.2.1 122 = .ok (.aload_n 0, 1) := by decide +kernel
theorem d_MO_rings_123 : decode s_MO_rings.2.1 123 = .ok (.getfield 154, 3) := by decide +kernel
theorem d_MO_rings_126 : decode s_MO_rings.2.1 126 = .ok (.iload_n 2, 1) := by decide +kernel
theorem d_MO_rings_127 : decode s_MO_rings.2.1 127 = .ok (.iaload, 1) := by decide +kernel
theorem d_MO_rings_128 : decode s_MO_rings.2.1 128 = .ok (.aload_n 0, 1) := by decide +kernel
theorem d_MO_rings_129 : decode s_MO_rings.2.1 129 = .ok (.getfield 157, 3) := by decide +kernel
theorem d_MO_rings_132 : decode s_MO_rings.2.1 132 = .ok (.iload_n 2, 1) := by decide +kernel
theorem d_MO_rings_133 : decode s_MO_rings.2.1 133 = .ok (.iaload, 1) := by decide +kernel
theorem d_MO_rings_134 : decode s_MO_rings.2.1 134 = .ok (.iconst (-1), 1) := by decide +kernel
theorem d_MO_rings_135 : decode s_MO_rings.2.1 135 = .ok (.ixor, 1) := by decide +kernel
theorem d_MO_rings_136 : decode s_MO_rings.2.1 136 = .ok (.iand, 1) := by decide +kernel
theorem d_MO_rings_137 : decode s_MO_rings.2.1 137 = .ok (.ifCond .ne 7, 3) := by decide +kernel
theorem d_MO_rings_140 : decode s_MO_rings.2.1 140 = .ok (.iconst 1, 1) := by decide +kernel
theorem d_MO_rings_141 : decode s_MO_rings.2.1 141 = .ok (.goto 4, 3) := by decide +kernel
theorem d_MO_rings_144 : decode s_MO_rings.2.1 144 = .ok (.iconst 0, 1) := by decide +kernel
theorem d_MO_rings_145 : decode s_MO_rings.2.1 145 = .ok (.bastore, 1) := by decide +kernel
theorem d_MO_rings_146 : decode s_MO_rings.2.1 146 = .ok (.iinc 1 1, 3) := by decide +kernel
theorem d_MO_rings_149 : decode s_MO_rings.2.1 149 = .ok (.goto (-65), 3) := by decide +kernel
theorem d_MO_rings_152 : decode s_MO_rings.2.1 152 = .ok (.return_, 1) := by decide +kernel
theorem d_MO_looks_0 : decode s_MO_looks.2.1 0 = .ok (.aload_n 0, 1) := by decide +kernel
theorem d_MO_looks_1 : decode s_MO_looks.2.1 1 = .ok (.getfield 412, 3) := by decide +kernel
theorem d_MO_looks_4 : decode s_MO_looks.2.1 4 = .ok (.ifCond .eq 4, 3) := by decide +kernel
theorem d_MO_looks_7 : decode s_MO_looks.2.1 7 = .ok (.return_, 1) := by decide +kernel
theorem d_MO_looks_8 : decode s_MO_looks.2.1 8 = .ok (.aload_n 0, 1) := by decide +kernel
theorem d_MO_looks_9 : decode s_MO_looks.2.1 9 = .ok (.iconst 1, 1) := by decide +kernel
theorem d_MO_looks_10 : decode s_MO_looks.2.1 10 = .ok (.putfield 412, 3) := by decide +kernel
theorem d_MO_looks_13 : decode s_MO_looks.2.1 13 = .ok (.iconst 0, 1) := by decide +kernel
theorem d_MO_looks_14 : decode s_MO_looks.2.1 14 = .ok (.istore_n 1, 1) := by decide +kernel
theorem d_MO_looks_15 : decode s_MO_looks.2.1 15 = .ok (.iload_n 1, 1) := by decide +kernel
theorem d_MO_looks_16 : decode s_MO_looks.2.1 16 = .ok (.aload_n 0, 1) := by decide +kernel
theorem d_MO_looks_17 : decode s_MO_looks.2.1 17 = .ok (.invokevirtual 442, 3) := by decide +kernel
theorem d_MO_looks_20 : decode s_MO_looks.2.1 20 = .ok (.if_icmp .ge 19, 3) := by decide +kernel
theorem d_MO_looks_23 : decode s_MO_looks.2.1 23 = .ok (.aload_n 0, 1) := by decide +kernel
theorem d_MO_looks_24 : decode s_MO_looks.2.1 24 = .ok (.iload_n 1, 1) := by decide +kernel
theorem d_MO_looks_25 : decode s_MO_looks.2.1 25 = .ok (.iconst 4, 1) := by decide +kernel
theorem d_MO_looks_26 : decode s_MO_looks.2.1 26 = .ok (.idiv, 1) := by decide +kernel
theorem d_MO_looks_27 : decode s_MO_looks.2.1 27 = .ok (.iload_n 1, 1) := by decide +kernel
theorem d_MO_looks_28 : decode s_MO_looks.2.1 28 = .ok (.iconst 4, 1) := by decide +kernel
theorem d_MO_looks_29 : decode s_MO_looks.2.1 29 = .ok (.irem, 1) := by decide +kernel
theorem d_MO_looks_30 : decode s_MO_looks.2.1 30 = .ok (.invokevirtual 449, 3) := by decide +kernel
theorem d_MO_looks_33 : decode s_MO_looks.2.1 33 = .ok (.iinc 1 1, 3) := by decide +kernel
theorem d_MO_looks_36 : decode s_MO_looks.2.1 36 = .ok (.goto (-21), 3) := by decide +kernel
theorem d_MO_looks_39 : decode s_MO_looks.2.1 39 = .ok (.aload_n 0, 1) := by decide +kernel
theorem d_MO_looks_40 : decode s_MO_looks.2.1 40 = .ok (.getfield 81, 3) := by decide +kernel
theorem d_MO_looks_43 : decode s_MO_looks.2.1 43 = .ok (.bipush 7, 2) := by decide +kernel
theorem d_MO_looks_45 : decode s_MO_looks.2.1 45 = .ok (.iaload, 1) := by decide +kernel
theorem d_MO_looks_46 : decode s_MO_looks.2.1 46 = .ok (.istore_n 1, 1) := by decide +kernel
theorem d_MO_looks_47 : decode s_MO_looks.2.1 47 = .ok (.iconst 0, 1) := by decide +kernel
theorem d_MO_looks_48 : decode s_MO_looks.2.1 48 = .ok (.istore_n 2, 1) := by decide +kernel
theorem d_MO_looks_49 : decode s_MO_looks.2.1 49 = .ok (.iload_n 2, 1) := by decide +kernel
theorem d_MO_looks_50 : decode s_MO_looks.2.1 50 = .ok (.aload_n 0, 1) := by decide +kernel
theorem d_MO_looks_51 : decode s_MO_looks.2.1 51 = .ok (.invokevirtual 442, 3) := by decide +kernel
theorem d_MO_looks_54 : decode s_MO_looks.2.1 54 = .ok (.if_icmp .ge 60, 3) := by decide +kernel
theorem d_MO_looks_57 : decode s_MO_looks.2.1 57 = .ok (.aload_n 0, 1) := by decide +kernel
theorem d_MO_looks_58 : decode s_MO_looks.2.1 58 = .ok (.getfield 120, 3) := by decide +kernel
theorem d_MO_looks_61 : decode s_MO_looks.2.1 61 = .ok (.iload_n 2, 1) := by decide +kernel
theorem d_MO_looks_62 : decode s_MO_looks.2.1 62 = .ok (.aload_n 0, 1) := by decide +kernel
theorem d_MO_looks_63 : decode s_MO_looks.2.1 63 = .ok (.getfield 114, 3) := by decide +kernel
theorem d_MO_looks_66 : decode s_MO_looks.2.1 66 = .ok (.iload_n 2, 1) := by decide +kernel
theorem d_MO_looks_67 : decode s_MO_looks.2.1 67 = .ok (.iaload, 1) := by decide +kernel
theorem d_MO_looks_68 : decode s_MO_looks.2.1 68 = .ok (.iconst (-1), 1) := by decide +kernel
theorem d_MO_looks_69 : decode s_MO_looks.2.1 69 = .ok (.if_icmp .eq 7, 3) := by decide +kernel
theorem d_MO_looks_72 : decode s_MO_looks.2.1 72 = .ok (.iconst 1, 1) := by decide +kernel
theorem d_MO_looks_73 : decode s_MO_looks.2.1 73 = .ok (.goto 4, 3) := by decide +kernel
theorem d_MO_looks_76 : decode s_MO_looks.2.1 76 = .ok (.iconst 0, 1) := by decide +kernel
theorem d_MO_looks_77 : decode s_MO_looks.2.1 77 = .ok (.bastore, 1) := by decide +kernel
theorem d_MO_looks_78 : decode s_MO_looks.2.1 78 = .ok (.aload_n 0, 1) := by decide +kernel
theorem d_MO_looks_79 : decode s_MO_looks.2.1 79 = .ok (.getfield 124, 3) := by decide +kernel
theorem d_MO_looks_82 : decode s_MO_looks.2.1 82 = .ok (.iload_n 2, 1) := by decide +kernel
theorem d_MO_looks_83 : decode s_MO_looks.2.1 83 = .ok (.aload_n 0, 1) := by decide +kernel
theorem d_MO_looks_84 : decode s_MO_looks.2.1 84 = .ok (.getfield 120, 3) := by decide +kernel
theorem d_MO_looks_87 : decode s_MO_looks.2.1 87 = .ok (.iload_n 2, 1) := by decide +kernel
theorem d_MO_looks_88 : decode s_MO_looks.2.1 88 = .ok (.baload, 1) := by decide +kernel
theorem d_MO_looks_89 : decode s_MO_looks.2.1 89 = .ok (.ifCond .eq 17, 3) := by decide +kernel
theorem d_MO_looks_92 : decode s_MO_looks.2.1 92 = .ok (.aload_n 0, 1) := by decide +kernel
theorem d_MO_looks_93 : decode s_MO_looks.2.1 93 = .ok (.getfield 114, 3) := by decide +kernel
theorem d_MO_looks_96 : decode s_MO_looks.2.1 96 = .ok (.iload_n 2, 1) := by decide +kernel
theorem d_MO_looks_97 : decode s_MO_looks.2.1 97 = .ok (.iaload, 1) := by decide +kernel
theorem d_MO_looks_98 : decode s_MO_looks.2.1 98 = .ok (.iload_n 1, 1) := by decide +kernel
theorem d_MO_looks_99 : decode s_MO_looks.2.1 99 = .ok (.if_icmp .ne 7, 3) := by decide +kernel
theorem d_MO_looks_102 : decode s_MO_looks.2.1 102 = .ok (.iconst 1, 1) := by decide +kernel
theorem d_MO_looks_103 : decode s_MO_looks.2.1 103 = .ok (.goto 4, 3) := by decide +kernel
theorem d_MO_looks_106 : decode s_MO_looks.2.1 106 = .ok (.iconst 0, 1) := by decide +kernel
theorem d_MO_looks_107 : decode s_MO_looks.2.1 107 = .ok (.bastore, 1) := by decide +kernel
theorem d_MO_looks_108 : decode s_MO_looks.2.1 108 = .ok (.iinc 2 1, 3) := by decide +kernel
theorem d_MO_looks_111 : decode s_MO_looks.2.1 111 = .ok (.goto (-62), 3) := by decide +kernel
theorem d_MO_looks_114 : decode s_MO_looks.2.1 114 = .ok (.aload_n 0, 1) := by decide +kernel
theorem d_MO_looks_115 : decode s_MO_looks.2.1 115 = .ok (.aload_n 0, 1) := by decide +kernel
theorem d_MO_looks_116 : decode s_MO_looks.2.1 116 = .ok (.getfield 124, 3) := by decide +kernel
theorem d_MO_looks_119 : decode s_MO_looks.2.1 119 = .ok (.invokevirtual 452, 3) := by decide +kernel
theorem d_MO_looks_122 : decode s_MO_looks.2.1 122 = .ok (.iconst 0, 1) := by decide +kernel
theorem d_MO_looks_123 : decode s_MO_looks.2.1 123 = .ok (.istore_n 2, 1) := by decide +kernel
theorem d_MO_looks_124 : decode s_MO_looks.2.1 124 = .ok (.iload_n 2, 1) := by decide +kernel
theorem d_MO_looks_125 : decode s_MO_looks.2.1 125 = .ok (.aload_n 0, 1) := by decide +kernel
theorem d_MO_looks_126 : decode s_MO_looks.2.1 126 = .ok (.invokevirtual 442, 3) := by decide +kernel
theorem d_MO_looks_129 : decode s_MO_looks.2.1 129 = .ok (.if_icmp .ge 47, 3) := by decide +kernel
theorem d_MO_looks_132 : decode s_MO_looks.2.1 132 = .ok (.aload_n 0, 1) := by decide +kernel
theorem d_MO_looks_133 : decode s_MO_looks.2.1 133 = .ok (.getfield 120, 3) := by decide +kernel
theorem d_MO_looks_136 : decode s_MO_looks.2.1 136 = .ok (.iload_n 2, 1) := by decide +kernel
theorem d_MO_looks_137 : decode s_MO_looks.2.1 137 = .ok (.aload_n 0, 1) := by decide +kernel
theorem d_MO_looks_138 : decode s_MO_looks.2.1 138 = .ok (.getfield 114, 3) := by decide +kernel
theorem d_MO_looks_141 : decode s_MO_looks.2.1 141 = .ok (.iload_n 2, 1) := by decide +kernel
theorem d_MO_looks_142 : decode s_MO_looks.2.1 142 = .ok (.iaload, 1) := by decide +kernel
theorem d_MO_looks_143 : decode s_MO_looks.2.1 143 = .ok (.iconst (-1), 1) := by decide +kernel
theorem d_MO_looks_144 : decode s_MO_looks.2.1 144 = .ok (.if_icmp .eq 17, 3) := by decide +kernel
theorem d_MO_looks_147 : decode s_MO_looks.2.1 147 = .ok (.aload_n 0, 1) := by decide +kernel
theorem d_MO_looks_148 : decode s_MO_looks.2.1 148 = .ok (.getfield 114, 3) := by decide +kernel
theorem d_MO_looks_151 : decode s_MO_looks.2.1 151 = .ok (.iload_n 2, 1) := by decide +kernel
theorem d_MO_looks_152 : decode s_MO_looks.2.1 152 = .ok (.iaload, 1) := by decide +kernel
theorem d_MO_looks_153 : decode s_MO_looks.2.1 153 = .ok (.iload_n 1, 1) := by decide +kernel
theorem d_MO_looks_154 : decode s_MO_looks.2.1 154 = .ok (.if_icmp .eq 7, 3) := by decide +kernel
theorem d_MO_looks_157 : decode s_MO_looks.2.1 157 = .ok (.iconst 1, 1) := by decide +kernel
theorem d_MO_looks_158 : decode s_MO_looks.2.1 158 = .ok (.goto 4, 3) := by decide +kernel
theorem d_MO_looks_161 : decode s_MO_looks.2.1 161 = .ok (.iconst 0, 1) := by decide +kernel
theorem d_MO_looks_162 : decode s_MO_looks.2.1 162 = .ok (.bastore, 1) := by decide +kernel
theorem d_MO_looks_163 : decode s_MO_looks.2.1 163 = .ok (.aload_n 0, 1) := by decide +kernel
theorem d_MO_looks_164 : decode s_MO_looks.2.1 164 = .ok (.getfield 127, 3) := by decide +kernel
theorem d_MO_looks_167 : decode s_MO_looks.2.1 167 = .ok (.iload_n 2, 1) := by decide +kernel
theorem d_MO_looks_168 : decode s_MO_looks.2.1 168 = .ok (.iconst 0, 1) := by decide +kernel
theorem d_MO_looks_169 : decode s_MO_looks.2.1 169 = .ok (.bastore, 1) := by decide +kernel
theorem d_MO_looks_170 : decode s_MO_looks.2.1 170 = .ok (.iinc 2 1, 3) := by decide +kernel
theorem d_MO_looks_173 : decode s_MO_looks.2.1 173 = .ok (.goto (-49), 3) := by decide +kernel
theorem d_MO_looks_176 : decode s_MO_looks.2.1 176 = .ok (.aload_n 0, 1) := by decide +kernel
theorem d_MO_looks_177 : decode s_MO_looks.2.1 177 = .ok (.aload_n 0, 1) := by decide +kernel
theorem d_MO_looks_178 : decode s_MO_looks.2.1 178 = .ok (.getfield 111, 3) := by decide +kernel
theorem d_MO_looks_181 : decode s_MO_looks.2.1 181 = .ok (.aload_n 0, 1) := by decide +kernel
theorem d_MO_looks_182 : decode s_MO_looks.2.1 182 = .ok (.invokevirtual 442, 3) := by decide +kernel
theorem d_MO_looks_185 : decode s_MO_looks.2.1 185 = .ok (.invokevirtual 456, 3) := by decide +kernel
theorem d_MO_looks_188 : decode s_MO_looks.2.1 188 = .ok (.aload_n 0, 1) := by decide +kernel
theorem d_MO_looks_189 : decode s_MO_looks.2.1 189 = .ok (.invokevirtual 460, 3) := by decide +kernel
theorem d_MO_looks_192 : decode s_MO_looks.2.1 192 = .ok (.aload_n 0, 1) := by decide +kernel
theorem d_MO_looks_193 : decode s_MO_looks.2.1 193 = .ok (.aload_n 0, 1) := by decide +kernel
theorem d_MO_looks_194 : decode s_MO_looks.2.1 194 = .ok (.getfield 127, 3) := by decide +kernel
theorem d_MO_looks_197 : decode s_MO_looks.2.1 197 = .ok (.invokevirtual 452, 3) := by decide +kernel
theorem d_MO_looks_200 : decode s_MO_looks.2.1 200 = .ok (.return_, 1) := by decide +kernel
theorem d_MO_nodeOf_0 : decode s_MO_nodeOf.2.1 0 = .ok (.aload_n 0, 1) := by decide +kernel
theorem d_MO_nodeOf_1 : decode s_MO_nodeOf.2.1 1 = .ok (.aload_n 0, 1) := by decide +kernel
theorem d_MO_nodeOf_2 : decode s_MO_nodeOf.2.1 2 = .ok (.getfield 96, 3) := by decide +kernel
theorem d_MO_nodeOf_5 : decode s_MO_nodeOf.2.1 5 = .ok (.iload_n 1, 1) := by decide +kernel
theorem d_MO_nodeOf_6 : decode s_MO_nodeOf.2.1 6 = .ok (.laload, 1) := by decide +kernel
theorem d_MO_nodeOf_7 : decode s_MO_nodeOf.2.1 7 = .ok (.invokevirtual 415, 3) := by decide +kernel
theorem d_MO_nodeOf_10 : decode s_MO_nodeOf.2.1 10 = .ok (.iconst 4, 1) := by decide +kernel
theorem d_MO_nodeOf_11 : decode s_MO_nodeOf.2.1 11 = .ok (.iload_n 1, 1) := by decide +kernel
theorem d_MO_nodeOf_12 : decode s_MO_nodeOf.2.1 12 = .ok (.imul, 1) := by decide +kernel
theorem d_MO_nodeOf_13 : decode s_MO_nodeOf.2.1 13 = .ok (.aload_n 0, 1) := by decide +kernel
theorem d_MO_nodeOf_14 : decode s_MO_nodeOf.2.1 14 = .ok (.getfield 87, 3) := by decide +kernel
theorem d_MO_nodeOf_17 : decode s_MO_nodeOf.2.1 17 = .ok (.aload_n 0, 1) := by decide +kernel
theorem d_MO_nodeOf_18 : decode s_MO_nodeOf.2.1 18 = .ok (.getfield 87, 3) := by decide +kernel
theorem d_MO_nodeOf_21 : decode s_MO_nodeOf.2.1 21 = .ok (.iload_n 2, 1) := by decide +kernel
theorem d_MO_nodeOf_22 : decode s_MO_nodeOf.2.1 22 = .ok (.iaload, 1) := by decide +kernel
theorem d_MO_nodeOf_23 : decode s_MO_nodeOf.2.1 23 = .ok (.invokestatic 438, 3) := by decide +kernel
theorem d_MO_nodeOf_26 : decode s_MO_nodeOf.2.1 26 = .ok (.iadd, 1) := by decide +kernel
theorem d_MO_nodeOf_27 : decode s_MO_nodeOf.2.1 27 = .ok (.ireturn, 1) := by decide +kernel
theorem d_MO_isStarving_0 : decode s_MO_isStarving.2.1 0 = .ok (.aload_n 0, 1) := by decide +kernel
theorem d_MO_isStarving_1 : decode s_MO_isStarving.2.1 1 = .ok (.getfield 81, 3) := by decide +kernel
theorem d_MO_isStarving_4 : decode s_MO_isStarving.2.1 4 = .ok (.bipush 6, 2) := by decide +kernel
theorem d_MO_isStarving_6 : decode s_MO_isStarving.2.1 6 = .ok (.iaload, 1) := by decide +kernel
theorem d_MO_isStarving_7 : decode s_MO_isStarving.2.1 7 = .ok (.iconst (-1), 1) := by decide +kernel
theorem d_MO_isStarving_8 : decode s_MO_isStarving.2.1 8 = .ok (.if_icmp .ne 5, 3) := by decide +kernel
theorem d_MO_isStarving_11 : decode s_MO_isStarving.2.1 11 = .ok (.iconst 0, 1) := by decide +kernel
theorem d_MO_isStarving_12 : decode s_MO_isStarving.2.1 12 = .ok (.ireturn, 1) := by decide +kernel
theorem d_MO_isStarving_13 : decode s_MO_isStarving.2.1 13 = .ok (.aload_n 0, 1) := by decide +kernel
theorem d_MO_isStarving_14 : decode s_MO_isStarving.2.1 14 = .ok (.iload_n 1, 1) := by decide +kernel
theorem d_MO_isStarving_15 : decode s_MO_isStarving.2.1 15 = .ok (.iload_n 2, 1) := by decide +kernel
theorem d_MO_isStarving_16 : decode s_MO_isStarving.2.1 16 = .ok (.invokevirtual 487, 3) := by decide +kernel
theorem d_MO_isStarving_19 : decode s_MO_isStarving.2.1 19 = .ok (.istore_n 3, 1) := by decide +kernel
theorem d_MO_isStarving_20 : decode s_MO_isStarving.2.1 20 = .ok (.aload_n 0, 1) := by decide +kernel
theorem d_MO_isStarving_21 : decode s_MO_isStarving.2.1 21 = .ok (.getfield 114, 3) := by decide +kernel
theorem d_MO_isStarving_24 : decode s_MO_isStarving.2.1 24 = .ok (.iload_n 3, 1) := by decide +kernel
theorem d_MO_isStarving_25 : decode s_MO_isStarving.2.1 25 = .ok (.iaload, 1) := by decide +kernel
theorem d_MO_isStarving_26 : decode s_MO_isStarving.2.1 26 = .ok (.aload_n 0, 1) := by decide +kernel
theorem d_MO_isStarving_27 : decode s_MO_isStarving.2.1 27 = .ok (.getfield 81, 3) := by decide +kernel
theorem d_MO_isStarving_30 : decode s_MO_isStarving.2.1 30 = .ok (.bipush 6, 2) := by decide +kernel
theorem d_MO_isStarving_32 : decode s_MO_isStarving.2.1 32 = .ok (.iaload, 1) := by decide +kernel
theorem d_MO_isStarving_33 : decode s_MO_isStarving.2.1 33 = .ok (.if_icmp .ne 16, 3) := by decide +kernel
theorem d_MO_isStarving_36 : decode s_MO_isStarving.2.1 36 = .ok (.aload_n 0, 1) := by decide +kernel
theorem d_MO_isStarving_37 : decode s_MO_isStarving.2.1 37 = .ok (.getfield 124, 3) := by decide +kernel
theorem d_MO_isStarving_40 : decode s_MO_isStarving.2.1 40 = .ok (.iload_n 3, 1) := by decide +kernel
theorem d_MO_isStarving_41 : decode s_MO_isStarving.2.1 41 = .ok (.baload, 1) := by decide +kernel
theorem d_MO_isStarving_42 : decode s_MO_isStarving.2.1 42 = .ok (.ifCond .ne 7, 3) := by decide +kernel
theorem d_MO_isStarving_45 : decode s_MO_isStarving.2.1 45 = .ok (.iconst 1, 1) := by decide +kernel
theorem d_MO_isStarving_46 : decode s_MO_isStarving.2.1 46 = .ok (.goto 4, 3) := by decide +kernel
theorem d_MO_isStarving_49 : decode s_MO_isStarving.2.1 49 = .ok (.iconst 0, 1) := by decide +kernel
theorem d_MO_isStarving_50 : decode s_MO_isStarving.2.1 50 = .ok (.ireturn, 1) := by decide +kernel
theorem d_MO_isLeftOut_0 : decode s_MO_isLeftOut.2.1 0 = .ok (.aload_n 0, 1) := by decide +kernel
theorem d_MO_isLeftOut_1 : decode s_MO_isLeftOut.2.1 1 = .ok (.getfield 81, 3) := by decide +kernel
theorem d_MO_isLeftOut_4 : decode s_MO_isLeftOut.2.1 4 = .ok (.bipush 6, 2) := by decide +kernel
theorem d_MO_isLeftOut_6 : decode s_MO_isLeftOut.2.1 6 = .ok (.iaload, 1) := by decide +kernel
theorem d_MO_isLeftOut_7 : decode s_MO_isLeftOut.2.1 7 = .ok (.iconst (-1), 1) := by decide +kernel
theorem d_MO_isLeftOut_8 : decode s_MO_isLeftOut.2.1 8 = .ok (.if_icmp .ne 5, 3) := by decide +kernel
theorem d_MO_isLeftOut_11 : decode s_MO_isLeftOut.2.1 11 = .ok (.iconst 0, 1) := by decide +kernel
theorem d_MO_isLeftOut_12 : decode s_MO_isLeftOut.2.1 12 = .ok (.ireturn, 1) := by decide +kernel
theorem d_MO_isLeftOut_13 : decode s_MO_isLeftOut.2.1 13 = .ok (.aload_n 0, 1) := by decide +kernel
theorem d_MO_isLeftOut_14 : decode s_MO_isLeftOut.2.1 14 = .ok (.iload_n 1, 1) := by decide +kernel
theorem d_MO_isLeftOut_15 : decode s_MO_isLeftOut.2.1 15 = .ok (.iload_n 2, 1) := by decide +kernel
theorem d_MO_isLeftOut_16 : decode s_MO_isLeftOut.2.1 16 = .ok (.invokevirtual 487, 3) := by decide +kernel
theorem d_MO_isLeftOut_19 : decode s_MO_isLeftOut.2.1 19 = .ok (.istore_n 3, 1) := by decide +kernel
theorem d_MO_isLeftOut_20 : decode s_MO_isLeftOut.2.1 20 = .ok (.aload_n 0, 1) := by decide +kernel
theorem d_MO_isLeftOut_21 : decode s_MO_isLeftOut.2.1 21 = .ok (.getfield 114, 3) := by decide +kernel
theorem d_MO_isLeftOut_24 : decode s_MO_isLeftOut.2.1 24 = .ok (.iload_n 3, 1) := by decide +kernel
theorem d_MO_isLeftOut_25 : decode s_MO_isLeftOut.2.1 25 = .ok (.iaload, 1) := by decide +kernel
theorem d_MO_isLeftOut_26 : decode s_MO_isLeftOut.2.1 26 = .ok (.aload_n 0, 1) := by decide +kernel
theorem d_MO_isLeftOut_27 : decode s_MO_isLeftOut.2.1 27 = .ok (.getfield 81, 3) := by decide +kernel
theorem d_MO_isLeftOut_30 : decode s_MO_isLeftOut.2.1 30 = .ok (.bipush 6, 2) := by decide +kernel
theorem d_MO_isLeftOut_32 : decode s_MO_isLeftOut.2.1 32 = .ok (.iaload, 1) := by decide +kernel
theorem d_MO_isLeftOut_33 : decode s_MO_isLeftOut.2.1 33 = .ok (.if_icmp .ne 16, 3) := by decide +kernel
theorem d_MO_isLeftOut_36 : decode s_MO_isLeftOut.2.1 36 = .ok (.aload_n 0, 1) := by decide +kernel
theorem d_MO_isLeftOut_37 : decode s_MO_isLeftOut.2.1 37 = .ok (.getfield 127, 3) := by decide +kernel
theorem d_MO_isLeftOut_40 : decode s_MO_isLeftOut.2.1 40 = .ok (.iload_n 3, 1) := by decide +kernel
theorem d_MO_isLeftOut_41 : decode s_MO_isLeftOut.2.1 41 = .ok (.baload, 1) := by decide +kernel
theorem d_MO_isLeftOut_42 : decode s_MO_isLeftOut.2.1 42 = .ok (.ifCond .eq 7, 3) := by decide +kernel
theorem d_MO_isLeftOut_45 : decode s_MO_isLeftOut.2.1 45 = .ok (.iconst 1, 1) := by decide +kernel
theorem d_MO_isLeftOut_46 : decode s_MO_isLeftOut.2.1 46 = .ok (.goto 4, 3) := by decide +kernel
theorem d_MO_isLeftOut_49 : decode s_MO_isLeftOut.2.1 49 = .ok (.iconst 0, 1) := by decide +kernel
theorem d_MO_isLeftOut_50 : decode s_MO_isLeftOut.2.1 50 = .ok (.ireturn, 1) := by decide +kernel
theorem d_MO_agentHas_0 : decode s_MO_agentHas.2.1 0 = .ok (.aload_n 0, 1) := by decide +kernel
theorem d_MO_agentHas_1 : decode s_MO_agentHas.2.1 1 = .ok (.getfield 87, 3) := by decide +kernel
theorem d_MO_agentHas_4 : decode s_MO_agentHas.2.1 4 = .ok (.iload_n 1, 1) := by decide +kernel
theorem d_MO_agentHas_5 : decode s_MO_agentHas.2.1 5 = .ok (.iaload, 1) := by decide +kernel
theorem d_MO_agentHas_6 : decode s_MO_agentHas.2.1 6 = .ok (.istore_n 3, 1) := by decide +kernel
theorem d_MO_agentHas_7 : decode s_MO_agentHas.2.1 7 = .ok (.iload_n 2, 1) := by decide +kernel
theorem d_MO_agentHas_8 : decode s_MO_agentHas.2.1 8 = .ok (.tableswitch 47 0 2 #[28, 33, 40], 28) := by decide +kernel
theorem d_MO_agentHas_36 : decode s_MO_agentHas.2.1 36 = .ok (.iload_n 3, 1) := by decide +kernel
theorem d_MO_agentHas_37 : decode s_MO_agentHas.2.1 37 = .ok (.invokestatic 346, 3) := by decide +kernel
theorem d_MO_agentHas_40 : decode s_MO_agentHas.2.1 40 = .ok (.ireturn, 1) := by decide +kernel
theorem d_MO_agentHas_41 : decode s_MO_agentHas.2.1 41 = .ok (.iload_n 3, 1) := by decide +kernel
theorem d_MO_agentHas_42 : decode s_MO_agentHas.2.1 42 = .ok (.invokestatic 340, 3) := by decide +kernel
theorem d_MO_agentHas_45 : decode s_MO_agentHas.2.1 45 = .ok (.iconst 1, 1) := by decide +kernel
theorem d_MO_agentHas_46 : decode s_MO_agentHas.2.1 46 = .ok (.isub, 1) := by decide +kernel
theorem d_MO_agentHas_47 : decode s_MO_agentHas.2.1 47 = .ok (.ireturn, 1) := by decide +kernel
theorem d_MO_agentHas_48 : decode s_MO_agentHas.2.1 48 = .ok (.iload_n 3, 1) := by decide +kernel
theorem d_MO_agentHas_49 : decode s_MO_agentHas.2.1 49 = .ok (.invokestatic 343, 3) := by decide +kernel
theorem d_MO_agentHas_52 : decode s_MO_agentHas.2.1 52 = .ok (.iconst 1, 1) := by decide +kernel
theorem d_MO_agentHas_53 : decode s_MO_agentHas.2.1 53 = .ok (.isub, 1) := by decide +kernel
theorem d_MO_agentHas_54 : decode s_MO_agentHas.2.1 54 = .ok (.ireturn, 1) := by decide +kernel
theorem d_MO_agentHas_55 : decode s_MO_agentHas.2.1 55 = .ok (.iload_n 3, 1) := by decide +kernel
theorem d_MO_agentHas_56 : decode s_MO_agentHas.2.1 56 = .ok (.invokestatic 355, 3) := by decide +kernel
theorem d_MO_agentHas_59 : decode s_MO_agentHas.2.1 59 = .ok (.iconst 1, 1) := by decide +kernel
theorem d_MO_agentHas_60 : decode s_MO_agentHas.2.1 60 = .ok (.isub, 1) := by decide +kernel
theorem d_MO_agentHas_61 : decode s_MO_agentHas.2.1 61 = .ok (.ireturn, 1) := by decide +kernel
theorem d_MO_agent_0 : decode s_MO_agent.2.1 0 = .ok (.aload_n 0, 1) := by decide +kernel
theorem d_MO_agent_1 : decode s_MO_agent.2.1 1 = .ok (.iload_n 1, 1) := by decide +kernel
theorem d_MO_agent_2 : decode s_MO_agent.2.1 2 = .ok (.invokevirtual 526, 3) := by decide +kernel
theorem d_MO_agent_5 : decode s_MO_agent.2.1 5 = .ok (.ifCond .eq 31, 3) := by decide +kernel
theorem d_MO_agent_8 : decode s_MO_agent.2.1 8 = .ok (.iload_n 2, 1) := by decide +kernel
theorem d_MO_agent_9 : decode s_MO_agent.2.1 9 = .ok (.i2l, 1) := by decide +kernel
theorem d_MO_agent_10 : decode s_MO_agent.2.1 10 = .ok (.lconst 0, 1) := by decide +kernel
theorem d_MO_agent_11 : decode s_MO_agent.2.1 11 = .ok (.aload_n 0, 1) := by decide +kernel
theorem d_MO_agent_12 : decode s_MO_agent.2.1 12 = .ok (.invokevirtual 358, 3) := by decide +kernel
theorem d_MO_agent_15 : decode s_MO_agent.2.1 15 = .ok (.iconst 1, 1) := by decide +kernel
theorem d_MO_agent_16 : decode s_MO_agent.2.1 16 = .ok (.isub, 1) := by decide +kernel
theorem d_MO_agent_17 : decode s_MO_agent.2.1 17 = .ok (.i2l, 1) := by decide +kernel
theorem d_MO_agent_18 : decode s_MO_agent.2.1 18 = .ok (.invokestatic 210, 3) := by decide +kernel
theorem d_MO_agent_21 : decode s_MO_agent.2.1 21 = .ok (.ifCond .eq 15, 3) := by decide +kernel
theorem d_MO_agent_24 : decode s_MO_agent.2.1 24 = .ok (.iload_n 3, 1) := by decide +kernel
theorem d_MO_agent_25 : decode s_MO_agent.2.1 25 = .ok (.i2l, 1) := by decide +kernel
theorem d_MO_agent_26 : decode s_MO_agent.2.1 26 = .ok (.lconst 0, 1) := by decide +kernel
theorem d_MO_agent_27 : decode s_MO_agent.2.1 27 = .ok (.ldc2_w 208, 3) := by decide +kernel
theorem d_MO_agent_30 : decode s_MO_agent.2.1 30 = .ok (.invokestatic 210, 3) := by decide +kernel
theorem d_MO_agent_33 : decode s_MO_agent.2.1 33 = .ok (.ifCond .ne 5, 3) := by decide +kernel
theorem d_MO_agent_36 : decode s_MO_agent.2.1 36 = .ok (.iconst (-1), 1) := by decide +kernel
theorem d_MO_agent_37 : decode s_MO_agent.2.1 37 = .ok (.ireturn, 1) := by decide +kernel
theorem d_MO_agent_38 : decode s_MO_agent.2.1 38 = .ok (.iload_n 3, 1) := by decide +kernel
theorem d_MO_agent_39 : decode s_MO_agent.2.1 39 = .ok (.iconst 3, 1) := by decide +kernel
theorem d_MO_agent_40 : decode s_MO_agent.2.1 40 = .ok (.if_icmp .le 39, 3) := by decide +kernel
theorem d_MO_agent_43 : decode s_MO_agent.2.1 43 = .ok (.aload_n 0, 1) := by decide +kernel
theorem d_MO_agent_44 : decode s_MO_agent.2.1 44 = .ok (.invokevirtual 496, 3) := by decide +kernel
theorem d_MO_agent_47 : decode s_MO_agent.2.1 47 = .ok (.iload_n 3, 1) := by decide +kernel
theorem d_MO_agent_48 : decode s_MO_agent.2.1 48 = .ok (.iconst 4, 1) := by decide +kernel
theorem d_MO_agent_49 : decode s_MO_agent.2.1 49 = .ok (.if_icmp .ne 15, 3) := by decide +kernel
theorem d_MO_agent_52 : decode s_MO_agent.2.1 52 = .ok (.aload_n 0, 1) := by decide +kernel
theorem d_MO_agent_53 : decode s_MO_agent.2.1 53 = .ok (.iload_n 1, 1) := by decide +kernel
theorem d_MO_agent_54 : decode s_MO_agent.2.1 54 = .ok (.iload_n 2, 1) := by decide +kernel
theorem d_MO_agent_55 : decode s_MO_agent.2.1 55 = .ok (.invokevirtual 490, 3) := by decide +kernel
theorem d_MO_agent_58 : decode s_MO_agent.2.1 58 = .ok (.ifCond .eq 19, 3) := by decide +kernel
theorem d_MO_agent_61 : decode s_MO_agent.2.1 61 = .ok (.goto 12, 3) := by decide +kernel
theorem d_MO_agent_64 : decode s_MO_agent.2.1 64 = .ok (.aload_n 0, 1) := by decide +kernel
theorem d_MO_agent_65 : decode s_MO_agent.2.1 65 = .ok (.iload_n 1, 1) := by decide +kernel
theorem d_MO_agent_66 : decode s_MO_agent.2.1 66 = .ok (.iload_n 2, 1) := by decide +kernel
theorem d_MO_agent_67 : decode s_MO_agent.2.1 67 = .ok (.invokevirtual 493, 3) := by decide +kernel
theorem d_MO_agent_70 : decode s_MO_agent.2.1 70 = .ok (.ifCond .eq 7, 3) := by decide +kernel
theorem d_MO_agent_73 : decode s_MO_agent.2.1 73 = .ok (.iconst 1, 1) := by decide +kernel
theorem d_MO_agent_74 : decode s_MO_agent.2.1 74 = .ok (.goto 4, 3) := by decide +kernel
theorem d_MO_agent_77 : decode s_MO_agent.2.1 77 = .ok (.iconst 0, 1) := by decide +kernel
theorem d_MO_agent_78 : decode s_MO_agent.2.1 78 = .ok (.ireturn, 1) := by decide +kernel
theorem d_MO_agent_79 : decode s_MO_agent.2.1 79 = .ok (.aload_n 0, 1) := by decide +kernel
theorem d_MO_agent_80 : decode s_MO_agent.2.1 80 = .ok (.aload_n 0, 1) := by decide +kernel
theorem d_MO_agent_81 : decode s_MO_agent.2.1 81 = .ok (.getfield 96, 3) := by decide +kernel
theorem d_MO_agent_84 : decode s_MO_agent.2.1 84 = .ok (.iload_n 1, 1) := by decide +kernel
theorem d_MO_agent_85 : decode s_MO_agent.2.1 85 = .ok (.laload, 1) := by decide +kernel
theorem d_MO_agent_86 : decode s_MO_agent.2.1 86 = .ok (.invokevirtual 415, 3) := by decide +kernel
theorem d_MO_agent_89 : decode s_MO_agent.2.1 89 = .ok (.aload_n 0, 1) := by decide +kernel
theorem d_MO_agent_90 : decode s_MO_agent.2.1 90 = .ok (.iload_n 2, 1) := by decide +kernel
theorem d_MO_agent_91 : decode s_MO_agent.2.1 91 = .ok (.iload_n 3, 1) := by decide +kernel
theorem d_MO_agent_92 : decode s_MO_agent.2.1 92 = .ok (.invokevirtual 529, 3) := by decide +kernel
theorem d_MO_agent_95 : decode s_MO_agent.2.1 95 = .ok (.ireturn, 1) := by decide +kernel
theorem d_MO_isMove_0 : decode s_MO_isMove.2.1 0 = .ok (.iload_n 1, 1) := by decide +kernel
theorem d_MO_isMove_1 : decode s_MO_isMove.2.1 1 = .ok (.i2l, 1) := by decide +kernel
theorem d_MO_isMove_2 : decode s_MO_isMove.2.1 2 = .ok (.lconst 0, 1) := by decide +kernel
theorem d_MO_isMove_3 : decode s_MO_isMove.2.1 3 = .ok (.aload_n 0, 1) := by decide +kernel
theorem d_MO_isMove_4 : decode s_MO_isMove.2.1 4 = .ok (.invokevirtual 400, 3) := by decide +kernel
theorem d_MO_isMove_7 : decode s_MO_isMove.2.1 7 = .ok (.iconst 1, 1) := by decide +kernel
theorem d_MO_isMove_8 : decode s_MO_isMove.2.1 8 = .ok (.isub, 1) := by decide +kernel
theorem d_MO_isMove_9 : decode s_MO_isMove.2.1 9 = .ok (.i2l, 1) := by decide +kernel
theorem d_MO_isMove_10 : decode s_MO_isMove.2.1 10 = .ok (.invokestatic 210, 3) := by decide +kernel
theorem d_MO_isMove_13 : decode s_MO_isMove.2.1 13 = .ok (.ifCond .eq 23, 3) := by decide +kernel
theorem d_MO_isMove_16 : decode s_MO_isMove.2.1 16 = .ok (.iload_n 2, 1) := by decide +kernel
theorem d_MO_isMove_17 : decode s_MO_isMove.2.1 17 = .ok (.i2l, 1) := by decide +kernel
theorem d_MO_isMove_18 : decode s_MO_isMove.2.1 18 = .ok (.lconst 0, 1) := by decide +kernel
theorem d_MO_isMove_19 : decode s_MO_isMove.2.1 19 = .ok (.aload_n 0, 1) := by decide +kernel
theorem d_MO_isMove_20 : decode s_MO_isMove.2.1 20 = .ok (.invokevirtual 358, 3) := by decide +kernel
theorem d_MO_isMove_23 : decode s_MO_isMove.2.1 23 = .ok (.iconst 1, 1) := by decide +kernel
theorem d_MO_isMove_24 : decode s_MO_isMove.2.1 24 = .ok (.isub, 1) := by decide +kernel
theorem d_MO_isMove_25 : decode s_MO_isMove.2.1 25 = .ok (.i2l, 1) := by decide +kernel
theorem d_MO_isMove_26 : decode s_MO_isMove.2.1 26 = .ok (.invokestatic 210, 3) := by decide +kernel
theorem d_MO_isMove_29 : decode s_MO_isMove.2.1 29 = .ok (.ifCond .eq 7, 3) := by decide +kernel
theorem d_MO_isMove_32 : decode s_MO_isMove.2.1 32 = .ok (.iconst 1, 1) := by decide +kernel
theorem d_MO_isMove_33 : decode s_MO_isMove.2.1 33 = .ok (.goto 4, 3) := by decide +kernel
theorem d_MO_isMove_36 : decode s_MO_isMove.2.1 36 = .ok (.iconst 0, 1) := by decide +kernel
theorem d_MO_isMove_37 : decode s_MO_isMove.2.1 37 = .ok (.ireturn, 1) := by decide +kernel
theorem d_MO_leads_0 : decode s_MO_leads.2.1 0 = .ok (.aload_n 0, 1) := by decide +kernel
theorem d_MO_leads_1 : decode s_MO_leads.2.1 1 = .ok (.iload_n 1, 1) := by decide +kernel
theorem d_MO_leads_2 : decode s_MO_leads.2.1 2 = .ok (.invokevirtual 526, 3) := by decide +kernel
theorem d_MO_leads_5 : decode s_MO_leads.2.1 5 = .ok (.ifCond .eq 30, 3) := by decide +kernel
theorem d_MO_leads_8 : decode s_MO_leads.2.1 8 = .ok (.aload_n 0, 1) := by decide +kernel
theorem d_MO_leads_9 : decode s_MO_leads.2.1 9 = .ok (.iload_n 2, 1) := by decide +kernel
theorem d_MO_leads_10 : decode s_MO_leads.2.1 10 = .ok (.iload_n 3, 1) := by decide +kernel
theorem d_MO_leads_11 : decode s_MO_leads.2.1 11 = .ok (.invokevirtual 532, 3) := by decide +kernel
theorem d_MO_leads_14 : decode s_MO_leads.2.1 14 = .ok (.ifCond .eq 21, 3) := by decide +kernel
theorem d_MO_leads_17 : decode s_MO_leads.2.1 17 = .ok (.aload_n 0, 1) := by decide +kernel
theorem d_MO_leads_18 : decode s_MO_leads.2.1 18 = .ok (.getfield 107, 3) := by decide +kernel
theorem d_MO_leads_21 : decode s_MO_leads.2.1 21 = .ok (.bipush 64, 2) := by decide +kernel
theorem d_MO_leads_23 : decode s_MO_leads.2.1 23 = .ok (.iload_n 1, 1) := by decide +kernel
theorem d_MO_leads_24 : decode s_MO_leads.2.1 24 = .ok (.imul, 1) := by decide +kernel
theorem d_MO_leads_25 : decode s_MO_leads.2.1 25 = .ok (.iconst 4, 1) := by decide +kernel
theorem d_MO_leads_26 : decode s_MO_leads.2.1 26 = .ok (.iload_n 2, 1) := by decide +kernel
theorem d_MO_leads_27 : decode s_MO_leads.2.1 27 = .ok (.imul, 1) := by decide +kernel
theorem d_MO_leads_28 : decode s_MO_leads.2.1 28 = .ok (.iadd, 1) := by decide +kernel
theorem d_MO_leads_29 : decode s_MO_leads.2.1 29 = .ok (.iload_n 3, 1) := by decide +kernel
theorem d_MO_leads_30 : decode s_MO_leads.2.1 30 = .ok (.iadd, 1) := by decide +kernel
theorem d_MO_leads_31 : decode s_MO_leads.2.1 31 = .ok (.iaload, 1) := by decide +kernel
theorem d_MO_leads_32 : decode s_MO_leads.2.1 32 = .ok (.goto 4, 3) := by decide +kernel
theorem d_MO_leads_35 : decode s_MO_leads.2.1 35 = .ok (.iconst (-1), 1) := by decide +kernel
theorem d_MO_leads_36 : decode s_MO_leads.2.1 36 = .ok (.ireturn, 1) := by decide +kernel
theorem d_MO_measures_0 : decode s_MO_measures.2.1 0 = .ok (.iconst 0, 1) := by decide +kernel
theorem d_MO_measures_1 : decode s_MO_measures.2.1 1 = .ok (.istore_n 2, 1) := by decide +kernel
theorem d_MO_measures_2 : decode s_MO_measures.2.1 2 = .ok (.iload_n 2, 1) := by decide +kernel
theorem d_MO_measures_3 : decode s_MO_measures.2.1 3 = .ok (.aload_n 0, 1) := by decide +kernel
theorem d_MO_measures_4 : decode s_MO_measures.2.1 4 = .ok (.getfield 380, 3) := by decide +kernel
theorem d_MO_measures_7 : decode s_MO_measures.2.1 7 = .ok (.if_icmp .ge 27, 3) := by decide +kernel
theorem d_MO_measures_10 : decode s_MO_measures.2.1 10 = .ok (.aload_n 0, 1) := by decide +kernel
theorem d_MO_measures_11 : decode s_MO_measures.2.1 11 = .ok (.getfield 169, 3) := by decide +kernel
theorem d_MO_measures_14 : decode s_MO_measures.2.1 14 = .ok (.iload_n 2, 1) := by decide +kernel
theorem d_MO_measures_15 : decode s_MO_measures.2.1 15 = .ok (.iload_n 2, 1) := by decide +kernel
theorem d_MO_measures_16 : decode s_MO_measures.2.1 16 = .ok (.iload_n 1, 1) := by decide +kernel
theorem d_MO_measures_17 : decode s_MO_measures.2.1 17 = .ok (.if_icmp .ne 7, 3) := by decide +kernel
theorem d_MO_measures_20 : decode s_MO_measures.2.1 20 = .ok (.iconst 0, 1) := by decide +kernel
theorem d_MO_measures_21 : decode s_MO_measures.2.1 21 = .ok (.goto 6, 3) := by decide +kernel
theorem d_MO_measures_24 : decode s_MO_measures.2.1 24 = .ok (.ldc_w 535, 3) := by decide +kernel
theorem d_MO_measures_27 : decode s_MO_measures.2.1 27 = .ok (.iastore, 1) := by decide +kernel
theorem d_MO_measures_28 : decode s_MO_measures.2.1 28 = .ok (.iinc 2 1, 3) := by decide +kernel
theorem d_MO_measures_31 : decode s_MO_measures.2.1 31 = .ok (.goto (-29), 3) := by decide +kernel
theorem d_MO_measures_34 : decode s_MO_measures.2.1 34 = .ok (.iconst 1, 1) := by decide +kernel
theorem d_MO_measures_35 : decode s_MO_measures.2.1 35 = .ok (.istore_n 2, 1) := by decide +kernel
theorem d_MO_measures_36 : decode s_MO_measures.2.1 36 = .ok (.iload_n 2, 1) := by decide +kernel
theorem d_MO_measures_37 : decode s_MO_measures.2.1 37 = .ok (.ifCond .eq 108, 3) := by decide +kernel
theorem d_MO_measures_40 : decode s_MO_measures.2.1 40 = .ok (.iconst 0, 1) := by decide +kernel
theorem d_MO_measures_41 : decode s_MO_measures.2.1 41 = .ok (.istore_n 2, 1) := by decide +kernel
theorem d_MO_measures_42 : decode s_MO_measures.2.1 42 = .ok (.aload_n 0, 1) := by decide +kernel
theorem d_MO_measures_43 : decode s_MO_measures.2.1 43 = .ok (.getfield 380, 3) := by decide +kernel
theorem d_MO_measures_46 : decode s_MO_measures.2.1 46 = .ok (.iconst 1, 1) := by decide +kernel
theorem d_MO_measures_47 : decode s_MO_measures.2.1 47 = .ok (.isub, 1) := by decide +kernel
theorem d_MO_measures_48 : decode s_MO_measures.2.1 48 = .ok (.istore_n 3, 1) := by decide +kernel
theorem d_MO_measures_49 : decode s_MO_measures.2.1 49 = .ok (.iload_n 3, 1) := by decide +kernel
theorem d_MO_measures_50 : decode s_MO_measures.2.1 50 = .ok (.ifCond .lt 92, 3) := by decide +kernel
theorem d_MO_measures_53 : decode s_MO_measures.2.1 53 = .ok (.bipush 64, 2) := by decide +kernel
theorem d_MO_measures_55 : decode s_MO_measures.2.1 55 = .ok (.iload_n 3, 1) := by decide +kernel
theorem d_MO_measures_56 : decode s_MO_measures.2.1 56 = .ok (.imul, 1) := by decide +kernel
theorem d_MO_measures_57 : decode s_MO_measures.2.1 57 = .ok (.istore 4, 2) := by decide +kernel
theorem d_MO_measures_59 : decode s_MO_measures.2.1 59 = .ok (.iload 4, 2) := by decide +kernel
theorem d_MO_measures_61 : decode s_MO_measures.2.1 61 = .ok (.bipush 64, 2) := by decide +kernel
theorem d_MO_measures_63 : decode s_MO_measures.2.1 63 = .ok (.iload_n 3, 1) := by decide +kernel
theorem d_MO_measures_64 : decode s_MO_measures.2.1 64 = .ok (.imul, 1) := by decide +kernel
theorem d_MO_measures_65 : decode s_MO_measures.2.1 65 = .ok (.bipush 64, 2) := by decide +kernel
theorem d_MO_measures_67 : decode s_MO_measures.2.1 67 = .ok (.iadd, 1) := by decide +kernel
theorem d_MO_measures_68 : decode s_MO_measures.2.1 68 = .ok (.if_icmp .ge 68, 3) := by decide +kernel
theorem d_MO_measures_71 : decode s_MO_measures.2.1 71 = .ok (.aload_n 0, 1) := by decide +kernel
theorem d_MO_measures_72 : decode s_MO_measures.2.1 72 = .ok (.getfield 107, 3) := by decide +kernel
theorem d_MO_measures_75 : decode s_MO_measures.2.1 75 = .ok (.iload 4, 2) := by decide +kernel
theorem d_MO_measures_77 : decode s_MO_measures.2.1 77 = .ok (.iaload, 1) := by decide +kernel
theorem d_MO_measures_78 : decode s_MO_measures.2.1 78 = .ok (.iconst (-1), 1) := by decide +kernel
theorem d_MO_measures_79 : decode s_MO_measures.2.1 79 = .ok (.if_icmp .eq 51, 3) := by decide +kernel
theorem d_MO_measures_82 : decode s_MO_measures.2.1 82 = .ok (.aload_n 0, 1) := by decide +kernel
theorem d_MO_measures_83 : decode s_MO_measures.2.1 83 = .ok (.getfield 169, 3) := by decide +kernel
theorem d_MO_measures_86 : decode s_MO_measures.2.1 86 = .ok (.aload_n 0, 1) := by decide +kernel
theorem d_MO_measures_87 : decode s_MO_measures.2.1 87 = .ok (.getfield 107, 3) := by decide +kernel
theorem d_MO_measures_90 : decode s_MO_measures.2.1 90 = .ok (.iload 4, 2) := by decide +kernel
theorem d_MO_measures_92 : decode s_MO_measures.2.1 92 = .ok (.iaload, 1) := by decide +kernel
theorem d_MO_measures_93 : decode s_MO_measures.2.1 93 = .ok (.iaload, 1) := by decide +kernel
theorem d_MO_measures_94 : decode s_MO_measures.2.1 94 = .ok (.iconst 1, 1) := by decide +kernel
theorem d_MO_measures_95 : decode s_MO_measures.2.1 95 = .ok (.iadd, 1) := by decide +kernel
theorem d_MO_measures_96 : decode s_MO_measures.2.1 96 = .ok (.aload_n 0, 1) := by decide +kernel
theorem d_MO_measures_97 : decode s_MO_measures.2.1 97 = .ok (.getfield 169, 3) := by decide +kernel
theorem d_MO_measures_100 : decode s_MO_measures.2.1 100 = .ok (.iload_n 3, 1) := by decide +kernel
theorem d_MO_measures_101 : decode s_MO_measures.2.1 101 = .ok (.iaload, 1) := by decide +kernel
theorem d_MO_measures_102 : decode s_MO_measures.2.1 102 = .ok (.if_icmp .lt 6, 3) := by decide +kernel
theorem d_MO_measures_105 : decode s_MO_measures.2.1 105 = .ok (.goto 25, 3) := by decide +kernel
theorem d_MO_measures_108 : decode s_MO_measures.2.1 108 = .ok (.aload_n 0, 1) := by decide +kernel
theorem d_MO_measures_109 : decode s_MO_measures.2.1 109 = .ok (.getfield 169, 3) := by decide +kernel
theorem d_MO_measures_112 : decode s_MO_measures.2.1 112 = .ok (.iload_n 3, 1) := by decide +kernel
theorem d_MO_measures_113 : decode s_MO_measures.2.1 113 = .ok (.aload_n 0, 1) := by decide +kernel
theorem d_MO_measures_114 : decode s_MO_measures.2.1 114 = .ok (.getfield 169, 3) := by decide +kernel
theorem d_MO_measures_117 : decode s_MO_measures.2.1 117 = .ok (.aload_n 0, 1) := by decide +kernel
theorem d_MO_measures_118 : decode s_MO_measures.2.1 118 = .ok (.getfield 107, 3) := by decide +kernel
theorem d_MO_measures_121 : decode s_MO_measures.2.1 121 = .ok (.iload 4, 2) := by decide +kernel
theorem d_MO_measures_123 : decode s_MO_measures.2.1 123 = .ok (.iaload, 1) := by decide +kernel
theorem d_MO_measures_124 : decode s_MO_measures.2.1 124 = .ok (.iaload, 1) := by decide +kernel
theorem d_MO_measures_125 : decode s_MO_measures.2.1 125 = .ok (.iconst 1, 1) := by decide +kernel
theorem d_MO_measures_126 : decode s_MO_measures.2.1 126 = .ok (.iadd, 1) := by decide +kernel
theorem d_MO_measures_127 : decode s_MO_measures.2.1 127 = .ok (.iastore, 1) := by decide +kernel
theorem d_MO_measures_128 : decode s_MO_measures.2.1 128 = .ok (.iconst 1, 1) := by decide +kernel
theorem d_MO_measures_129 : decode s_MO_measures.2.1 129 = .ok (.istore_n 2, 1) := by decide +kernel
theorem d_MO_measures_130 : decode s_MO_measures.2.1 130 = .ok (.iinc 4 1, 3) := by decide +kernel
theorem d_MO_measures_133 : decode s_MO_measures.2.1 133 = .ok (.goto (-74), 3) := by decide +kernel
theorem d_MO_measures_136 : decode s_MO_measures.2.1 136 = .ok (.iinc 3 (-1), 3) := by decide +kernel
theorem d_MO_measures_139 : decode s_MO_measures.2.1 139 = .ok (.goto (-90), 3) := by decide +kernel
theorem d_MO_measures_142 : decode s_MO_measures.2.1 142 = .ok (.goto (-106), 3) := by decide +kernel
theorem d_MO_measures_145 : decode s_MO_measures.2.1 145 = .ok (.return_, 1) := by decide +kernel
theorem d_MO_foldedOf_0 : decode s_MO_foldedOf.2.1 0 = .ok (.aload_n 0, 1) := by decide +kernel
theorem d_MO_foldedOf_1 : decode s_MO_foldedOf.2.1 1 = .ok (.lload_n 1, 1) := by decide +kernel
theorem d_MO_foldedOf_2 : decode s_MO_foldedOf.2.1 2 = .ok (.invokevirtual 415, 3) := by decide +kernel
theorem d_MO_foldedOf_5 : decode s_MO_foldedOf.2.1 5 = .ok (.aload_n 0, 1) := by decide +kernel
theorem d_MO_foldedOf_6 : decode s_MO_foldedOf.2.1 6 = .ok (.aload_n 0, 1) := by decide +kernel
theorem d_MO_foldedOf_7 : decode s_MO_foldedOf.2.1 7 = .ok (.getfield 334, 3) := by decide +kernel
theorem d_MO_foldedOf_10 : decode s_MO_foldedOf.2.1 10 = .ok (.putfield 337, 3) := by decide +kernel
theorem d_MO_foldedOf_13 : decode s_MO_foldedOf.2.1 13 = .ok (.iconst 0, 1) := by decide +kernel
theorem d_MO_foldedOf_14 : decode s_MO_foldedOf.2.1 14 = .ok (.istore_n 3, 1) := by decide +kernel
theorem d_MO_foldedOf_15 : decode s_MO_foldedOf.2.1 15 = .ok (.iload_n 3, 1) := by decide +kernel
theorem d_MO_foldedOf_16 : decode s_MO_foldedOf.2.1 16 = .ok (.iconst 4, 1) := by decide +kernel
theorem d_MO_foldedOf_17 : decode s_MO_foldedOf.2.1 17 = .ok (.if_icmp .ge 21, 3) := by decide +kernel
theorem d_MO_foldedOf_20 : decode s_MO_foldedOf.2.1 20 = .ok (.aload_n 0, 1) := by decide +kernel
theorem d_MO_foldedOf_21 : decode s_MO_foldedOf.2.1 21 = .ok (.getfield 90, 3) := by decide +kernel
theorem d_MO_foldedOf_24 : decode s_MO_foldedOf.2.1 24 = .ok (.iload_n 3, 1) := by decide +kernel
theorem d_MO_foldedOf_25 : decode s_MO_foldedOf.2.1 25 = .ok (.aload_n 0, 1) := by decide +kernel
theorem d_MO_foldedOf_26 : decode s_MO_foldedOf.2.1 26 = .ok (.getfield 87, 3) := by decide +kernel
theorem d_MO_foldedOf_29 : decode s_MO_foldedOf.2.1 29 = .ok (.iload_n 3, 1) := by decide +kernel
theorem d_MO_foldedOf_30 : decode s_MO_foldedOf.2.1 30 = .ok (.iaload, 1) := by decide +kernel
theorem d_MO_foldedOf_31 : decode s_MO_foldedOf.2.1 31 = .ok (.iastore, 1) := by decide +kernel
theorem d_MO_foldedOf_32 : decode s_MO_foldedOf.2.1 32 = .ok (.iinc 3 1, 3) := by decide +kernel
theorem d_MO_foldedOf_35 : decode s_MO_foldedOf.2.1 35 = .ok (.goto (-20), 3) := by decide +kernel
theorem d_MO_foldedOf_38 : decode s_MO_foldedOf.2.1 38 = .ok (.aload_n 0, 1) := by decide +kernel
theorem d_MO_foldedOf_39 : decode s_MO_foldedOf.2.1 39 = .ok (.invokevirtual 422, 3) := by decide +kernel
theorem d_MO_foldedOf_42 : decode s_MO_foldedOf.2.1 42 = .ok (.aload_n 0, 1) := by decide +kernel
theorem d_MO_foldedOf_43 : decode s_MO_foldedOf.2.1 43 = .ok (.aload_n 0, 1) := by decide +kernel
theorem d_MO_foldedOf_44 : decode s_MO_foldedOf.2.1 44 = .ok (.invokevirtual 392, 3) := by decide +kernel
theorem d_MO_foldedOf_47 : decode s_MO_foldedOf.2.1 47 = .ok (.invokevirtual 383, 3) := by decide +kernel
theorem d_MO_foldedOf_50 : decode s_MO_foldedOf.2.1 50 = .ok (.ireturn, 1) := by decide +kernel
theorem d_MO_nearer_0 : decode s_MO_nearer.2.1 0 = .ok (.iconst 0, 1) := by decide +kernel
theorem d_MO_nearer_1 : decode s_MO_nearer.2.1 1 = .ok (.istore 4, 2) := by decide +kernel
theorem d_MO_nearer_3 : decode s_MO_nearer.2.1 3 = .ok (.iload 4, 2) := by decide +kernel
theorem d_MO_nearer_5 : decode s_MO_nearer.2.1 5 = .ok (.aload_n 0, 1) := by decide +kernel
theorem d_MO_nearer_6 : decode s_MO_nearer.2.1 6 = .ok (.invokevirtual 400, 3) := by decide +kernel
theorem d_MO_nearer_9 : decode s_MO_nearer.2.1 9 = .ok (.if_icmp .ge 70, 3) := by decide +kernel
theorem d_MO_nearer_12 : decode s_MO_nearer.2.1 12 = .ok (.iconst 0, 1) := by decide +kernel
theorem d_MO_nearer_13 : decode s_MO_nearer.2.1 13 = .ok (.istore 5, 2) := by decide +kernel
theorem d_MO_nearer_15 : decode s_MO_nearer.2.1 15 = .ok (.iload 5, 2) := by decide +kernel
theorem d_MO_nearer_17 : decode s_MO_nearer.2.1 17 = .ok (.aload_n 0, 1) := by decide +kernel
theorem d_MO_nearer_18 : decode s_MO_nearer.2.1 18 = .ok (.invokevirtual 358, 3) := by decide +kernel
theorem d_MO_nearer_21 : decode s_MO_nearer.2.1 21 = .ok (.if_icmp .ge 52, 3) := by decide +kernel
theorem d_MO_nearer_24 : decode s_MO_nearer.2.1 24 = .ok (.aload_n 0, 1) := by decide +kernel
theorem d_MO_nearer_25 : decode s_MO_nearer.2.1 25 = .ok (.lload_n 1, 1) := by decide +kernel
theorem d_MO_nearer_26 : decode s_MO_nearer.2.1 26 = .ok (.invokevirtual 415, 3) := by decide +kernel
theorem d_MO_nearer_29 : decode s_MO_nearer.2.1 29 = .ok (.aload_n 0, 1) := by decide +kernel
theorem d_MO_nearer_30 : decode s_MO_nearer.2.1 30 = .ok (.iload 4, 2) := by decide +kernel
theorem d_MO_nearer_32 : decode s_MO_nearer.2.1 32 = .ok (.iload 5, 2) := by decide +kernel
theorem d_MO_nearer_34 : decode s_MO_nearer.2.1 34 = .ok (.invokevirtual 419, 3) := by decide +kernel
theorem d_MO_nearer_37 : decode s_MO_nearer.2.1 37 = .ok (.ifCond .eq 30, 3) := by decide +kernel
theorem d_MO_nearer_40 : decode s_MO_nearer.2.1 40 = .ok (.aload_n 0, 1) := by decide +kernel
theorem d_MO_nearer_41 : decode s_MO_nearer.2.1 41 = .ok (.getfield 169, 3) := by decide +kernel
theorem d_MO_nearer_44 : decode s_MO_nearer.2.1 44 = .ok (.aload_n 0, 1) := by decide +kernel
theorem d_MO_nearer_45 : decode s_MO_nearer.2.1 45 = .ok (.aload_n 0, 1) := by decide +kernel
theorem d_MO_nearer_46 : decode s_MO_nearer.2.1 46 = .ok (.invokevirtual 392, 3) := by decide +kernel
theorem d_MO_nearer_49 : decode s_MO_nearer.2.1 49 = .ok (.invokevirtual 536, 3) := by decide +kernel
theorem d_MO_nearer_52 : decode s_MO_nearer.2.1 52 = .ok (.iaload, 1) := by decide +kernel
theorem d_MO_nearer_53 : decode s_MO_nearer.2.1 53 = .ok (.iload_n 3, 1) := by decide +kernel
theorem d_MO_nearer_54 : decode s_MO_nearer.2.1 54 = .ok (.iconst 1, 1) := by decide +kernel
theorem d_MO_nearer_55 : decode s_MO_nearer.2.1 55 = .ok (.isub, 1) := by decide +kernel
theorem d_MO_nearer_56 : decode s_MO_nearer.2.1 56 = .ok (.if_icmp .ne 11, 3) := by decide +kernel
theorem d_MO_nearer_59 : decode s_MO_nearer.2.1 59 = .ok (.iconst 4, 1) := by decide +kernel
theorem d_MO_nearer_60 : decode s_MO_nearer.2.1 60 = .ok (.iload 4, 2) := by decide +kernel
theorem d_MO_nearer_62 : decode s_MO_nearer.2.1 62 = .ok (.imul, 1) := by decide +kernel
theorem d_MO_nearer_63 : decode s_MO_nearer.2.1 63 = .ok (.iload 5, 2) := by decide +kernel
theorem d_MO_nearer_65 : decode s_MO_nearer.2.1 65 = .ok (.iadd, 1) := by decide +kernel
theorem d_MO_nearer_66 : decode s_MO_nearer.2.1 66 = .ok (.ireturn, 1) := by decide +kernel
theorem d_MO_nearer_67 : decode s_MO_nearer.2.1 67 = .ok (.iinc 5 1, 3) := by decide +kernel
theorem d_MO_nearer_70 : decode s_MO_nearer.2.1 70 = .ok (.goto (-55), 3) := by decide +kernel
theorem d_MO_nearer_73 : decode s_MO_nearer.2.1 73 = .ok (.iinc 4 1, 3) := by decide +kernel
theorem d_MO_nearer_76 : decode s_MO_nearer.2.1 76 = .ok (.goto (-73), 3) := by decide +kernel
theorem d_MO_nearer_79 : decode s_MO_nearer.2.1 79 = .ok (.iconst (-1), 1) := by decide +kernel
theorem d_MO_nearer_80 : decode s_MO_nearer.2.1 80 = .ok (.ireturn, 1) := by decide +kernel
theorem d_MO_way_0 : decode s_MO_way.2.1 0 = .ok (.aload_n 0, 1) := by decide +kernel
theorem d_MO_way_1 : decode s_MO_way.2.1 1 = .ok (.iload_n 1, 1) := by decide +kernel
theorem d_MO_way_2 : decode s_MO_way.2.1 2 = .ok (.invokevirtual 526, 3) := by decide +kernel
theorem d_MO_way_5 : decode s_MO_way.2.1 5 = .ok (.ifCond .ne 5, 3) := by decide +kernel
theorem d_MO_way_8 : decode s_MO_way.2.1 8 = .ok (.iconst (-1), 1) := by decide +kernel
theorem d_MO_way_9 : decode s_MO_way.2.1 9 = .ok (.ireturn, 1) := by decide +kernel
theorem d_MO_way_10 : decode s_MO_way.2.1 10 = .ok (.iload_n 2, 1) := by decide +kernel
theorem d_MO_way_11 : decode s_MO_way.2.1 11 = .ok (.iconst (-1), 1) := by decide +kernel
theorem d_MO_way_12 : decode s_MO_way.2.1 12 = .ok (.if_icmp .ne 18, 3) := by decide +kernel
theorem d_MO_way_15 : decode s_MO_way.2.1 15 = .ok (.iload_n 3, 1) := by decide +kernel
theorem d_MO_way_16 : decode s_MO_way.2.1 16 = .ok (.ifCond .ne 12, 3) := by decide +kernel
theorem d_MO_way_19 : decode s_MO_way.2.1 19 = .ok (.aload_n 0, 1) := by decide +kernel
theorem d_MO_way_20 : decode s_MO_way.2.1 20 = .ok (.getfield 100, 3) := by decide +kernel
theorem d_MO_way_23 : decode s_MO_way.2.1 23 = .ok (.iload_n 1, 1) := by decide +kernel
theorem d_MO_way_24 : decode s_MO_way.2.1 24 = .ok (.iaload, 1) := by decide +kernel
theorem d_MO_way_25 : decode s_MO_way.2.1 25 = .ok (.goto 4, 3) := by decide +kernel
theorem d_MO_way_28 : decode s_MO_way.2.1 28 = .ok (.iconst (-1), 1) := by decide +kernel
theorem d_MO_way_29 : decode s_MO_way.2.1 29 = .ok (.ireturn, 1) := by decide +kernel
theorem d_MO_way_30 : decode s_MO_way.2.1 30 = .ok (.iload_n 2, 1) := by decide +kernel
theorem d_MO_way_31 : decode s_MO_way.2.1 31 = .ok (.i2l, 1) := by decide +kernel
theorem d_MO_way_32 : decode s_MO_way.2.1 32 = .ok (.lconst 0, 1) := by decide +kernel
theorem d_MO_way_33 : decode s_MO_way.2.1 33 = .ok (.aload_n 0, 1) := by decide +kernel
theorem d_MO_way_34 : decode s_MO_way.2.1 34 = .ok (.getfield 100, 3) := by decide +kernel
theorem d_MO_way_37 : decode s_MO_way.2.1 37 = .ok (.iload_n 1, 1) := by decide +kernel
theorem d_MO_way_38 : decode s_MO_way.2.1 38 = .ok (.iaload, 1) := by decide +kernel
theorem d_MO_way_39 : decode s_MO_way.2.1 39 = .ok (.iconst 1, 1) := by decide +kernel
theorem d_MO_way_40 : decode s_MO_way.2.1 40 = .ok (.isub, 1) := by decide +kernel
theorem d_MO_way_41 : decode s_MO_way.2.1 41 = .ok (.i2l, 1) := by decide +kernel
theorem d_MO_way_42 : decode s_MO_way.2.1 42 = .ok (.invokestatic 210, 3) := by decide +kernel
theorem d_MO_way_45 : decode s_MO_way.2.1 45 = .ok (.ifCond .eq 13, 3) := by decide +kernel
theorem d_MO_way_48 : decode s_MO_way.2.1 48 = .ok (.iload_n 3, 1) := by decide +kernel
theorem d_MO_way_49 : decode s_MO_way.2.1 49 = .ok (.i2l, 1) := by decide +kernel
theorem d_MO_way_50 : decode s_MO_way.2.1 50 = .ok (.lconst 0, 1) := by decide +kernel
theorem d_MO_way_51 : decode s_MO_way.2.1 51 = .ok (.lconst 1, 1) := by decide +kernel
theorem d_MO_way_52 : decode s_MO_way.2.1 52 = .ok (.invokestatic 210, 3) := by decide +kernel
theorem d_MO_way_55 : decode s_MO_way.2.1 55 = .ok (.ifCond .ne 5, 3) := by decide +kernel
theorem d_MO_way_58 : decode s_MO_way.2.1 58 = .ok (.iconst (-1), 1) := by decide +kernel
theorem d_MO_way_59 : decode s_MO_way.2.1 59 = .ok (.ireturn, 1) := by decide +kernel
theorem d_MO_way_60 : decode s_MO_way.2.1 60 = .ok (.aload_n 0, 1) := by decide +kernel
theorem d_MO_way_61 : decode s_MO_way.2.1 61 = .ok (.iload_n 1, 1) := by decide +kernel
theorem d_MO_way_62 : decode s_MO_way.2.1 62 = .ok (.invokevirtual 539, 3) := by decide +kernel
theorem d_MO_way_65 : decode s_MO_way.2.1 65 = .ok (.aload_n 0, 1) := by decide +kernel
theorem d_MO_way_66 : decode s_MO_way.2.1 66 = .ok (.getfield 96, 3) := by decide +kernel
theorem d_MO_way_69 : decode s_MO_way.2.1 69 = .ok (.iconst 0, 1) := by decide +kernel
theorem d_MO_way_70 : decode s_MO_way.2.1 70 = .ok (.laload, 1) := by decide +kernel
theorem d_MO_way_71 : decode s_MO_way.2.1 71 = .ok (.lstore 4, 2) := by decide +kernel
theorem d_MO_way_73 : decode s_MO_way.2.1 73 = .ok (.iconst (-1), 1) := by decide +kernel
theorem d_MO_way_74 : decode s_MO_way.2.1 74 = .ok (.istore 6, 2) := by decide +kernel
theorem d_MO_way_76 : decode s_MO_way.2.1 76 = .ok (.iconst 0, 1) := by decide +kernel
theorem d_MO_way_77 : decode s_MO_way.2.1 77 = .ok (.istore 7, 2) := by decide +kernel
theorem d_MO_way_79 : decode s_MO_way.2.1 79 = .ok (.iload 7, 2) := by decide +kernel
theorem d_MO_way_81 : decode s_MO_way.2.1 81 = .ok (.iload_n 2, 1) := by decide +kernel
theorem d_MO_way_82 : decode s_MO_way.2.1 82 = .ok (.if_icmp .gt 51, 3) := by decide +kernel
theorem d_MO_way_85 : decode s_MO_way.2.1 85 = .ok (.aload_n 0, 1) := by decide +kernel
theorem d_MO_way_86 : decode s_MO_way.2.1 86 = .ok (.lload 4, 2) := by decide +kernel
theorem d_MO_way_88 : decode s_MO_way.2.1 88 = .ok (.aload_n 0, 1) := by decide +kernel
theorem d_MO_way_89 : decode s_MO_way.2.1 89 = .ok (.getfield 100, 3) := by decide +kernel
theorem d_MO_way_92 : decode s_MO_way.2.1 92 = .ok (.iload_n 1, 1) := by decide +kernel
theorem d_MO_way_93 : decode s_MO_way.2.1 93 = .ok (.iaload, 1) := by decide +kernel
theorem d_MO_way_94 : decode s_MO_way.2.1 94 = .ok (.iload 7, 2) := by decide +kernel
theorem d_MO_way_96 : decode s_MO_way.2.1 96 = .ok (.isub, 1) := by decide +kernel
theorem d_MO_way_97 : decode s_MO_way.2.1 97 = .ok (.invokevirtual 542, 3) := by decide +kernel
theorem d_MO_way_100 : decode s_MO_way.2.1 100 = .ok (.istore 6, 2) := by decide +kernel
theorem d_MO_way_102 : decode s_MO_way.2.1 102 = .ok (.aload_n 0, 1) := by decide +kernel
theorem d_MO_way_103 : decode s_MO_way.2.1 103 = .ok (.lload 4, 2) := by decide +kernel
theorem d_MO_way_105 : decode s_MO_way.2.1 105 = .ok (.invokevirtual 415, 3) := by decide +kernel
theorem d_MO_way_108 : decode s_MO_way.2.1 108 = .ok (.aload_n 0, 1) := by decide +kernel
theorem d_MO_way_109 : decode s_MO_way.2.1 109 = .ok (.iload 6, 2) := by decide +kernel
theorem d_MO_way_111 : decode s_MO_way.2.1 111 = .ok (.iconst 4, 1) := by decide +kernel
theorem d_MO_way_112 : decode s_MO_way.2.1 112 = .ok (.idiv, 1) := by decide +kernel
theorem d_MO_way_113 : decode s_MO_way.2.1 113 = .ok (.iload 6, 2) := by decide +kernel
theorem d_MO_way_115 : decode s_MO_way.2.1 115 = .ok (.iconst 4, 1) := by decide +kernel
theorem d_MO_way_116 : decode s_MO_way.2.1 116 = .ok (.irem, 1) := by decide +kernel
theorem d_MO_way_117 : decode s_MO_way.2.1 117 = .ok (.invokevirtual 419, 3) := by decide +kernel
theorem d_MO_way_120 : decode s_MO_way.2.1 120 = .ok (.pop, 1) := by decide +kernel
theorem d_MO_way_121 : decode s_MO_way.2.1 121 = .ok (.aload_n 0, 1) := by decide +kernel
theorem d_MO_way_122 : decode s_MO_way.2.1 122 = .ok (.invokevirtual 392, 3) := by decide +kernel
theorem d_MO_way_125 : decode s_MO_way.2.1 125 = .ok (.lstore 4, 2) := by decide +kernel
theorem d_MO_way_127 : decode s_MO_way.2.1 127 = .ok (.iinc 7 1, 3) := by decide +kernel
theorem d_MO_way_130 : decode s_MO_way.2.1 130 = .ok (.goto (-51), 3) := by decide +kernel
theorem d_MO_way_133 : decode s_MO_way.2.1 133 = .ok (.iload_n 3, 1) := by decide +kernel
theorem d_MO_way_134 : decode s_MO_way.2.1 134 = .ok (.ifCond .ne 10, 3) := by decide +kernel
theorem d_MO_way_137 : decode s_MO_way.2.1 137 = .ok (.iload 6, 2) := by decide +kernel
theorem d_MO_way_139 : decode s_MO_way.2.1 139 = .ok (.iconst 4, 1) := by decide +kernel
theorem d_MO_way_140 : decode s_MO_way.2.1 140 = .ok (.idiv, 1) := by decide +kernel
theorem d_MO_way_141 : decode s_MO_way.2.1 141 = .ok (.goto 7, 3) := by decide +kernel
theorem d_MO_way_144 : decode s_MO_way.2.1 144 = .ok (.iload 6, 2) := by decide +kernel
theorem d_MO_way_146 : decode s_MO_way.2.1 146 = .ok (.iconst 4, 1) := by decide +kernel
theorem d_MO_way_147 : decode s_MO_way.2.1 147 = .ok (.irem, 1) := by decide +kernel
theorem d_MO_way_148 : decode s_MO_way.2.1 148 = .ok (.ireturn, 1) := by decide +kernel
theorem d_MO_wantingIn_0 : decode s_MO_wantingIn.2.1 0 = .ok (.iconst 0, 1) := by decide +kernel
theorem d_MO_wantingIn_1 : decode s_MO_wantingIn.2.1 1 = .ok (.istore_n 3, 1) := by decide +kernel
theorem d_MO_wantingIn_2 : decode s_MO_wantingIn.2.1 2 = .ok (.iconst 0, 1) := by decide +kernel
theorem d_MO_wantingIn_3 : decode s_MO_wantingIn.2.1 3 = .ok (.istore 4, 2) := by decide +kernel
theorem d_MO_wantingIn_5 : decode s_MO_wantingIn.2.1 5 = .ok (.iload 4, 2) := by decide +kernel
theorem d_MO_wantingIn_7 : decode s_MO_wantingIn.2.1 7 = .ok (.aload_n 0, 1) := by decide +kernel
theorem d_MO_wantingIn_8 : decode s_MO_wantingIn.2.1 8 = .ok (.invokevirtual 358, 3) := by decide +kernel
theorem d_MO_wantingIn_11 : decode s_MO_wantingIn.2.1 11 = .ok (.if_icmp .ge 39, 3) := by decide +kernel
theorem d_MO_wantingIn_14 : decode s_MO_wantingIn.2.1 14 = .ok (.iload_n 2, 1) := by decide +kernel
theorem d_MO_wantingIn_15 : decode s_MO_wantingIn.2.1 15 = .ok (.ifCond .ne 16, 3) := by decide +kernel
theorem d_MO_wantingIn_18 : decode s_MO_wantingIn.2.1 18 = .ok (.aload_n 0, 1) := by decide +kernel
theorem d_MO_wantingIn_19 : decode s_MO_wantingIn.2.1 19 = .ok (.iload_n 1, 1) := by decide +kernel
theorem d_MO_wantingIn_20 : decode s_MO_wantingIn.2.1 20 = .ok (.iload 4, 2) := by decide +kernel
theorem d_MO_wantingIn_22 : decode s_MO_wantingIn.2.1 22 = .ok (.invokevirtual 490, 3) := by decide +kernel
theorem d_MO_wantingIn_25 : decode s_MO_wantingIn.2.1 25 = .ok (.ifCond .eq 19, 3) := by decide +kernel
theorem d_MO_wantingIn_28 : decode s_MO_wantingIn.2.1 28 = .ok (.goto 13, 3) := by decide +kernel
theorem d_MO_wantingIn_31 : decode s_MO_wantingIn.2.1 31 = .ok (.aload_n 0, 1) := by decide +kernel
theorem d_MO_wantingIn_32 : decode s_MO_wantingIn.2.1 32 = .ok (.iload_n 1, 1) := by decide +kernel
theorem d_MO_wantingIn_33 : decode s_MO_wantingIn.2.1 33 = .ok (.iload 4, 2) := by decide +kernel
theorem d_MO_wantingIn_35 : decode s_MO_wantingIn.2.1 35 = .ok (.invokevirtual 493, 3) := by decide +kernel
theorem d_MO_wantingIn_38 : decode s_MO_wantingIn.2.1 38 = .ok (.ifCond .eq 6, 3) := by decide +kernel
theorem d_MO_wantingIn_41 : decode s_MO_wantingIn.2.1 41 = .ok (.iinc 3 1, 3) := by decide +kernel
theorem d_MO_wantingIn_44 : decode s_MO_wantingIn.2.1 44 = .ok (.iinc 4 1, 3) := by decide +kernel
theorem d_MO_wantingIn_47 : decode s_MO_wantingIn.2.1 47 = .ok (.goto (-42), 3) := by decide +kernel
theorem d_MO_wantingIn_50 : decode s_MO_wantingIn.2.1 50 = .ok (.iload_n 3, 1) := by decide +kernel
theorem d_MO_wantingIn_51 : decode s_MO_wantingIn.2.1 51 = .ok (.ireturn, 1) := by decide +kernel
theorem d_MO_isFirst_0 : decode s_MO_isFirst.2.1 0 = .ok (.iload_n 2, 1) := by decide +kernel
theorem d_MO_isFirst_1 : decode s_MO_isFirst.2.1 1 = .ok (.ifCond .ne 14, 3) := by decide +kernel
theorem d_MO_isFirst_4 : decode s_MO_isFirst.2.1 4 = .ok (.aload_n 0, 1) := by decide +kernel
theorem d_MO_isFirst_5 : decode s_MO_isFirst.2.1 5 = .ok (.aload_n 0, 1) := by decide +kernel
theorem d_MO_isFirst_6 : decode s_MO_isFirst.2.1 6 = .ok (.getfield 96, 3) := by decide +kernel
theorem d_MO_isFirst_9 : decode s_MO_isFirst.2.1 9 = .ok (.iload_n 1, 1) := by decide +kernel
theorem d_MO_isFirst_10 : decode s_MO_isFirst.2.1 10 = .ok (.laload, 1) := by decide +kernel
theorem d_MO_isFirst_11 : decode s_MO_isFirst.2.1 11 = .ok (.invokevirtual 434, 3) := by decide +kernel
theorem d_MO_isFirst_14 : decode s_MO_isFirst.2.1 14 = .ok (.ireturn, 1) := by decide +kernel
theorem d_MO_isFirst_15 : decode s_MO_isFirst.2.1 15 = .ok (.iload_n 2, 1) := by decide +kernel
theorem d_MO_isFirst_16 : decode s_MO_isFirst.2.1 16 = .ok (.iconst 1, 1) := by decide +kernel
theorem d_MO_isFirst_17 : decode s_MO_isFirst.2.1 17 = .ok (.if_icmp .ne 17, 3) := by decide +kernel
theorem d_MO_isFirst_20 : decode s_MO_isFirst.2.1 20 = .ok (.aload_n 0, 1) := by decide +kernel
theorem d_MO_isFirst_21 : decode s_MO_isFirst.2.1 21 = .ok (.iload_n 1, 1) := by decide +kernel
theorem d_MO_isFirst_22 : decode s_MO_isFirst.2.1 22 = .ok (.invokevirtual 431, 3) := by decide +kernel
theorem d_MO_isFirst_25 : decode s_MO_isFirst.2.1 25 = .ok (.ifCond .ne 7, 3) := by decide +kernel
theorem d_MO_isFirst_28 : decode s_MO_isFirst.2.1 28 = .ok (.iconst 1, 1) := by decide +kernel
theorem d_MO_isFirst_29 : decode s_MO_isFirst.2.1 29 = .ok (.goto 4, 3) := by decide +kernel
theorem d_MO_isFirst_32 : decode s_MO_isFirst.2.1 32 = .ok (.iconst 0, 1) := by decide +kernel
theorem d_MO_isFirst_33 : decode s_MO_isFirst.2.1 33 = .ok (.ireturn, 1) := by decide +kernel
theorem d_MO_isFirst_34 : decode s_MO_isFirst.2.1 34 = .ok (.aload_n 0, 1) := by decide +kernel
theorem d_MO_isFirst_35 : decode s_MO_isFirst.2.1 35 = .ok (.iload_n 1, 1) := by decide +kernel
theorem d_MO_isFirst_36 : decode s_MO_isFirst.2.1 36 = .ok (.iload_n 2, 1) := by decide +kernel
theorem d_MO_isFirst_37 : decode s_MO_isFirst.2.1 37 = .ok (.iconst 2, 1) := by decide +kernel
theorem d_MO_isFirst_38 : decode s_MO_isFirst.2.1 38 = .ok (.isub, 1) := by decide +kernel
theorem d_MO_isFirst_39 : decode s_MO_isFirst.2.1 39 = .ok (.invokevirtual 499, 3) := by decide +kernel
theorem d_MO_isFirst_42 : decode s_MO_isFirst.2.1 42 = .ok (.ifCond .le 7, 3) := by decide +kernel
theorem d_MO_isFirst_45 : decode s_MO_isFirst.2.1 45 = .ok (.iconst 1, 1) := by decide +kernel
theorem d_MO_isFirst_46 : decode s_MO_isFirst.2.1 46 = .ok (.goto 4, 3) := by decide +kernel
theorem d_MO_isFirst_49 : decode s_MO_isFirst.2.1 49 = .ok (.iconst 0, 1) := by decide +kernel
theorem d_MO_isFirst_50 : decode s_MO_isFirst.2.1 50 = .ok (.ireturn, 1) := by decide +kernel
theorem d_MO_first_0 : decode s_MO_first.2.1 0 = .ok (.aload_n 0, 1) := by decide +kernel
theorem d_MO_first_1 : decode s_MO_first.2.1 1 = .ok (.invokevirtual 505, 3) := by decide +kernel
theorem d_MO_first_4 : decode s_MO_first.2.1 4 = .ok (.ifCond .eq 15, 3) := by decide +kernel
theorem d_MO_first_7 : decode s_MO_first.2.1 7 = .ok (.iload_n 1, 1) := by decide +kernel
theorem d_MO_first_8 : decode s_MO_first.2.1 8 = .ok (.i2l, 1) := by decide +kernel
theorem d_MO_first_9 : decode s_MO_first.2.1 9 = .ok (.lconst 0, 1) := by decide +kernel
theorem d_MO_first_10 : decode s_MO_first.2.1 10 = .ok (.ldc2_w 546, 3) := by decide +kernel
theorem d_MO_first_13 : decode s_MO_first.2.1 13 = .ok (.invokestatic 210, 3) := by decide +kernel
theorem d_MO_first_16 : decode s_MO_first.2.1 16 = .ok (.ifCond .ne 5, 3) := by decide +kernel
theorem d_MO_first_19 : decode s_MO_first.2.1 19 = .ok (.iconst (-1), 1) := by decide +kernel
theorem d_MO_first_20 : decode s_MO_first.2.1 20 = .ok (.ireturn, 1) := by decide +kernel
theorem d_MO_first_21 : decode s_MO_first.2.1 21 = .ok (.iload_n 1, 1) := by decide +kernel
theorem d_MO_first_22 : decode s_MO_first.2.1 22 = .ok (.iconst 1, 1) := by decide +kernel
theorem d_MO_first_23 : decode s_MO_first.2.1 23 = .ok (.if_icmp .le 7, 3) := by decide +kernel
theorem d_MO_first_26 : decode s_MO_first.2.1 26 = .ok (.aload_n 0, 1) := by decide +kernel
theorem d_MO_first_27 : decode s_MO_first.2.1 27 = .ok (.invokevirtual 496, 3) := by decide +kernel
theorem d_MO_first_30 : decode s_MO_first.2.1 30 = .ok (.iconst 0, 1) := by decide +kernel
theorem d_MO_first_31 : decode s_MO_first.2.1 31 = .ok (.istore_n 2, 1) := by decide +kernel
theorem d_MO_first_32 : decode s_MO_first.2.1 32 = .ok (.iload_n 2, 1) := by decide +kernel
theorem d_MO_first_33 : decode s_MO_first.2.1 33 = .ok (.aload_n 0, 1) := by decide +kernel
theorem d_MO_first_34 : decode s_MO_first.2.1 34 = .ok (.getfield 380, 3) := by decide +kernel
theorem d_MO_first_37 : decode s_MO_first.2.1 37 = .ok (.if_icmp .ge 20, 3) := by decide +kernel
theorem d_MO_first_40 : decode s_MO_first.2.1 40 = .ok (.aload_n 0, 1) := by decide +kernel
theorem d_MO_first_41 : decode s_MO_first.2.1 41 = .ok (.iload_n 2, 1) := by decide +kernel
theorem d_MO_first_42 : decode s_MO_first.2.1 42 = .ok (.iload_n 1, 1) := by decide +kernel
theorem d_MO_first_43 : decode s_MO_first.2.1 43 = .ok (.invokevirtual 548, 3) := by decide +kernel
theorem d_MO_first_46 : decode s_MO_first.2.1 46 = .ok (.ifCond .eq 5, 3) := by decide +kernel
theorem d_MO_first_49 : decode s_MO_first.2.1 49 = .ok (.iload_n 2, 1) := by decide +kernel
theorem d_MO_first_50 : decode s_MO_first.2.1 50 = .ok (.ireturn, 1) := by decide +kernel
theorem d_MO_first_51 : decode s_MO_first.2.1 51 = .ok (.iinc 2 1, 3) := by decide +kernel
theorem d_MO_first_54 : decode s_MO_first.2.1 54 = .ok (.goto (-22), 3) := by decide +kernel
theorem d_MO_first_57 : decode s_MO_first.2.1 57 = .ok (.iconst (-1), 1) := by decide +kernel
theorem d_MO_first_58 : decode s_MO_first.2.1 58 = .ok (.ireturn, 1) := by decide +kernel
theorem d_MO_returns_0 : decode s_MO_returns.2.1 0 = .ok (.aload_n 0, 1) := by decide +kernel
theorem d_MO_returns_1 : decode s_MO_returns.2.1 1 = .ok (.invokevirtual 505, 3) := by decide +kernel
theorem d_MO_returns_4 : decode s_MO_returns.2.1 4 = .ok (.ifCond .ne 5, 3) := by decide +kernel
theorem d_MO_returns_7 : decode s_MO_returns.2.1 7 = .ok (.iconst (-1), 1) := by decide +kernel
theorem d_MO_returns_8 : decode s_MO_returns.2.1 8 = .ok (.ireturn, 1) := by decide +kernel
theorem d_MO_returns_9 : decode s_MO_returns.2.1 9 = .ok (.aload_n 0, 1) := by decide +kernel
theorem d_MO_returns_10 : decode s_MO_returns.2.1 10 = .ok (.iconst 0, 1) := by decide +kernel
theorem d_MO_returns_11 : decode s_MO_returns.2.1 11 = .ok (.invokevirtual 539, 3) := by decide +kernel
theorem d_MO_returns_14 : decode s_MO_returns.2.1 14 = .ok (.iconst 0, 1) := by decide +kernel
theorem d_MO_returns_15 : decode s_MO_returns.2.1 15 = .ok (.istore_n 1, 1) := by decide +kernel
theorem d_MO_returns_16 : decode s_MO_returns.2.1 16 = .ok (.iconst 0, 1) := by decide +kernel
theorem d_MO_returns_17 : decode s_MO_returns.2.1 17 = .ok (.istore_n 2, 1) := by decide +kernel
theorem d_MO_returns_18 : decode s_MO_returns.2.1 18 = .ok (.iload_n 2, 1) := by decide +kernel
theorem d_MO_returns_19 : decode s_MO_returns.2.1 19 = .ok (.aload_n 0, 1) := by decide +kernel
theorem d_MO_returns_20 : decode s_MO_returns.2.1 20 = .ok (.getfield 380, 3) := by decide +kernel
theorem d_MO_returns_23 : decode s_MO_returns.2.1 23 = .ok (.if_icmp .ge 29, 3) := by decide +kernel
theorem d_MO_returns_26 : decode s_MO_returns.2.1 26 = .ok (.aload_n 0, 1) := by decide +kernel
theorem d_MO_returns_27 : decode s_MO_returns.2.1 27 = .ok (.getfield 169, 3) := by decide +kernel
theorem d_MO_returns_30 : decode s_MO_returns.2.1 30 = .ok (.iload_n 2, 1) := by decide +kernel
theorem d_MO_returns_31 : decode s_MO_returns.2.1 31 = .ok (.iaload, 1) := by decide +kernel
theorem d_MO_returns_32 : decode s_MO_returns.2.1 32 = .ok (.ldc_w 535, 3) := by decide +kernel
theorem d_MO_returns_35 : decode s_MO_returns.2.1 35 = .ok (.if_icmp .ge 11, 3) := by decide +kernel
theorem d_MO_returns_38 : decode s_MO_returns.2.1 38 = .ok (.iload_n 1, 1) := by decide +kernel
theorem d_MO_returns_39 : decode s_MO_returns.2.1 39 = .ok (.aload_n 0, 1) := by decide +kernel
theorem d_MO_returns_40 : decode s_MO_returns.2.1 40 = .ok (.iload_n 2, 1) := by decide +kernel
theorem d_MO_returns_41 : decode s_MO_returns.2.1 41 = .ok (.invokevirtual 428, 3) := by decide +kernel
theorem d_MO_returns_44 : decode s_MO_returns.2.1 44 = .ok (.iadd, 1) := by decide +kernel
theorem d_MO_returns_45 : decode s_MO_returns.2.1 45 = .ok (.istore_n 1, 1) := by decide +kernel
theorem d_MO_returns_46 : decode s_MO_returns.2.1 46 = .ok (.iinc 2 1, 3) := by decide +kernel
theorem d_MO_returns_49 : decode s_MO_returns.2.1 49 = .ok (.goto (-31), 3) := by decide +kernel
theorem d_MO_returns_52 : decode s_MO_returns.2.1 52 = .ok (.iload_n 1, 1) := by decide +kernel
theorem d_MO_returns_53 : decode s_MO_returns.2.1 53 = .ok (.ireturn, 1) := by decide +kernel
theorem d_MO_wantingAll_0 : decode s_MO_wantingAll.2.1 0 = .ok (.aload_n 0, 1) := by decide +kernel
theorem d_MO_wantingAll_1 : decode s_MO_wantingAll.2.1 1 = .ok (.invokevirtual 496, 3) := by decide +kernel
theorem d_MO_wantingAll_4 : decode s_MO_wantingAll.2.1 4 = .ok (.iconst 0, 1) := by decide +kernel
theorem d_MO_wantingAll_5 : decode s_MO_wantingAll.2.1 5 = .ok (.istore_n 2, 1) := by decide +kernel
theorem d_MO_wantingAll_6 : decode s_MO_wantingAll.2.1 6 = .ok (.iconst 0, 1) := by decide +kernel
theorem d_MO_wantingAll_7 : decode s_MO_wantingAll.2.1 7 = .ok (.istore_n 3, 1) := by decide +kernel
theorem d_MO_wantingAll_8 : decode s_MO_wantingAll.2.1 8 = .ok (.iload_n 3, 1) := by decide +kernel
theorem d_MO_wantingAll_9 : decode s_MO_wantingAll.2.1 9 = .ok (.aload_n 0, 1) := by decide +kernel
theorem d_MO_wantingAll_10 : decode s_MO_wantingAll.2.1 10 = .ok (.getfield 380, 3) := by decide +kernel
theorem d_MO_wantingAll_13 : decode s_MO_wantingAll.2.1 13 = .ok (.if_icmp .ge 24, 3) := by decide +kernel
theorem d_MO_wantingAll_16 : decode s_MO_wantingAll.2.1 16 = .ok (.iload_n 2, 1) := by decide +kernel
theorem d_MO_wantingAll_17 : decode s_MO_wantingAll.2.1 17 = .ok (.aload_n 0, 1) := by decide +kernel
theorem d_MO_wantingAll_18 : decode s_MO_wantingAll.2.1 18 = .ok (.iload_n 3, 1) := by decide +kernel
theorem d_MO_wantingAll_19 : decode s_MO_wantingAll.2.1 19 = .ok (.invokevirtual 428, 3) := by decide +kernel
theorem d_MO_wantingAll_22 : decode s_MO_wantingAll.2.1 22 = .ok (.aload_n 0, 1) := by decide +kernel
theorem d_MO_wantingAll_23 : decode s_MO_wantingAll.2.1 23 = .ok (.iload_n 3, 1) := by decide +kernel
theorem d_MO_wantingAll_24 : decode s_MO_wantingAll.2.1 24 = .ok (.iload_n 1, 1) := by decide +kernel
theorem d_MO_wantingAll_25 : decode s_MO_wantingAll.2.1 25 = .ok (.invokevirtual 499, 3) := by decide +kernel
theorem d_MO_wantingAll_28 : decode s_MO_wantingAll.2.1 28 = .ok (.imul, 1) := by decide +kernel
theorem d_MO_wantingAll_29 : decode s_MO_wantingAll.2.1 29 = .ok (.iadd, 1) := by decide +kernel
theorem d_MO_wantingAll_30 : decode s_MO_wantingAll.2.1 30 = .ok (.istore_n 2, 1) := by decide +kernel
theorem d_MO_wantingAll_31 : decode s_MO_wantingAll.2.1 31 = .ok (.iinc 3 1, 3) := by decide +kernel
theorem d_MO_wantingAll_34 : decode s_MO_wantingAll.2.1 34 = .ok (.goto (-26), 3) := by decide +kernel
theorem d_MO_wantingAll_37 : decode s_MO_wantingAll.2.1 37 = .ok (.iload_n 2, 1) := by decide +kernel
theorem d_MO_wantingAll_38 : decode s_MO_wantingAll.2.1 38 = .ok (.ireturn, 1) := by decide +kernel
theorem d_MO_starving_0 : decode s_MO_starving.2.1 0 = .ok (.aload_n 0, 1) := by decide +kernel
theorem d_MO_starving_1 : decode s_MO_starving.2.1 1 = .ok (.invokevirtual 505, 3) := by decide +kernel
theorem d_MO_starving_4 : decode s_MO_starving.2.1 4 = .ok (.ifCond .eq 21, 3) := by decide +kernel
theorem d_MO_starving_7 : decode s_MO_starving.2.1 7 = .ok (.iload_n 1, 1) := by decide +kernel
theorem d_MO_starving_8 : decode s_MO_starving.2.1 8 = .ok (.i2l, 1) := by decide +kernel
theorem d_MO_starving_9 : decode s_MO_starving.2.1 9 = .ok (.lconst 0, 1) := by decide +kernel
theorem d_MO_starving_10 : decode s_MO_starving.2.1 10 = .ok (.lconst 1, 1) := by decide +kernel
theorem d_MO_starving_11 : decode s_MO_starving.2.1 11 = .ok (.invokestatic 210, 3) := by decide +kernel
theorem d_MO_starving_14 : decode s_MO_starving.2.1 14 = .ok (.ifCond .eq 11, 3) := by decide +kernel
theorem d_MO_starving_17 : decode s_MO_starving.2.1 17 = .ok (.aload_n 0, 1) := by decide +kernel
theorem d_MO_starving_18 : decode s_MO_starving.2.1 18 = .ok (.iload_n 1, 1) := by decide +kernel
theorem d_MO_starving_19 : decode s_MO_starving.2.1 19 = .ok (.invokevirtual 551, 3) := by decide +kernel
theorem d_MO_starving_22 : decode s_MO_starving.2.1 22 = .ok (.goto 4, 3) := by decide +kernel
theorem d_MO_starving_25 : decode s_MO_starving.2.1 25 = .ok (.iconst (-1), 1) := by decide +kernel
theorem d_MO_starving_26 : decode s_MO_starving.2.1 26 = .ok (.ireturn, 1) := by decide +kernel
theorem d_MO_uses_0 : decode s_MO_uses.2.1 0 = .ok (.aload_n 0, 1) := by decide +kernel
theorem d_MO_uses_1 : decode s_MO_uses.2.1 1 = .ok (.invokevirtual 505, 3) := by decide +kernel
theorem d_MO_uses_4 : decode s_MO_uses.2.1 4 = .ok (.ifCond .eq 19, 3) := by decide +kernel
theorem d_MO_uses_7 : decode s_MO_uses.2.1 7 = .ok (.iload_n 1, 1) := by decide +kernel
theorem d_MO_uses_8 : decode s_MO_uses.2.1 8 = .ok (.i2l, 1) := by decide +kernel
theorem d_MO_uses_9 : decode s_MO_uses.2.1 9 = .ok (.lconst 0, 1) := by decide +kernel
theorem d_MO_uses_10 : decode s_MO_uses.2.1 10 = .ok (.aload_n 0, 1) := by decide +kernel
theorem d_MO_uses_11 : decode s_MO_uses.2.1 11 = .ok (.invokevirtual 400, 3) := by decide +kernel
theorem d_MO_uses_14 : decode s_MO_uses.2.1 14 = .ok (.iconst 1, 1) := by decide +kernel
theorem d_MO_uses_15 : decode s_MO_uses.2.1 15 = .ok (.isub, 1) := by decide +kernel
theorem d_MO_uses_16 : decode s_MO_uses.2.1 16 = .ok (.i2l, 1) := by decide +kernel
theorem d_MO_uses_17 : decode s_MO_uses.2.1 17 = .ok (.invokestatic 210, 3) := by decide +kernel
theorem d_MO_uses_20 : decode s_MO_uses.2.1 20 = .ok (.ifCond .ne 5, 3) := by decide +kernel
theorem d_MO_uses_23 : decode s_MO_uses.2.1 23 = .ok (.iconst (-1), 1) := by decide +kernel
theorem d_MO_uses_24 : decode s_MO_uses.2.1 24 = .ok (.ireturn, 1) := by decide +kernel
theorem d_MO_uses_25 : decode s_MO_uses.2.1 25 = .ok (.iconst 0, 1) := by decide +kernel
theorem d_MO_uses_26 : decode s_MO_uses.2.1 26 = .ok (.istore_n 2, 1) := by decide +kernel
theorem d_MO_uses_27 : decode s_MO_uses.2.1 27 = .ok (.iconst 0, 1) := by decide +kernel
theorem d_MO_uses_28 : decode s_MO_uses.2.1 28 = .ok (.istore_n 3, 1) := by decide +kernel
theorem d_MO_uses_29 : decode s_MO_uses.2.1 29 = .ok (.iload_n 3, 1) := by decide +kernel
theorem d_MO_uses_30 : decode s_MO_uses.2.1 30 = .ok (.aload_n 0, 1) := by decide +kernel
theorem d_MO_uses_31 : decode s_MO_uses.2.1 31 = .ok (.getfield 380, 3) := by decide +kernel
theorem d_MO_uses_34 : decode s_MO_uses.2.1 34 = .ok (.if_icmp .ge 52, 3) := by decide +kernel
theorem d_MO_uses_37 : decode s_MO_uses.2.1 37 = .ok (.iconst 0, 1) := by decide +kernel
theorem d_MO_uses_38 : decode s_MO_uses.2.1 38 = .ok (.istore 4, 2) := by decide +kernel
theorem d_MO_uses_40 : decode s_MO_uses.2.1 40 = .ok (.iload 4, 2) := by decide +kernel
theorem d_MO_uses_42 : decode s_MO_uses.2.1 42 = .ok (.iconst 4, 1) := by decide +kernel
theorem d_MO_uses_43 : decode s_MO_uses.2.1 43 = .ok (.if_icmp .ge 37, 3) := by decide +kernel
theorem d_MO_uses_46 : decode s_MO_uses.2.1 46 = .ok (.aload_n 0, 1) := by decide +kernel
theorem d_MO_uses_47 : decode s_MO_uses.2.1 47 = .ok (.getfield 107, 3) := by decide +kernel
theorem d_MO_uses_50 : decode s_MO_uses.2.1 50 = .ok (.bipush 64, 2) := by decide +kernel
theorem d_MO_uses_52 : decode s_MO_uses.2.1 52 = .ok (.iload_n 3, 1) := by decide +kernel
theorem d_MO_uses_53 : decode s_MO_uses.2.1 53 = .ok (.imul, 1) := by decide +kernel
theorem d_MO_uses_54 : decode s_MO_uses.2.1 54 = .ok (.iconst 4, 1) := by decide +kernel
theorem d_MO_uses_55 : decode s_MO_uses.2.1 55 = .ok (.iload_n 1, 1) := by decide +kernel
theorem d_MO_uses_56 : decode s_MO_uses.2.1 56 = .ok (.imul, 1) := by decide +kernel
theorem d_MO_uses_57 : decode s_MO_uses.2.1 57 = .ok (.iadd, 1) := by decide +kernel
theorem d_MO_uses_58 : decode s_MO_uses.2.1 58 = .ok (.iload 4, 2) := by decide +kernel
theorem d_MO_uses_60 : decode s_MO_uses.2.1 60 = .ok (.iadd, 1) := by decide +kernel
theorem d_MO_uses_61 : decode s_MO_uses.2.1 61 = .ok (.iaload, 1) := by decide +kernel
theorem d_MO_uses_62 : decode s_MO_uses.2.1 62 = .ok (.iconst (-1), 1) := by decide +kernel
theorem d_MO_uses_63 : decode s_MO_uses.2.1 63 = .ok (.if_icmp .eq 11, 3) := by decide +kernel
theorem d_MO_uses_66 : decode s_MO_uses.2.1 66 = .ok (.iload_n 2, 1) := by decide +kernel
theorem d_MO_uses_67 : decode s_MO_uses.2.1 67 = .ok (.aload_n 0, 1) := by decide +kernel
theorem d_MO_uses_68 : decode s_MO_uses.2.1 68 = .ok (.iload_n 3, 1) := by decide +kernel
theorem d_MO_uses_69 : decode s_MO_uses.2.1 69 = .ok (.invokevirtual 428, 3) := by decide +kernel
theorem d_MO_uses_72 : decode s_MO_uses.2.1 72 = .ok (.iadd, 1) := by decide +kernel
theorem d_MO_uses_73 : decode s_MO_uses.2.1 73 = .ok (.istore_n 2, 1) := by decide +kernel
theorem d_MO_uses_74 : decode s_MO_uses.2.1 74 = .ok (.iinc 4 1, 3) := by decide +kernel
theorem d_MO_uses_77 : decode s_MO_uses.2.1 77 = .ok (.goto (-37), 3) := by decide +kernel
theorem d_MO_uses_80 : decode s_MO_uses.2.1 80 = .ok (.iinc 3 1, 3) := by decide +kernel
theorem d_MO_uses_83 : decode s_MO_uses.2.1 83 = .ok (.goto (-54), 3) := by decide +kernel
theorem d_MO_uses_86 : decode s_MO_uses.2.1 86 = .ok (.iload_n 2, 1) := by decide +kernel
theorem d_MO_uses_87 : decode s_MO_uses.2.1 87 = .ok (.ireturn, 1) := by decide +kernel
theorem d_MO_withoutOf_0 : decode s_MO_withoutOf.2.1 0 = .ok (.iload_n 1, 1) := by decide +kernel
theorem d_MO_withoutOf_1 : decode s_MO_withoutOf.2.1 1 = .ok (.ifCond .ne 10, 3) := by decide +kernel
theorem d_MO_withoutOf_4 : decode s_MO_withoutOf.2.1 4 = .ok (.aload_n 0, 1) := by decide +kernel
theorem d_MO_withoutOf_5 : decode s_MO_withoutOf.2.1 5 = .ok (.getfield 380, 3) := by decide +kernel
theorem d_MO_withoutOf_8 : decode s_MO_withoutOf.2.1 8 = .ok (.goto 30, 3) := by decide +kernel
theorem d_MO_withoutOf_11 : decode s_MO_withoutOf.2.1 11 = .ok (.iload_n 1, 1) := by decide +kernel
theorem d_MO_withoutOf_12 : decode s_MO_withoutOf.2.1 12 = .ok (.iconst 4, 1) := by decide +kernel
theorem d_MO_withoutOf_13 : decode s_MO_withoutOf.2.1 13 = .ok (.if_icmp .ne 11, 3) := by decide +kernel
theorem d_MO_withoutOf_16 : decode s_MO_withoutOf.2.1 16 = .ok (.aload_n 0, 1) := by decide +kernel
theorem d_MO_withoutOf_17 : decode s_MO_withoutOf.2.1 17 = .ok (.iconst 0, 1) := by decide +kernel
theorem d_MO_withoutOf_18 : decode s_MO_withoutOf.2.1 18 = .ok (.invokevirtual 551, 3) := by decide +kernel
theorem d_MO_withoutOf_21 : decode s_MO_withoutOf.2.1 21 = .ok (.goto 17, 3) := by decide +kernel
theorem d_MO_withoutOf_24 : decode s_MO_withoutOf.2.1 24 = .ok (.aload_n 0, 1) := by decide +kernel
theorem d_MO_withoutOf_25 : decode s_MO_withoutOf.2.1 25 = .ok (.iload_n 1, 1) := by decide +kernel
theorem d_MO_withoutOf_26 : decode s_MO_withoutOf.2.1 26 = .ok (.iconst 1, 1) := by decide +kernel
theorem d_MO_withoutOf_27 : decode s_MO_withoutOf.2.1 27 = .ok (.if_icmp .ne 7, 3) := by decide +kernel
theorem d_MO_withoutOf_30 : decode s_MO_withoutOf.2.1 30 = .ok (.iconst 0, 1) := by decide +kernel
theorem d_MO_withoutOf_31 : decode s_MO_withoutOf.2.1 31 = .ok (.goto 4, 3) := by decide +kernel
theorem d_MO_withoutOf_34 : decode s_MO_withoutOf.2.1 34 = .ok (.iload_n 1, 1) := by decide +kernel
theorem d_MO_withoutOf_35 : decode s_MO_withoutOf.2.1 35 = .ok (.invokevirtual 510, 3) := by decide +kernel
theorem d_MO_withoutOf_38 : decode s_MO_withoutOf.2.1 38 = .ok (.ireturn, 1) := by decide +kernel
theorem d_MO_without_0 : decode s_MO_without.2.1 0 = .ok (.aload_n 0, 1) := by decide +kernel
theorem d_MO_without_1 : decode s_MO_without.2.1 1 = .ok (.getfield 321, 3) := by decide +kernel
theorem d_MO_without_4 : decode s_MO_without.2.1 4 = .ok (.ifCond .eq 31, 3) := by decide +kernel
theorem d_MO_without_7 : decode s_MO_without.2.1 7 = .ok (.iload_n 1, 1) := by decide +kernel
theorem d_MO_without_8 : decode s_MO_without.2.1 8 = .ok (.i2l, 1) := by decide +kernel
theorem d_MO_without_9 : decode s_MO_without.2.1 9 = .ok (.lconst 0, 1) := by decide +kernel
theorem d_MO_without_10 : decode s_MO_without.2.1 10 = .ok (.aload_n 0, 1) := by decide +kernel
theorem d_MO_without_11 : decode s_MO_without.2.1 11 = .ok (.invokevirtual 400, 3) := by decide +kernel
theorem d_MO_without_14 : decode s_MO_without.2.1 14 = .ok (.iconst 1, 1) := by decide +kernel
theorem d_MO_without_15 : decode s_MO_without.2.1 15 = .ok (.isub, 1) := by decide +kernel
theorem d_MO_without_16 : decode s_MO_without.2.1 16 = .ok (.i2l, 1) := by decide +kernel
theorem d_MO_without_17 : decode s_MO_without.2.1 17 = .ok (.invokestatic 210, 3) := by decide +kernel
theorem d_MO_without_20 : decode s_MO_without.2.1 20 = .ok (.ifCond .eq 15, 3) := by decide +kernel
theorem d_MO_without_23 : decode s_MO_without.2.1 23 = .ok (.iload_n 2, 1) := by decide +kernel
theorem d_MO_without_24 : decode s_MO_without.2.1 24 = .ok (.i2l, 1) := by decide +kernel
theorem d_MO_without_25 : decode s_MO_without.2.1 25 = .ok (.lconst 0, 1) := by decide +kernel
theorem d_MO_without_26 : decode s_MO_without.2.1 26 = .ok (.ldc2_w 554, 3) := by decide +kernel
theorem d_MO_without_29 : decode s_MO_without.2.1 29 = .ok (.invokestatic 210, 3) := by decide +kernel
theorem d_MO_without_32 : decode s_MO_without.2.1 32 = .ok (.ifCond .ne 5, 3) := by decide +kernel
theorem d_MO_without_35 : decode s_MO_without.2.1 35 = .ok (.iconst (-1), 1) := by decide +kernel
theorem d_MO_without_36 : decode s_MO_without.2.1 36 = .ok (.ireturn, 1) := by decide +kernel
theorem d_MO_without_37 : decode s_MO_without.2.1 37 = .ok (.aload_n 0, 1) := by decide +kernel
theorem d_MO_without_38 : decode s_MO_without.2.1 38 = .ok (.iload_n 1, 1) := by decide +kernel
theorem d_MO_without_39 : decode s_MO_without.2.1 39 = .ok (.invokevirtual 502, 3) := by decide +kernel
theorem d_MO_without_42 : decode s_MO_without.2.1 42 = .ok (.aload_n 0, 1) := by decide +kernel
theorem d_MO_without_43 : decode s_MO_without.2.1 43 = .ok (.iload_n 2, 1) := by decide +kernel
theorem d_MO_without_44 : decode s_MO_without.2.1 44 = .ok (.invokevirtual 556, 3) := by decide +kernel
theorem d_MO_without_47 : decode s_MO_without.2.1 47 = .ok (.ireturn, 1) := by decide +kernel
theorem d_MO_isBetter_0 : decode s_MO_isBetter.2.1 0 = .ok (.iconst 2, 1) := by decide +kernel
theorem d_MO_isBetter_1 : decode s_MO_isBetter.2.1 1 = .ok (.istore_n 1, 1) := by decide +kernel
theorem d_MO_isBetter_2 : decode s_MO_isBetter.2.1 2 = .ok (.iload_n 1, 1) := by decide +kernel
theorem d_MO_isBetter_3 : decode s_MO_isBetter.2.1 3 = .ok (.iconst 5, 1) := by decide +kernel
theorem d_MO_isBetter_4 : decode s_MO_isBetter.2.1 4 = .ok (.if_icmp .ge 41, 3) := by decide +kernel
theorem d_MO_isBetter_7 : decode s_MO_isBetter.2.1 7 = .ok (.aload_n 0, 1) := by decide +kernel
theorem d_MO_isBetter_8 : decode s_MO_isBetter.2.1 8 = .ok (.iload_n 1, 1) := by decide +kernel
theorem d_MO_isBetter_9 : decode s_MO_isBetter.2.1 9 = .ok (.invokevirtual 556, 3) := by decide +kernel
theorem d_MO_isBetter_12 : decode s_MO_isBetter.2.1 12 = .ok (.istore_n 2, 1) := by decide +kernel
theorem d_MO_isBetter_13 : decode s_MO_isBetter.2.1 13 = .ok (.iload_n 2, 1) := by decide +kernel
theorem d_MO_isBetter_14 : decode s_MO_isBetter.2.1 14 = .ok (.aload_n 0, 1) := by decide +kernel
theorem d_MO_isBetter_15 : decode s_MO_isBetter.2.1 15 = .ok (.getfield 172, 3) := by decide +kernel
theorem d_MO_isBetter_18 : decode s_MO_isBetter.2.1 18 = .ok (.iload_n 1, 1) := by decide +kernel
theorem d_MO_isBetter_19 : decode s_MO_isBetter.2.1 19 = .ok (.iaload, 1) := by decide +kernel
theorem d_MO_isBetter_20 : decode s_MO_isBetter.2.1 20 = .ok (.if_icmp .eq 19, 3) := by decide +kernel
theorem d_MO_isBetter_23 : decode s_MO_isBetter.2.1 23 = .ok (.iload_n 2, 1) := by decide +kernel
theorem d_MO_isBetter_24 : decode s_MO_isBetter.2.1 24 = .ok (.aload_n 0, 1) := by decide +kernel
theorem d_MO_isBetter_25 : decode s_MO_isBetter.2.1 25 = .ok (.getfield 172, 3) := by decide +kernel
theorem d_MO_isBetter_28 : decode s_MO_isBetter.2.1 28 = .ok (.iload_n 1, 1) := by decide +kernel
theorem d_MO_isBetter_29 : decode s_MO_isBetter.2.1 29 = .ok (.iaload, 1) := by decide +kernel
theorem d_MO_isBetter_30 : decode s_MO_isBetter.2.1 30 = .ok (.if_icmp .ge 7, 3) := by decide +kernel
theorem d_MO_isBetter_33 : decode s_MO_isBetter.2.1 33 = .ok (.iconst 1, 1) := by decide +kernel
theorem d_MO_isBetter_34 : decode s_MO_isBetter.2.1 34 = .ok (.goto 4, 3) := by decide +kernel
theorem d_MO_isBetter_37 : decode s_MO_isBetter.2.1 37 = .ok (.iconst 0, 1) := by decide +kernel
theorem d_MO_isBetter_38 : decode s_MO_isBetter.2.1 38 = .ok (.ireturn, 1) := by decide +kernel
theorem d_MO_isBetter_39 : decode s_MO_isBetter.2.1 39 = .ok (.iinc 1 1, 3) := by decide +kernel
theorem d_MO_isBetter_42 : decode s_MO_isBetter.2.1 42 = .ok (.goto (-40), 3) := by decide +kernel
theorem d_MO_isBetter_45 : decode s_MO_isBetter.2.1 45 = .ok (.iconst 0, 1) := by decide +kernel
theorem d_MO_isBetter_46 : decode s_MO_isBetter.2.1 46 = .ok (.ireturn, 1) := by decide +kernel
theorem d_MO_mend_0 : decode s_MO_mend.2.1 0 = .ok (.aload_n 0, 1) := by decide +kernel
theorem d_MO_mend_1 : decode s_MO_mend.2.1 1 = .ok (.getfield 321, 3) := by decide +kernel
theorem d_MO_mend_4 : decode s_MO_mend.2.1 4 = .ok (.ifCond .eq 10, 3) := by decide +kernel
theorem d_MO_mend_7 : decode s_MO_mend.2.1 7 = .ok (.aload_n 0, 1) := by decide +kernel
theorem d_MO_mend_8 : decode s_MO_mend.2.1 8 = .ok (.invokevirtual 400, 3) := by decide +kernel
theorem d_MO_mend_11 : decode s_MO_mend.2.1 11 = .ok (.ifCond .ne 5, 3) := by decide +kernel
theorem d_MO_mend_14 : decode s_MO_mend.2.1 14 = .ok (.iconst (-1), 1) := by decide +kernel
theorem d_MO_mend_15 : decode s_MO_mend.2.1 15 = .ok (.ireturn, 1) := by decide +kernel
theorem d_MO_mend_16 : decode s_MO_mend.2.1 16 = .ok (.iconst (-1), 1) := by decide +kernel
theorem d_MO_mend_17 : decode s_MO_mend.2.1 17 = .ok (.istore_n 1, 1) := by decide +kernel
theorem d_MO_mend_18 : decode s_MO_mend.2.1 18 = .ok (.iconst 0, 1) := by decide +kernel
theorem d_MO_mend_19 : decode s_MO_mend.2.1 19 = .ok (.istore_n 2, 1) := by decide +kernel
theorem d_MO_mend_20 : decode s_MO_mend.2.1 20 = .ok (.iload_n 2, 1) := by decide +kernel
theorem d_MO_mend_21 : decode s_MO_mend.2.1 21 = .ok (.aload_n 0, 1) := by decide +kernel
theorem d_MO_mend_22 : decode s_MO_mend.2.1 22 = .ok (.invokevirtual 400, 3) := by decide +kernel
theorem d_MO_mend_25 : decode s_MO_mend.2.1 25 = .ok (.if_icmp .ge 55, 3) := by decide +kernel
theorem d_MO_mend_28 : decode s_MO_mend.2.1 28 = .ok (.aload_n 0, 1) := by decide +kernel
theorem d_MO_mend_29 : decode s_MO_mend.2.1 29 = .ok (.iload_n 2, 1) := by decide +kernel
theorem d_MO_mend_30 : decode s_MO_mend.2.1 30 = .ok (.invokevirtual 502, 3) := by decide +kernel
theorem d_MO_mend_33 : decode s_MO_mend.2.1 33 = .ok (.iload_n 1, 1) := by decide +kernel
theorem d_MO_mend_34 : decode s_MO_mend.2.1 34 = .ok (.iconst (-1), 1) := by decide +kernel
theorem d_MO_mend_35 : decode s_MO_mend.2.1 35 = .ok (.if_icmp .eq 13, 3) := by decide +kernel
theorem d_MO_mend_38 : decode s_MO_mend.2.1 38 = .ok (.aload_n 0, 1) := by decide +kernel
theorem d_MO_mend_39 : decode s_MO_mend.2.1 39 = .ok (.invokevirtual 559, 3) := by decide +kernel
theorem d_MO_mend_42 : decode s_MO_mend.2.1 42 = .ok (.ifCond .ne 6, 3) := by decide +kernel
theorem d_MO_mend_45 : decode s_MO_mend.2.1 45 = .ok (.goto 29, 3) := by decide +kernel
theorem d_MO_mend_48 : decode s_MO_mend.2.1 48 = .ok (.iload_n 2, 1) := by decide +kernel
theorem d_MO_mend_49 : decode s_MO_mend.2.1 49 = .ok (.istore_n 1, 1) := by decide +kernel
theorem d_MO_mend_50 : decode s_MO_mend.2.1 50 = .ok (.iconst 2, 1) := by decide +kernel
theorem d_MO_mend_51 : decode s_MO_mend.2.1 51 = .ok (.istore_n 3, 1) := by decide +kernel
theorem d_MO_mend_52 : decode s_MO_mend.2.1 52 = .ok (.iload_n 3, 1) := by decide +kernel
theorem d_MO_mend_53 : decode s_MO_mend.2.1 53 = .ok (.iconst 5, 1) := by decide +kernel
theorem d_MO_mend_54 : decode s_MO_mend.2.1 54 = .ok (.if_icmp .ge 20, 3) := by decide +kernel
theorem d_MO_mend_57 : decode s_MO_mend.2.1 57 = .ok (.aload_n 0, 1) := by decide +kernel
theorem d_MO_mend_58 : decode s_MO_mend.2.1 58 = .ok (.getfield 172, 3) := by decide +kernel
theorem d_MO_mend_61 : decode s_MO_mend.2.1 61 = .ok (.iload_n 3, 1) := by decide +kernel
theorem d_MO_mend_62 : decode s_MO_mend.2.1 62 = .ok (.aload_n 0, 1) := by decide +kernel
theorem d_MO_mend_63 : decode s_MO_mend.2.1 63 = .ok (.iload_n 3, 1) := by decide +kernel
theorem d_MO_mend_64 : decode s_MO_mend.2.1 64 = .ok (.invokevirtual 556, 3) := by decide +kernel
theorem d_MO_mend_67 : decode s_MO_mend.2.1 67 = .ok (.iastore, 1) := by decide +kernel
theorem d_MO_mend_68 : decode s_MO_mend.2.1 68 = .ok (.iinc 3 1, 3) := by decide +kernel
theorem d_MO_mend_71 : decode s_MO_mend.2.1 71 = .ok (.goto (-19), 3) := by decide +kernel
theorem d_MO_mend_74 : decode s_MO_mend.2.1 74 = .ok (.iinc 2 1, 3) := by decide +kernel
theorem d_MO_mend_77 : decode s_MO_mend.2.1 77 = .ok (.goto (-57), 3) := by decide +kernel
theorem d_MO_mend_80 : decode s_MO_mend.2.1 80 = .ok (.iload_n 1, 1) := by decide +kernel
theorem d_MO_mend_81 : decode s_MO_mend.2.1 81 = .ok (.ireturn, 1) := by decide +kernel
theorem d_MO_undo_0 : decode s_MO_undo.2.1 0 = .ok (.aload_n 0, 1) := by decide +kernel
theorem d_MO_undo_1 : decode s_MO_undo.2.1 1 = .ok (.getfield 328, 3) := by decide +kernel
theorem d_MO_undo_4 : decode s_MO_undo.2.1 4 = .ok (.ifCond .ne 9, 3) := by decide +kernel
theorem d_MO_undo_7 : decode s_MO_undo.2.1 7 = .ok (.aload_n 0, 1) := by decide +kernel
theorem d_MO_undo_8 : decode s_MO_undo.2.1 8 = .ok (.iconst 4, 1) := by decide +kernel
theorem d_MO_undo_9 : decode s_MO_undo.2.1 9 = .ok (.invokevirtual 204, 3) := by decide +kernel
theorem d_MO_undo_12 : decode s_MO_undo.2.1 12 = .ok (.ireturn, 1) := by decide +kernel
theorem d_MO_undo_13 : decode s_MO_undo.2.1 13 = .ok (.aload_n 0, 1) := by decide +kernel
theorem d_MO_undo_14 : decode s_MO_undo.2.1 14 = .ok (.aload_n 0, 1) := by decide +kernel
theorem d_MO_undo_15 : decode s_MO_undo.2.1 15 = .ok (.getfield 175, 3) := by decide +kernel
theorem d_MO_undo_18 : decode s_MO_undo.2.1 18 = .ok (.aload_n 0, 1) := by decide +kernel
theorem d_MO_undo_19 : decode s_MO_undo.2.1 19 = .ok (.getfield 562, 3) := by decide +kernel
theorem d_MO_undo_22 : decode s_MO_undo.2.1 22 = .ok (.laload, 1) := by decide +kernel
theorem d_MO_undo_23 : decode s_MO_undo.2.1 23 = .ok (.putfield 325, 3) := by decide +kernel
theorem d_MO_undo_26 : decode s_MO_undo.2.1 26 = .ok (.aload_n 0, 1) := by decide +kernel
theorem d_MO_undo_27 : decode s_MO_undo.2.1 27 = .ok (.aload_n 0, 1) := by decide +kernel
theorem d_MO_undo_28 : decode s_MO_undo.2.1 28 = .ok (.getfield 562, 3) := by decide +kernel
theorem d_MO_undo_31 : decode s_MO_undo.2.1 31 = .ok (.bipush 20, 2) := by decide +kernel
theorem d_MO_undo_33 : decode s_MO_undo.2.1 33 = .ok (.iadd, 1) := by decide +kernel
theorem d_MO_undo_34 : decode s_MO_undo.2.1 34 = .ok (.iconst 1, 1) := by decide +kernel
theorem d_MO_undo_35 : decode s_MO_undo.2.1 35 = .ok (.isub, 1) := by decide +kernel
theorem d_MO_undo_36 : decode s_MO_undo.2.1 36 = .ok (.bipush 20, 2) := by decide +kernel
theorem d_MO_undo_38 : decode s_MO_undo.2.1 38 = .ok (.irem, 1) := by decide +kernel
theorem d_MO_undo_39 : decode s_MO_undo.2.1 39 = .ok (.putfield 562, 3) := by decide +kernel
theorem d_MO_undo_42 : decode s_MO_undo.2.1 42 = .ok (.aload_n 0, 1) := by decide +kernel
theorem d_MO_undo_43 : decode s_MO_undo.2.1 43 = .ok (.dup, 1) := by decide +kernel
theorem d_MO_undo_44 : decode s_MO_undo.2.1 44 = .ok (.getfield 328, 3) := by decide +kernel
theorem d_MO_undo_47 : decode s_MO_undo.2.1 47 = .ok (.iconst 1, 1) := by decide +kernel
theorem d_MO_undo_48 : decode s_MO_undo.2.1 48 = .ok (.isub, 1) := by decide +kernel
theorem d_MO_undo_49 : decode s_MO_undo.2.1 49 = .ok (.putfield 328, 3) := by decide +kernel
theorem d_MO_undo_52 : decode s_MO_undo.2.1 52 = .ok (.iconst 1, 1) := by decide +kernel
theorem d_MO_undo_53 : decode s_MO_undo.2.1 53 = .ok (.ireturn, 1) := by decide +kernel
theorem d_MO_now_0 : decode s_MO_now.2.1 0 = .ok (.aload_n 0, 1) := by decide +kernel
theorem d_MO_now_1 : decode s_MO_now.2.1 1 = .ok (.invokevirtual 505, 3) := by decide +kernel
theorem d_MO_now_4 : decode s_MO_now.2.1 4 = .ok (.ifCond .eq 44, 3) := by decide +kernel
theorem d_MO_now_7 : decode s_MO_now.2.1 7 = .ok (.iload_n 1, 1) := by decide +kernel
theorem d_MO_now_8 : decode s_MO_now.2.1 8 = .ok (.i2l, 1) := by decide +kernel
theorem d_MO_now_9 : decode s_MO_now.2.1 9 = .ok (.ldc2_w 565, 3) := by decide +kernel
theorem d_MO_now_12 : decode s_MO_now.2.1 12 = .ok (.aload_n 0, 1) := by decide +kernel
theorem d_MO_now_13 : decode s_MO_now.2.1 13 = .ok (.invokevirtual 358, 3) := by decide +kernel
theorem d_MO_now_16 : decode s_MO_now.2.1 16 = .ok (.iconst 1, 1) := by decide +kernel
theorem d_MO_now_17 : decode s_MO_now.2.1 17 = .ok (.isub, 1) := by decide +kernel
theorem d_MO_now_18 : decode s_MO_now.2.1 18 = .ok (.i2l, 1) := by decide +kernel
theorem d_MO_now_19 : decode s_MO_now.2.1 19 = .ok (.invokestatic 210, 3) := by decide +kernel
theorem d_MO_now_22 : decode s_MO_now.2.1 22 = .ok (.ifCond .eq 26, 3) := by decide +kernel
theorem d_MO_now_25 : decode s_MO_now.2.1 25 = .ok (.iload_n 2, 1) := by decide +kernel
theorem d_MO_now_26 : decode s_MO_now.2.1 26 = .ok (.i2l, 1) := by decide +kernel
theorem d_MO_now_27 : decode s_MO_now.2.1 27 = .ok (.lconst 0, 1) := by decide +kernel
theorem d_MO_now_28 : decode s_MO_now.2.1 28 = .ok (.iload_n 1, 1) := by decide +kernel
theorem d_MO_now_29 : decode s_MO_now.2.1 29 = .ok (.iconst (-1), 1) := by decide +kernel
theorem d_MO_now_30 : decode s_MO_now.2.1 30 = .ok (.if_icmp .ne 9, 3) := by decide +kernel
theorem d_MO_now_33 : decode s_MO_now.2.1 33 = .ok (.ldc2_w 516, 3) := by decide +kernel
theorem d_MO_now_36 : decode s_MO_now.2.1 36 = .ok (.goto 6, 3) := by decide +kernel
theorem d_MO_now_39 : decode s_MO_now.2.1 39 = .ok (.ldc2_w 546, 3) := by decide +kernel
theorem d_MO_now_42 : decode s_MO_now.2.1 42 = .ok (.invokestatic 210, 3) := by decide +kernel
theorem d_MO_now_45 : decode s_MO_now.2.1 45 = .ok (.ifCond .ne 5, 3) := by decide +kernel
theorem d_MO_now_48 : decode s_MO_now.2.1 48 = .ok (.iconst (-1), 1) := by decide +kernel
theorem d_MO_now_49 : decode s_MO_now.2.1 49 = .ok (.ireturn, 1) := by decide +kernel
theorem d_MO_now_50 : decode s_MO_now.2.1 50 = .ok (.aload_n 0, 1) := by decide +kernel
theorem d_MO_now_51 : decode s_MO_now.2.1 51 = .ok (.aload_n 0, 1) := by decide +kernel
theorem d_MO_now_52 : decode s_MO_now.2.1 52 = .ok (.getfield 325, 3) := by decide +kernel
theorem d_MO_now_55 : decode s_MO_now.2.1 55 = .ok (.invokevirtual 415, 3) := by decide +kernel
theorem d_MO_now_58 : decode s_MO_now.2.1 58 = .ok (.iload_n 1, 1) := by decide +kernel
theorem d_MO_now_59 : decode s_MO_now.2.1 59 = .ok (.iconst (-1), 1) := by decide +kernel
theorem d_MO_now_60 : decode s_MO_now.2.1 60 = .ok (.if_icmp .eq 10, 3) := by decide +kernel
theorem d_MO_now_63 : decode s_MO_now.2.1 63 = .ok (.aload_n 0, 1) := by decide +kernel
theorem d_MO_now_64 : decode s_MO_now.2.1 64 = .ok (.iload_n 1, 1) := by decide +kernel
theorem d_MO_now_65 : decode s_MO_now.2.1 65 = .ok (.iload_n 2, 1) := by decide +kernel
theorem d_MO_now_66 : decode s_MO_now.2.1 66 = .ok (.invokevirtual 529, 3) := by decide +kernel
theorem d_MO_now_69 : decode s_MO_now.2.1 69 = .ok (.ireturn, 1) := by decide +kernel
theorem d_MO_now_70 : decode s_MO_now.2.1 70 = .ok (.iload_n 2, 1) := by decide +kernel
theorem d_MO_now_71 : decode s_MO_now.2.1 71 = .ok (.ifCond .ne 10, 3) := by decide +kernel
theorem d_MO_now_74 : decode s_MO_now.2.1 74 = .ok (.aload_n 0, 1) := by decide +kernel
theorem d_MO_now_75 : decode s_MO_now.2.1 75 = .ok (.getfield 334, 3) := by decide +kernel
theorem d_MO_now_78 : decode s_MO_now.2.1 78 = .ok (.goto 35, 3) := by decide +kernel
theorem d_MO_now_81 : decode s_MO_now.2.1 81 = .ok (.iload_n 2, 1) := by decide +kernel
theorem d_MO_now_82 : decode s_MO_now.2.1 82 = .ok (.iconst 1, 1) := by decide +kernel
theorem d_MO_now_83 : decode s_MO_now.2.1 83 = .ok (.if_icmp .ne 14, 3) := by decide +kernel
theorem d_MO_now_86 : decode s_MO_now.2.1 86 = .ok (.aload_n 0, 1) := by decide +kernel
theorem d_MO_now_87 : decode s_MO_now.2.1 87 = .ok (.aload_n 0, 1) := by decide +kernel
theorem d_MO_now_88 : decode s_MO_now.2.1 88 = .ok (.getfield 325, 3) := by decide +kernel
theorem d_MO_now_91 : decode s_MO_now.2.1 91 = .ok (.invokevirtual 536, 3) := by decide +kernel
theorem d_MO_now_94 : decode s_MO_now.2.1 94 = .ok (.goto 19, 3) := by decide +kernel
theorem d_MO_now_97 : decode s_MO_now.2.1 97 = .ok (.aload_n 0, 1) := by decide +kernel
theorem d_MO_now_98 : decode s_MO_now.2.1 98 = .ok (.aload_n 0, 1) := by decide +kernel
theorem d_MO_now_99 : decode s_MO_now.2.1 99 = .ok (.getfield 325, 3) := by decide +kernel
theorem d_MO_now_102 : decode s_MO_now.2.1 102 = .ok (.invokevirtual 434, 3) := by decide +kernel
theorem d_MO_now_105 : decode s_MO_now.2.1 105 = .ok (.ifCond .eq 7, 3) := by decide +kernel
theorem d_MO_now_108 : decode s_MO_now.2.1 108 = .ok (.iconst 1, 1) := by decide +kernel
theorem d_MO_now_109 : decode s_MO_now.2.1 109 = .ok (.goto 4, 3) := by decide +kernel
theorem d_MO_now_112 : decode s_MO_now.2.1 112 = .ok (.iconst 0, 1) := by decide +kernel
theorem d_MO_now_113 : decode s_MO_now.2.1 113 = .ok (.ireturn, 1) := by decide +kernel
theorem d_MO_can_0 : decode s_MO_can.2.1 0 = .ok (.aload_n 0, 1) := by decide +kernel
theorem d_MO_can_1 : decode s_MO_can.2.1 1 = .ok (.invokevirtual 505, 3) := by decide +kernel
theorem d_MO_can_4 : decode s_MO_can.2.1 4 = .ok (.ifCond .eq 12, 3) := by decide +kernel
theorem d_MO_can_7 : decode s_MO_can.2.1 7 = .ok (.aload_n 0, 1) := by decide +kernel
theorem d_MO_can_8 : decode s_MO_can.2.1 8 = .ok (.iload_n 1, 1) := by decide +kernel
theorem d_MO_can_9 : decode s_MO_can.2.1 9 = .ok (.iload_n 2, 1) := by decide +kernel
theorem d_MO_can_10 : decode s_MO_can.2.1 10 = .ok (.invokevirtual 532, 3) := by decide +kernel
theorem d_MO_can_13 : decode s_MO_can.2.1 13 = .ok (.ifCond .ne 5, 3) := by decide +kernel
theorem d_MO_can_16 : decode s_MO_can.2.1 16 = .ok (.iconst (-1), 1) := by decide +kernel
theorem d_MO_can_17 : decode s_MO_can.2.1 17 = .ok (.ireturn, 1) := by decide +kernel
theorem d_MO_can_18 : decode s_MO_can.2.1 18 = .ok (.aload_n 0, 1) := by decide +kernel
theorem d_MO_can_19 : decode s_MO_can.2.1 19 = .ok (.aload_n 0, 1) := by decide +kernel
theorem d_MO_can_20 : decode s_MO_can.2.1 20 = .ok (.getfield 325, 3) := by decide +kernel
theorem d_MO_can_23 : decode s_MO_can.2.1 23 = .ok (.invokevirtual 415, 3) := by decide +kernel
theorem d_MO_can_26 : decode s_MO_can.2.1 26 = .ok (.aload_n 0, 1) := by decide +kernel
theorem d_MO_can_27 : decode s_MO_can.2.1 27 = .ok (.iload_n 1, 1) := by decide +kernel
theorem d_MO_can_28 : decode s_MO_can.2.1 28 = .ok (.iload_n 2, 1) := by decide +kernel
theorem d_MO_can_29 : decode s_MO_can.2.1 29 = .ok (.invokevirtual 419, 3) := by decide +kernel
theorem d_MO_can_32 : decode s_MO_can.2.1 32 = .ok (.ifCond .eq 7, 3) := by decide +kernel
theorem d_MO_can_35 : decode s_MO_can.2.1 35 = .ok (.iconst 1, 1) := by decide +kernel
theorem d_MO_can_36 : decode s_MO_can.2.1 36 = .ok (.goto 4, 3) := by decide +kernel
theorem d_MO_can_39 : decode s_MO_can.2.1 39 = .ok (.iconst 0, 1) := by decide +kernel
theorem d_MO_can_40 : decode s_MO_can.2.1 40 = .ok (.ireturn, 1) := by decide +kernel
theorem d_MO_keeps_0 : decode s_MO_keeps.2.1 0 = .ok (.aload_n 0, 1) := by decide +kernel
theorem d_MO_keeps_1 : decode s_MO_keeps.2.1 1 = .ok (.aload_n 0, 1) := by decide +kernel
theorem d_MO_keeps_2 : decode s_MO_keeps.2.1 2 = .ok (.getfield 562, 3) := by decide +kernel
theorem d_MO_keeps_5 : decode s_MO_keeps.2.1 5 = .ok (.iconst 1, 1) := by decide +kernel
theorem d_MO_keeps_6 : decode s_MO_keeps.2.1 6 = .ok (.iadd, 1) := by decide +kernel
theorem d_MO_keeps_7 : decode s_MO_keeps.2.1 7 = .ok (.bipush 20, 2) := by decide +kernel
theorem d_MO_keeps_9 : decode s_MO_keeps.2.1 9 = .ok (.irem, 1) := by decide +kernel
theorem d_MO_keeps_10 : decode s_MO_keeps.2.1 10 = .ok (.putfield 562, 3) := by decide +kernel
theorem d_MO_keeps_13 : decode s_MO_keeps.2.1 13 = .ok (.aload_n 0, 1) := by decide +kernel
theorem d_MO_keeps_14 : decode s_MO_keeps.2.1 14 = .ok (.getfield 175, 3) := by decide +kernel
theorem d_MO_keeps_17 : decode s_MO_keeps.2.1 17 = .ok (.aload_n 0, 1) := by decide +kernel
theorem d_MO_keeps_18 : decode s_MO_keeps.2.1 18 = .ok (.getfield 562, 3) := by decide +kernel
theorem d_MO_keeps_21 : decode s_MO_keeps.2.1 21 = .ok (.aload_n 0, 1) := by decide +kernel
theorem d_MO_keeps_22 : decode s_MO_keeps.2.1 22 = .ok (.getfield 325, 3) := by decide +kernel
theorem d_MO_keeps_25 : decode s_MO_keeps.2.1 25 = .ok (.lastore, 1) := by decide +kernel
theorem d_MO_keeps_26 : decode s_MO_keeps.2.1 26 = .ok (.aload_n 0, 1) := by decide +kernel
theorem d_MO_keeps_27 : decode s_MO_keeps.2.1 27 = .ok (.getfield 328, 3) := by decide +kernel
theorem d_MO_keeps_30 : decode s_MO_keeps.2.1 30 = .ok (.bipush 20, 2) := by decide +kernel
theorem d_MO_keeps_32 : decode s_MO_keeps.2.1 32 = .ok (.if_icmp .ge 13, 3) := by decide +kernel
theorem d_MO_keeps_35 : decode s_MO_keeps.2.1 35 = .ok (.aload_n 0, 1) := by decide +kernel
theorem d_MO_keeps_36 : decode s_MO_keeps.2.1 36 = .ok (.dup, 1) := by decide +kernel
theorem d_MO_keeps_37 : decode s_MO_keeps.2.1 37 = .ok (.getfield 328, 3) := by decide +kernel
theorem d_MO_keeps_40 : decode s_MO_keeps.2.1 40 = .ok (.iconst 1, 1) := by decide +kernel
theorem d_MO_keeps_41 : decode s_MO_keeps.2.1 41 = .ok (.iadd, 1) := by decide +kernel
theorem d_MO_keeps_42 : decode s_MO_keeps.2.1 42 = .ok (.putfield 328, 3) := by decide +kernel
theorem d_MO_keeps_45 : decode s_MO_keeps.2.1 45 = .ok (.return_, 1) := by decide +kernel
theorem d_MO_move_0 : decode s_MO_move.2.1 0 = .ok (.aload_n 0, 1) := by decide +kernel
theorem d_MO_move_1 : decode s_MO_move.2.1 1 = .ok (.iload_n 1, 1) := by decide +kernel
theorem d_MO_move_2 : decode s_MO_move.2.1 2 = .ok (.iload_n 2, 1) := by decide +kernel
theorem d_MO_move_3 : decode s_MO_move.2.1 3 = .ok (.invokevirtual 567, 3) := by decide +kernel
theorem d_MO_move_6 : decode s_MO_move.2.1 6 = .ok (.iconst 1, 1) := by decide +kernel
theorem d_MO_move_7 : decode s_MO_move.2.1 7 = .ok (.if_icmp .eq 9, 3) := by decide +kernel
theorem d_MO_move_10 : decode s_MO_move.2.1 10 = .ok (.aload_n 0, 1) := by decide +kernel
theorem d_MO_move_11 : decode s_MO_move.2.1 11 = .ok (.iconst 2, 1) := by decide +kernel
theorem d_MO_move_12 : decode s_MO_move.2.1 12 = .ok (.invokevirtual 200, 3) := by decide +kernel
theorem d_MO_move_15 : decode s_MO_move.2.1 15 = .ok (.ireturn, 1) := by decide +kernel
theorem d_MO_move_16 : decode s_MO_move.2.1 16 = .ok (.aload_n 0, 1) := by decide +kernel
theorem d_MO_move_17 : decode s_MO_move.2.1 17 = .ok (.invokevirtual 570, 3) := by decide +kernel
theorem d_MO_move_20 : decode s_MO_move.2.1 20 = .ok (.aload_n 0, 1) := by decide +kernel
theorem d_MO_move_21 : decode s_MO_move.2.1 21 = .ok (.aload_n 0, 1) := by decide +kernel
theorem d_MO_move_22 : decode s_MO_move.2.1 22 = .ok (.invokevirtual 392, 3) := by decide +kernel
theorem d_MO_move_25 : decode s_MO_move.2.1 25 = .ok (.putfield 325, 3) := by decide +kernel
theorem d_MO_move_28 : decode s_MO_move.2.1 28 = .ok (.aload_n 0, 1) := by decide +kernel
theorem d_MO_move_29 : decode s_MO_move.2.1 29 = .ok (.aload_n 0, 1) := by decide +kernel
theorem d_MO_move_30 : decode s_MO_move.2.1 30 = .ok (.getfield 325, 3) := by decide +kernel
theorem d_MO_move_33 : decode s_MO_move.2.1 33 = .ok (.invokevirtual 536, 3) := by decide +kernel
theorem d_MO_move_36 : decode s_MO_move.2.1 36 = .ok (.ireturn, 1) := by decide +kernel
theorem d_MO_jump_0 : decode s_MO_jump.2.1 0 = .ok (.aload_n 0, 1) := by decide +kernel
theorem d_MO_jump_1 : decode s_MO_jump.2.1 1 = .ok (.iload_n 1, 1) := by decide +kernel
theorem d_MO_jump_2 : decode s_MO_jump.2.1 2 = .ok (.invokevirtual 526, 3) := by decide +kernel
theorem d_MO_jump_5 : decode s_MO_jump.2.1 5 = .ok (.ifCond .ne 9, 3) := by decide +kernel
theorem d_MO_jump_8 : decode s_MO_jump.2.1 8 = .ok (.aload_n 0, 1) := by decide +kernel
theorem d_MO_jump_9 : decode s_MO_jump.2.1 9 = .ok (.iconst 2, 1) := by decide +kernel
theorem d_MO_jump_10 : decode s_MO_jump.2.1 10 = .ok (.invokevirtual 204, 3) := by decide +kernel
theorem d_MO_jump_13 : decode s_MO_jump.2.1 13 = .ok (.ireturn, 1) := by decide +kernel
theorem d_MO_jump_14 : decode s_MO_jump.2.1 14 = .ok (.aload_n 0, 1) := by decide +kernel
theorem d_MO_jump_15 : decode s_MO_jump.2.1 15 = .ok (.invokevirtual 570, 3) := by decide +kernel
theorem d_MO_jump_18 : decode s_MO_jump.2.1 18 = .ok (.aload_n 0, 1) := by decide +kernel
theorem d_MO_jump_19 : decode s_MO_jump.2.1 19 = .ok (.aload_n 0, 1) := by decide +kernel
theorem d_MO_jump_20 : decode s_MO_jump.2.1 20 = .ok (.getfield 96, 3) := by decide +kernel
theorem d_MO_jump_23 : decode s_MO_jump.2.1 23 = .ok (.iload_n 1, 1) := by decide +kernel
theorem d_MO_jump_24 : decode s_MO_jump.2.1 24 = .ok (.laload, 1) := by decide +kernel
theorem d_MO_jump_25 : decode s_MO_jump.2.1 25 = .ok (.putfield 325, 3) := by decide +kernel
theorem d_MO_jump_28 : decode s_MO_jump.2.1 28 = .ok (.iconst 1, 1) := by decide +kernel
theorem d_MO_jump_29 : decode s_MO_jump.2.1 29 = .ok (.ireturn, 1) := by decide +kernel
theorem d_MO_seed_0 : decode s_MO_seed.2.1 0 = .ok (.iload_n 1, 1) := by decide +kernel
theorem d_MO_seed_1 : decode s_MO_seed.2.1 1 = .ok (.ifCond .ge 9, 3) := by decide +kernel
theorem d_MO_seed_4 : decode s_MO_seed.2.1 4 = .ok (.aload_n 0, 1) := by decide +kernel
theorem d_MO_seed_5 : decode s_MO_seed.2.1 5 = .ok (.iconst 5, 1) := by decide +kernel
theorem d_MO_seed_6 : decode s_MO_seed.2.1 6 = .ok (.invokevirtual 204, 3) := by decide +kernel
theorem d_MO_seed_9 : decode s_MO_seed.2.1 9 = .ok (.ireturn, 1) := by decide +kernel
theorem d_MO_seed_10 : decode s_MO_seed.2.1 10 = .ok (.aload_n 0, 1) := by decide +kernel
theorem d_MO_seed_11 : decode s_MO_seed.2.1 11 = .ok (.iload_n 1, 1) := by decide +kernel
theorem d_MO_seed_12 : decode s_MO_seed.2.1 12 = .ok (.i2l, 1) := by decide +kernel
theorem d_MO_seed_13 : decode s_MO_seed.2.1 13 = .ok (.putfield 178, 3) := by decide +kernel
theorem d_MO_seed_16 : decode s_MO_seed.2.1 16 = .ok (.iconst 1, 1) := by decide +kernel
theorem d_MO_seed_17 : decode s_MO_seed.2.1 17 = .ok (.ireturn, 1) := by decide +kernel
theorem d_MO_movesOfWalk_0 : decode s_MO_movesOfWalk.2.1 0 = .ok (.iconst 0, 1) := by decide +kernel
theorem d_MO_movesOfWalk_1 : decode s_MO_movesOfWalk.2.1 1 = .ok (.istore_n 2, 1) := by decide +kernel
theorem d_MO_movesOfWalk_2 : decode s_MO_movesOfWalk.2.1 2 = .ok (.aload_n 0, 1) := by decide +kernel
theorem d_MO_movesOfWalk_3 : decode s_MO_movesOfWalk.2.1 3 = .ok (.aload_n 0, 1) := by decide +kernel
theorem d_MO_movesOfWalk_4 : decode s_MO_movesOfWalk.2.1 4 = .ok (.getfield 325, 3) := by decide +kernel
theorem d_MO_movesOfWalk_7 : decode s_MO_movesOfWalk.2.1 7 = .ok (.invokevirtual 415, 3) := by decide +kernel
theorem d_MO_movesOfWalk_10 : decode s_MO_movesOfWalk.2.1 10 = .ok (.iconst 0, 1) := by decide +kernel
theorem d_MO_movesOfWalk_11 : decode s_MO_movesOfWalk.2.1 11 = .ok (.istore_n 3, 1) := by decide +kernel
theorem d_MO_movesOfWalk_12 : decode s_MO_movesOfWalk.2.1 12 = .ok (.iload_n 3, 1) := by decide +kernel
theorem d_MO_movesOfWalk_13 : decode s_MO_movesOfWalk.2.1 13 = .ok (.bipush 64, 2) := by decide +kernel
theorem d_MO_movesOfWalk_15 : decode s_MO_movesOfWalk.2.1 15 = .ok (.if_icmp .ge 61, 3) := by decide +kernel
theorem d_MO_movesOfWalk_18 : decode s_MO_movesOfWalk.2.1 18 = .ok (.iload_n 3, 1) := by decide +kernel
theorem d_MO_movesOfWalk_19 : decode s_MO_movesOfWalk.2.1 19 = .ok (.iconst 4, 1) := by decide +kernel
theorem d_MO_movesOfWalk_20 : decode s_MO_movesOfWalk.2.1 20 = .ok (.idiv, 1) := by decide +kernel
theorem d_MO_movesOfWalk_21 : decode s_MO_movesOfWalk.2.1 21 = .ok (.aload_n 0, 1) := by decide +kernel
theorem d_MO_movesOfWalk_22 : decode s_MO_movesOfWalk.2.1 22 = .ok (.invokevirtual 400, 3) := by decide +kernel
theorem d_MO_movesOfWalk_25 : decode s_MO_movesOfWalk.2.1 25 = .ok (.if_icmp .ge 45, 3) := by decide +kernel
theorem d_MO_movesOfWalk_28 : decode s_MO_movesOfWalk.2.1 28 = .ok (.iload_n 3, 1) := by decide +kernel
theorem d_MO_movesOfWalk_29 : decode s_MO_movesOfWalk.2.1 29 = .ok (.iconst 4, 1) := by decide +kernel
theorem d_MO_movesOfWalk_30 : decode s_MO_movesOfWalk.2.1 30 = .ok (.irem, 1) := by decide +kernel
theorem d_MO_movesOfWalk_31 : decode s_MO_movesOfWalk.2.1 31 = .ok (.aload_n 0, 1) := by decide +kernel
theorem d_MO_movesOfWalk_32 : decode s_MO_movesOfWalk.2.1 32 = .ok (.invokevirtual 358, 3) := by decide +kernel
theorem d_MO_movesOfWalk_35 : decode s_MO_movesOfWalk.2.1 35 = .ok (.if_icmp .ge 35, 3) := by decide +kernel
theorem d_MO_movesOfWalk_38 : decode s_MO_movesOfWalk.2.1 38 = .ok (.aload_n 0, 1) := by decide +kernel
theorem d_MO_movesOfWalk_39 : decode s_MO_movesOfWalk.2.1 39 = .ok (.iload_n 3, 1) := by decide +kernel
theorem d_MO_movesOfWalk_40 : decode s_MO_movesOfWalk.2.1 40 = .ok (.iconst 4, 1) := by decide +kernel
theorem d_MO_movesOfWalk_41 : decode s_MO_movesOfWalk.2.1 41 = .ok (.idiv, 1) := by decide +kernel
theorem d_MO_movesOfWalk_42 : decode s_MO_movesOfWalk.2.1 42 = .ok (.iload_n 3, 1) := by decide +kernel
theorem d_MO_movesOfWalk_43 : decode s_MO_movesOfWalk.2.1 43 = .ok (.iconst 4, 1) := by decide +kernel
theorem d_MO_movesOfWalk_44 : decode s_MO_movesOfWalk.2.1 44 = .ok (.irem, 1) := by decide +kernel
theorem d_MO_movesOfWalk_45 : decode s_MO_movesOfWalk.2.1 45 = .ok (.invokevirtual 419, 3) := by decide +kernel
theorem d_MO_movesOfWalk_48 : decode s_MO_movesOfWalk.2.1 48 = .ok (.ifCond .ne 6, 3) := by decide +kernel
theorem d_MO_movesOfWalk_51 : decode s_MO_movesOfWalk.2.1 51 = .ok (.goto 19, 3) := by decide +kernel
theorem d_MO_movesOfWalk_54 : decode s_MO_movesOfWalk.2.1 54 = .ok (.iload_n 2, 1) := by decide +kernel
theorem d_MO_movesOfWalk_55 : decode s_MO_movesOfWalk.2.1 55 = .ok (.iload_n 1, 1) := by decide +kernel
theorem d_MO_movesOfWalk_56 : decode s_MO_movesOfWalk.2.1 56 = .ok (.if_icmp .ne 11, 3) := by decide +kernel
theorem d_MO_movesOfWalk_59 : decode s_MO_movesOfWalk.2.1 59 = .ok (.aload_n 0, 1) := by decide +kernel
theorem d_MO_movesOfWalk_60 : decode s_MO_movesOfWalk.2.1 60 = .ok (.aload_n 0, 1) := by decide +kernel
theorem d_MO_movesOfWalk_61 : decode s_MO_movesOfWalk.2.1 61 = .ok (.invokevirtual 392, 3) := by decide +kernel
theorem d_MO_movesOfWalk_64 : decode s_MO_movesOfWalk.2.1 64 = .ok (.putfield 325, 3) := by decide +kernel
theorem d_MO_movesOfWalk_67 : decode s_MO_movesOfWalk.2.1 67 = .ok (.iinc 2 1, 3) := by decide +kernel
theorem d_MO_movesOfWalk_70 : decode s_MO_movesOfWalk.2.1 70 = .ok (.iinc 3 1, 3) := by decide +kernel
theorem d_MO_movesOfWalk_73 : decode s_MO_movesOfWalk.2.1 73 = .ok (.goto (-61), 3) := by decide +kernel
theorem d_MO_movesOfWalk_76 : decode s_MO_movesOfWalk.2.1 76 = .ok (.iload_n 2, 1) := by decide +kernel
theorem d_MO_movesOfWalk_77 : decode s_MO_movesOfWalk.2.1 77 = .ok (.ireturn, 1) := by decide +kernel
theorem d_MO_drawOf_0 : decode s_MO_drawOf.2.1 0 = .ok (.aload_n 0, 1) := by decide +kernel
theorem d_MO_drawOf_1 : decode s_MO_drawOf.2.1 1 = .ok (.ldc2_w 573, 3) := by decide +kernel
theorem d_MO_drawOf_4 : decode s_MO_drawOf.2.1 4 = .ok (.aload_n 0, 1) := by decide +kernel
theorem d_MO_drawOf_5 : decode s_MO_drawOf.2.1 5 = .ok (.getfield 178, 3) := by decide +kernel
theorem d_MO_drawOf_8 : decode s_MO_drawOf.2.1 8 = .ok (.lmul, 1) := by decide +kernel
theorem d_MO_drawOf_9 : decode s_MO_drawOf.2.1 9 = .ok (.ldc2_w 575, 3) := by decide +kernel
theorem d_MO_drawOf_12 : decode s_MO_drawOf.2.1 12 = .ok (.ladd, 1) := by decide +kernel
theorem d_MO_drawOf_13 : decode s_MO_drawOf.2.1 13 = .ok (.ldc2_w 577, 3) := by decide +kernel
theorem d_MO_drawOf_16 : decode s_MO_drawOf.2.1 16 = .ok (.lrem, 1) := by decide +kernel
theorem d_MO_drawOf_17 : decode s_MO_drawOf.2.1 17 = .ok (.putfield 178, 3) := by decide +kernel
theorem d_MO_drawOf_20 : decode s_MO_drawOf.2.1 20 = .ok (.aload_n 0, 1) := by decide +kernel
theorem d_MO_drawOf_21 : decode s_MO_drawOf.2.1 21 = .ok (.getfield 178, 3) := by decide +kernel
theorem d_MO_drawOf_24 : decode s_MO_drawOf.2.1 24 = .ok (.ldc2_w 579, 3) := by decide +kernel
theorem d_MO_drawOf_27 : decode s_MO_drawOf.2.1 27 = .ok (.ldiv, 1) := by decide +kernel
theorem d_MO_drawOf_28 : decode s_MO_drawOf.2.1 28 = .ok (.iload_n 1, 1) := by decide +kernel
theorem d_MO_drawOf_29 : decode s_MO_drawOf.2.1 29 = .ok (.i2l, 1) := by decide +kernel
theorem d_MO_drawOf_30 : decode s_MO_drawOf.2.1 30 = .ok (.lrem, 1) := by decide +kernel
theorem d_MO_drawOf_31 : decode s_MO_drawOf.2.1 31 = .ok (.l2i, 1) := by decide +kernel
theorem d_MO_drawOf_32 : decode s_MO_drawOf.2.1 32 = .ok (.ireturn, 1) := by decide +kernel
theorem d_MO_chance_0 : decode s_MO_chance.2.1 0 = .ok (.aload_n 0, 1) := by decide +kernel
theorem d_MO_chance_1 : decode s_MO_chance.2.1 1 = .ok (.invokevirtual 505, 3) := by decide +kernel
theorem d_MO_chance_4 : decode s_MO_chance.2.1 4 = .ok (.ifCond .eq 15, 3) := by decide +kernel
theorem d_MO_chance_7 : decode s_MO_chance.2.1 7 = .ok (.iload_n 1, 1) := by decide +kernel
theorem d_MO_chance_8 : decode s_MO_chance.2.1 8 = .ok (.i2l, 1) := by decide +kernel
theorem d_MO_chance_9 : decode s_MO_chance.2.1 9 = .ok (.lconst 1, 1) := by decide +kernel
theorem d_MO_chance_10 : decode s_MO_chance.2.1 10 = .ok (.ldc2_w 581, 3) := by decide +kernel
theorem d_MO_chance_13 : decode s_MO_chance.2.1 13 = .ok (.invokestatic 210, 3) := by decide +kernel
theorem d_MO_chance_16 : decode s_MO_chance.2.1 16 = .ok (.ifCond .ne 9, 3) := by decide +kernel
theorem d_MO_chance_19 : decode s_MO_chance.2.1 19 = .ok (.aload_n 0, 1) := by decide +kernel
theorem d_MO_chance_20 : decode s_MO_chance.2.1 20 = .ok (.iconst 3, 1) := by decide +kernel
theorem d_MO_chance_21 : decode s_MO_chance.2.1 21 = .ok (.invokevirtual 200, 3) := by decide +kernel
theorem d_MO_chance_24 : decode s_MO_chance.2.1 24 = .ok (.ireturn, 1) := by decide +kernel
theorem d_MO_chance_25 : decode s_MO_chance.2.1 25 = .ok (.aload_n 0, 1) := by decide +kernel
theorem d_MO_chance_26 : decode s_MO_chance.2.1 26 = .ok (.invokevirtual 570, 3) := by decide +kernel
theorem d_MO_chance_29 : decode s_MO_chance.2.1 29 = .ok (.iconst 0, 1) := by decide +kernel
theorem d_MO_chance_30 : decode s_MO_chance.2.1 30 = .ok (.istore_n 2, 1) := by decide +kernel
theorem d_MO_chance_31 : decode s_MO_chance.2.1 31 = .ok (.aload_n 0, 1) := by decide +kernel
theorem d_MO_chance_32 : decode s_MO_chance.2.1 32 = .ok (.iconst (-1), 1) := by decide +kernel
theorem d_MO_chance_33 : decode s_MO_chance.2.1 33 = .ok (.invokevirtual 583, 3) := by decide +kernel
theorem d_MO_chance_36 : decode s_MO_chance.2.1 36 = .ok (.istore_n 3, 1) := by decide +kernel
theorem d_MO_chance_37 : decode s_MO_chance.2.1 37 = .ok (.iload_n 2, 1) := by decide +kernel
theorem d_MO_chance_38 : decode s_MO_chance.2.1 38 = .ok (.iload_n 1, 1) := by decide +kernel
theorem d_MO_chance_39 : decode s_MO_chance.2.1 39 = .ok (.if_icmp .ge 29, 3) := by decide +kernel
theorem d_MO_chance_42 : decode s_MO_chance.2.1 42 = .ok (.iload_n 3, 1) := by decide +kernel
theorem d_MO_chance_43 : decode s_MO_chance.2.1 43 = .ok (.ifCond .le 25, 3) := by decide +kernel
theorem d_MO_chance_46 : decode s_MO_chance.2.1 46 = .ok (.aload_n 0, 1) := by decide +kernel
theorem d_MO_chance_47 : decode s_MO_chance.2.1 47 = .ok (.aload_n 0, 1) := by decide +kernel
theorem d_MO_chance_48 : decode s_MO_chance.2.1 48 = .ok (.iload_n 3, 1) := by decide +kernel
theorem d_MO_chance_49 : decode s_MO_chance.2.1 49 = .ok (.invokevirtual 586, 3) := by decide +kernel
theorem d_MO_chance_52 : decode s_MO_chance.2.1 52 = .ok (.invokevirtual 583, 3) := by decide +kernel
theorem d_MO_chance_55 : decode s_MO_chance.2.1 55 = .ok (.pop, 1) := by decide +kernel
theorem d_MO_chance_56 : decode s_MO_chance.2.1 56 = .ok (.iinc 2 1, 3) := by decide +kernel
theorem d_MO_chance_59 : decode s_MO_chance.2.1 59 = .ok (.aload_n 0, 1) := by decide +kernel
theorem d_MO_chance_60 : decode s_MO_chance.2.1 60 = .ok (.iconst (-1), 1) := by decide +kernel
theorem d_MO_chance_61 : decode s_MO_chance.2.1 61 = .ok (.invokevirtual 583, 3) := by decide +kernel
theorem d_MO_chance_64 : decode s_MO_chance.2.1 64 = .ok (.istore_n 3, 1) := by decide +kernel
theorem d_MO_chance_65 : decode s_MO_chance.2.1 65 = .ok (.goto (-28), 3) := by decide +kernel
theorem d_MO_chance_68 : decode s_MO_chance.2.1 68 = .ok (.iload_n 2, 1) := by decide +kernel
theorem d_MO_chance_69 : decode s_MO_chance.2.1 69 = .ok (.ireturn, 1) := by decide +kernel
theorem d_MO_see_0 : decode s_MO_see.2.1 0 = .ok (.aload_n 0, 1) := by decide +kernel
theorem d_MO_see_1 : decode s_MO_see.2.1 1 = .ok (.getfield 197, 3) := by decide +kernel
theorem d_MO_see_4 : decode s_MO_see.2.1 4 = .ok (.istore_n 2, 1) := by decide +kernel
theorem d_MO_see_5 : decode s_MO_see.2.1 5 = .ok (.aload_n 0, 1) := by decide +kernel
theorem d_MO_see_6 : decode s_MO_see.2.1 6 = .ok (.iconst 0, 1) := by decide +kernel
theorem d_MO_see_7 : decode s_MO_see.2.1 7 = .ok (.putfield 197, 3) := by decide +kernel
theorem d_MO_see_10 : decode s_MO_see.2.1 10 = .ok (.aload_n 0, 1) := by decide +kernel
theorem d_MO_see_11 : decode s_MO_see.2.1 11 = .ok (.getfield 321, 3) := by decide +kernel
theorem d_MO_see_14 : decode s_MO_see.2.1 14 = .ok (.ifCond .eq 37, 3) := by decide +kernel
theorem d_MO_see_17 : decode s_MO_see.2.1 17 = .ok (.iload_n 1, 1) := by decide +kernel
theorem d_MO_see_18 : decode s_MO_see.2.1 18 = .ok (.i2l, 1) := by decide +kernel
theorem d_MO_see_19 : decode s_MO_see.2.1 19 = .ok (.lconst 0, 1) := by decide +kernel
theorem d_MO_see_20 : decode s_MO_see.2.1 20 = .ok (.ldc2_w 589, 3) := by decide +kernel
theorem d_MO_see_23 : decode s_MO_see.2.1 23 = .ok (.invokestatic 210, 3) := by decide +kernel
theorem d_MO_see_26 : decode s_MO_see.2.1 26 = .ok (.ifCond .eq 25, 3) := by decide +kernel
theorem d_MO_see_29 : decode s_MO_see.2.1 29 = .ok (.iload_n 2, 1) := by decide +kernel
theorem d_MO_see_30 : decode s_MO_see.2.1 30 = .ok (.ifCond .le 21, 3) := by decide +kernel
theorem d_MO_see_33 : decode s_MO_see.2.1 33 = .ok (.iload_n 2, 1) := by decide +kernel
theorem d_MO_see_34 : decode s_MO_see.2.1 34 = .ok (.iconst 2, 1) := by decide +kernel
theorem d_MO_see_35 : decode s_MO_see.2.1 35 = .ok (.irem, 1) := by decide +kernel
theorem d_MO_see_36 : decode s_MO_see.2.1 36 = .ok (.ifCond .ne 15, 3) := by decide +kernel
theorem d_MO_see_39 : decode s_MO_see.2.1 39 = .ok (.iload_n 2, 1) := by decide +kernel
theorem d_MO_see_40 : decode s_MO_see.2.1 40 = .ok (.iconst 2, 1) := by decide +kernel
theorem d_MO_see_41 : decode s_MO_see.2.1 41 = .ok (.idiv, 1) := by decide +kernel
theorem d_MO_see_42 : decode s_MO_see.2.1 42 = .ok (.bipush 6, 2) := by decide +kernel
theorem d_MO_see_44 : decode s_MO_see.2.1 44 = .ok (.if_icmp .gt 7, 3) := by decide +kernel
theorem d_MO_see_47 : decode s_MO_see.2.1 47 = .ok (.iconst 1, 1) := by decide +kernel
theorem d_MO_see_48 : decode s_MO_see.2.1 48 = .ok (.goto 4, 3) := by decide +kernel
theorem d_MO_see_51 : decode s_MO_see.2.1 51 = .ok (.iconst 0, 1) := by decide +kernel
theorem d_MO_see_52 : decode s_MO_see.2.1 52 = .ok (.istore_n 3, 1) := by decide +kernel
theorem d_MO_see_53 : decode s_MO_see.2.1 53 = .ok (.iconst 0, 1) := by decide +kernel
theorem d_MO_see_54 : decode s_MO_see.2.1 54 = .ok (.istore 4, 2) := by decide +kernel
theorem d_MO_see_56 : decode s_MO_see.2.1 56 = .ok (.iload 4, 2) := by decide +kernel
theorem d_MO_see_58 : decode s_MO_see.2.1 58 = .ok (.iload_n 2, 1) := by decide +kernel
theorem d_MO_see_59 : decode s_MO_see.2.1 59 = .ok (.if_icmp .ge 48, 3) := by decide +kernel
theorem d_MO_see_62 : decode s_MO_see.2.1 62 = .ok (.iload_n 3, 1) := by decide +kernel
theorem d_MO_see_63 : decode s_MO_see.2.1 63 = .ok (.ifCond .eq 44, 3) := by decide +kernel
theorem d_MO_see_66 : decode s_MO_see.2.1 66 = .ok (.aload_n 0, 1) := by decide +kernel
theorem d_MO_see_67 : decode s_MO_see.2.1 67 = .ok (.getfield 7, 3) := by decide +kernel
theorem d_MO_see_70 : decode s_MO_see.2.1 70 = .ok (.iload 4, 2) := by decide +kernel
theorem d_MO_see_72 : decode s_MO_see.2.1 72 = .ok (.iaload, 1) := by decide +kernel
theorem d_MO_see_73 : decode s_MO_see.2.1 73 = .ok (.aload_n 0, 1) := by decide +kernel
theorem d_MO_see_74 : decode s_MO_see.2.1 74 = .ok (.getfield 81, 3) := by decide +kernel
theorem d_MO_see_77 : decode s_MO_see.2.1 77 = .ok (.iconst 0, 1) := by decide +kernel
theorem d_MO_see_78 : decode s_MO_see.2.1 78 = .ok (.iaload, 1) := by decide +kernel
theorem d_MO_see_79 : decode s_MO_see.2.1 79 = .ok (.if_icmp .ge 20, 3) := by decide +kernel
theorem d_MO_see_82 : decode s_MO_see.2.1 82 = .ok (.aload_n 0, 1) := by decide +kernel
theorem d_MO_see_83 : decode s_MO_see.2.1 83 = .ok (.getfield 7, 3) := by decide +kernel
theorem d_MO_see_86 : decode s_MO_see.2.1 86 = .ok (.iload 4, 2) := by decide +kernel
theorem d_MO_see_88 : decode s_MO_see.2.1 88 = .ok (.iconst 1, 1) := by decide +kernel
theorem d_MO_see_89 : decode s_MO_see.2.1 89 = .ok (.iadd, 1) := by decide +kernel
theorem d_MO_see_90 : decode s_MO_see.2.1 90 = .ok (.iaload, 1) := by decide +kernel
theorem d_MO_see_91 : decode s_MO_see.2.1 91 = .ok (.iconst 4, 1) := by decide +kernel
theorem d_MO_see_92 : decode s_MO_see.2.1 92 = .ok (.if_icmp .gt 7, 3) := by decide +kernel
theorem d_MO_see_95 : decode s_MO_see.2.1 95 = .ok (.iconst 1, 1) := by decide +kernel
theorem d_MO_see_96 : decode s_MO_see.2.1 96 = .ok (.goto 4, 3) := by decide +kernel
theorem d_MO_see_99 : decode s_MO_see.2.1 99 = .ok (.iconst 0, 1) := by decide +kernel
theorem d_MO_see_100 : decode s_MO_see.2.1 100 = .ok (.istore_n 3, 1) := by decide +kernel
theorem d_MO_see_101 : decode s_MO_see.2.1 101 = .ok (.iinc 4 2, 3) := by decide +kernel
theorem d_MO_see_104 : decode s_MO_see.2.1 104 = .ok (.goto (-48), 3) := by decide +kernel
theorem d_MO_see_107 : decode s_MO_see.2.1 107 = .ok (.iload_n 3, 1) := by decide +kernel
theorem d_MO_see_108 : decode s_MO_see.2.1 108 = .ok (.ifCond .ne 9, 3) := by decide +kernel
theorem d_MO_see_111 : decode s_MO_see.2.1 111 = .ok (.aload_n 0, 1) := by decide +kernel
theorem d_MO_see_112 : decode s_MO_see.2.1 112 = .ok (.iconst 1, 1) := by decide +kernel
theorem d_MO_see_113 : decode s_MO_see.2.1 113 = .ok (.invokevirtual 200, 3) := by decide +kernel
theorem d_MO_see_116 : decode s_MO_see.2.1 116 = .ok (.ireturn, 1) := by decide +kernel
theorem d_MO_see_117 : decode s_MO_see.2.1 117 = .ok (.iconst 0, 1) := by decide +kernel
theorem d_MO_see_118 : decode s_MO_see.2.1 118 = .ok (.istore 4, 2) := by decide +kernel
theorem d_MO_see_120 : decode s_MO_see.2.1 120 = .ok (.iload 4, 2) := by decide +kernel
theorem d_MO_see_122 : decode s_MO_see.2.1 122 = .ok (.iload_n 2, 1) := by decide +kernel
theorem d_MO_see_123 : decode s_MO_see.2.1 123 = .ok (.if_icmp .ge 23, 3) := by decide +kernel
theorem d_MO_see_126 : decode s_MO_see.2.1 126 = .ok (.aload_n 0, 1) := by decide +kernel
theorem d_MO_see_127 : decode s_MO_see.2.1 127 = .ok (.getfield 182, 3) := by decide +kernel
theorem d_MO_see_130 : decode s_MO_see.2.1 130 = .ok (.iload 4, 2) := by decide +kernel
theorem d_MO_see_132 : decode s_MO_see.2.1 132 = .ok (.aload_n 0, 1) := by decide +kernel
theorem d_MO_see_133 : decode s_MO_see.2.1 133 = .ok (.getfield 7, 3) := by decide +kernel
theorem d_MO_see_136 : decode s_MO_see.2.1 136 = .ok (.iload 4, 2) := by decide +kernel
theorem d_MO_see_138 : decode s_MO_see.2.1 138 = .ok (.iaload, 1) := by decide +kernel
theorem d_MO_see_139 : decode s_MO_see.2.1 139 = .ok (.iastore, 1) := by decide +kernel
theorem d_MO_see_140 : decode s_MO_see.2.1 140 = .ok (.iinc 4 1, 3) := by decide +kernel
theorem d_MO_see_143 : decode s_MO_see.2.1 143 = .ok (.goto (-23), 3) := by decide +kernel
theorem d_MO_see_146 : decode s_MO_see.2.1 146 = .ok (.aload_n 0, 1) := by decide +kernel
theorem d_MO_see_147 : decode s_MO_see.2.1 147 = .ok (.iload_n 2, 1) := by decide +kernel
theorem d_MO_see_148 : decode s_MO_see.2.1 148 = .ok (.iconst 2, 1) := by decide +kernel
theorem d_MO_see_149 : decode s_MO_see.2.1 149 = .ok (.idiv, 1) := by decide +kernel
theorem d_MO_see_150 : decode s_MO_see.2.1 150 = .ok (.putfield 331, 3) := by decide +kernel
theorem d_MO_see_153 : decode s_MO_see.2.1 153 = .ok (.aload_n 0, 1) := by decide +kernel
theorem d_MO_see_154 : decode s_MO_see.2.1 154 = .ok (.iload_n 1, 1) := by decide +kernel
theorem d_MO_see_155 : decode s_MO_see.2.1 155 = .ok (.putfield 591, 3) := by decide +kernel
theorem d_MO_see_158 : decode s_MO_see.2.1 158 = .ok (.aload_n 0, 1) := by decide +kernel
theorem d_MO_see_159 : decode s_MO_see.2.1 159 = .ok (.getfield 331, 3) := by decide +kernel
theorem d_MO_see_162 : decode s_MO_see.2.1 162 = .ok (.ireturn, 1) := by decide +kernel
theorem d_MO_couldGoOn_0 : decode s_MO_couldGoOn.2.1 0 = .ok (.iconst 0, 1) := by decide +kernel
theorem d_MO_couldGoOn_1 : decode s_MO_couldGoOn.2.1 1 = .ok (.istore_n 1, 1) := by decide +kernel
theorem d_MO_couldGoOn_2 : decode s_MO_couldGoOn.2.1 2 = .ok (.iload_n 1, 1) := by decide +kernel
theorem d_MO_couldGoOn_3 : decode s_MO_couldGoOn.2.1 3 = .ok (.aload_n 0, 1) := by decide +kernel
theorem d_MO_couldGoOn_4 : decode s_MO_couldGoOn.2.1 4 = .ok (.getfield 380, 3) := by decide +kernel
theorem d_MO_couldGoOn_7 : decode s_MO_couldGoOn.2.1 7 = .ok (.if_icmp .ge 28, 3) := by decide +kernel
theorem d_MO_couldGoOn_10 : decode s_MO_couldGoOn.2.1 10 = .ok (.aload_n 0, 1) := by decide +kernel
theorem d_MO_couldGoOn_11 : decode s_MO_couldGoOn.2.1 11 = .ok (.getfield 188, 3) := by decide +kernel
theorem d_MO_couldGoOn_14 : decode s_MO_couldGoOn.2.1 14 = .ok (.iload_n 1, 1) := by decide +kernel
theorem d_MO_couldGoOn_15 : decode s_MO_couldGoOn.2.1 15 = .ok (.aload_n 0, 1) := by decide +kernel
theorem d_MO_couldGoOn_16 : decode s_MO_couldGoOn.2.1 16 = .ok (.getfield 185, 3) := by decide +kernel
theorem d_MO_couldGoOn_19 : decode s_MO_couldGoOn.2.1 19 = .ok (.iload_n 1, 1) := by decide +kernel
theorem d_MO_couldGoOn_20 : decode s_MO_couldGoOn.2.1 20 = .ok (.baload, 1) := by decide +kernel
theorem d_MO_couldGoOn_21 : decode s_MO_couldGoOn.2.1 21 = .ok (.bastore, 1) := by decide +kernel
theorem d_MO_couldGoOn_22 : decode s_MO_couldGoOn.2.1 22 = .ok (.aload_n 0, 1) := by decide +kernel
theorem d_MO_couldGoOn_23 : decode s_MO_couldGoOn.2.1 23 = .ok (.getfield 185, 3) := by decide +kernel
theorem d_MO_couldGoOn_26 : decode s_MO_couldGoOn.2.1 26 = .ok (.iload_n 1, 1) := by decide +kernel
theorem d_MO_couldGoOn_27 : decode s_MO_couldGoOn.2.1 27 = .ok (.iconst 0, 1) := by decide +kernel
theorem d_MO_couldGoOn_28 : decode s_MO_couldGoOn.2.1 28 = .ok (.bastore, 1) := by decide +kernel
theorem d_MO_couldGoOn_29 : decode s_MO_couldGoOn.2.1 29 = .ok (.iinc 1 1, 3) := by decide +kernel
theorem d_MO_couldGoOn_32 : decode s_MO_couldGoOn.2.1 32 = .ok (.goto (-30), 3) := by decide +kernel
theorem d_MO_couldGoOn_35 : decode s_MO_couldGoOn.2.1 35 = .ok (.iconst 0, 1) := by decide +kernel
theorem d_MO_couldGoOn_36 : decode s_MO_couldGoOn.2.1 36 = .ok (.istore_n 1, 1) := by decide +kernel
theorem d_MO_couldGoOn_37 : decode s_MO_couldGoOn.2.1 37 = .ok (.iload_n 1, 1) := by decide +kernel
theorem d_MO_couldGoOn_38 : decode s_MO_couldGoOn.2.1 38 = .ok (.bipush 64, 2) := by decide +kernel
theorem d_MO_couldGoOn_40 : decode s_MO_couldGoOn.2.1 40 = .ok (.aload_n 0, 1) := by decide +kernel
theorem d_MO_couldGoOn_41 : decode s_MO_couldGoOn.2.1 41 = .ok (.getfield 380, 3) := by decide +kernel
theorem d_MO_couldGoOn_44 : decode s_MO_couldGoOn.2.1 44 = .ok (.imul, 1) := by decide +kernel
theorem d_MO_couldGoOn_45 : decode s_MO_couldGoOn.2.1 45 = .ok (.if_icmp .ge 43, 3) := by decide +kernel
theorem d_MO_couldGoOn_48 : decode s_MO_couldGoOn.2.1 48 = .ok (.aload_n 0, 1) := by decide +kernel
theorem d_MO_couldGoOn_49 : decode s_MO_couldGoOn.2.1 49 = .ok (.getfield 188, 3) := by decide +kernel
theorem d_MO_couldGoOn_52 : decode s_MO_couldGoOn.2.1 52 = .ok (.iload_n 1, 1) := by decide +kernel
theorem d_MO_couldGoOn_53 : decode s_MO_couldGoOn.2.1 53 = .ok (.bipush 64, 2) := by decide +kernel
theorem d_MO_couldGoOn_55 : decode s_MO_couldGoOn.2.1 55 = .ok (.idiv, 1) := by decide +kernel
theorem d_MO_couldGoOn_56 : decode s_MO_couldGoOn.2.1 56 = .ok (.baload, 1) := by decide +kernel
theorem d_MO_couldGoOn_57 : decode s_MO_couldGoOn.2.1 57 = .ok (.ifCond .eq 25, 3) := by decide +kernel
theorem d_MO_couldGoOn_60 : decode s_MO_couldGoOn.2.1 60 = .ok (.aload_n 0, 1) := by decide +kernel
theorem d_MO_couldGoOn_61 : decode s_MO_couldGoOn.2.1 61 = .ok (.getfield 107, 3) := by decide +kernel
theorem d_MO_couldGoOn_64 : decode s_MO_couldGoOn.2.1 64 = .ok (.iload_n 1, 1) := by decide +kernel
theorem d_MO_couldGoOn_65 : decode s_MO_couldGoOn.2.1 65 = .ok (.iaload, 1) := by decide +kernel
theorem d_MO_couldGoOn_66 : decode s_MO_couldGoOn.2.1 66 = .ok (.iconst (-1), 1) := by decide +kernel
theorem d_MO_couldGoOn_67 : decode s_MO_couldGoOn.2.1 67 = .ok (.if_icmp .eq 15, 3) := by decide +kernel
theorem d_MO_couldGoOn_70 : decode s_MO_couldGoOn.2.1 70 = .ok (.aload_n 0, 1) := by decide +kernel
theorem d_MO_couldGoOn_71 : decode s_MO_couldGoOn.2.1 71 = .ok (.getfield 185, 3) := by decide +kernel
theorem d_MO_couldGoOn_74 : decode s_MO_couldGoOn.2.1 74 = .ok (.aload_n 0, 1) := by decide +kernel
theorem d_MO_couldGoOn_75 : decode s_MO_couldGoOn.2.1 75 = .ok (.getfield 107, 3) := by decide +kernel
theorem d_MO_couldGoOn_78 : decode s_MO_couldGoOn.2.1 78 = .ok (.iload_n 1, 1) := by decide +kernel
theorem d_MO_couldGoOn_79 : decode s_MO_couldGoOn.2.1 79 = .ok (.iaload, 1) := by decide +kernel
theorem d_MO_couldGoOn_80 : decode s_MO_couldGoOn.2.1 80 = .ok (.iconst 1, 1) := by decide +kernel
theorem d_MO_couldGoOn_81 : decode s_MO_couldGoOn.2.1 81 = .ok (.bastore, 1) := by decide +kernel
theorem d_MO_couldGoOn_82 : decode s_MO_couldGoOn.2.1 82 = .ok (.iinc 1 1, 3) := by decide +kernel
theorem d_MO_couldGoOn_85 : decode s_MO_couldGoOn.2.1 85 = .ok (.goto (-48), 3) := by decide +kernel
theorem d_MO_couldGoOn_88 : decode s_MO_couldGoOn.2.1 88 = .ok (.return_, 1) := by decide +kernel
theorem d_MO_inState_0 : decode s_MO_inState.2.1 0 = .ok (.aload_n 0, 1) := by decide +kernel
theorem d_MO_inState_1 : decode s_MO_inState.2.1 1 = .ok (.aload_n 0, 1) := by decide +kernel
theorem d_MO_inState_2 : decode s_MO_inState.2.1 2 = .ok (.getfield 96, 3) := by decide +kernel
theorem d_MO_inState_5 : decode s_MO_inState.2.1 5 = .ok (.iload_n 1, 1) := by decide +kernel
theorem d_MO_inState_6 : decode s_MO_inState.2.1 6 = .ok (.laload, 1) := by decide +kernel
theorem d_MO_inState_7 : decode s_MO_inState.2.1 7 = .ok (.invokevirtual 415, 3) := by decide +kernel
theorem d_MO_inState_10 : decode s_MO_inState.2.1 10 = .ok (.iconst 0, 1) := by decide +kernel
theorem d_MO_inState_11 : decode s_MO_inState.2.1 11 = .ok (.istore_n 3, 1) := by decide +kernel
theorem d_MO_inState_12 : decode s_MO_inState.2.1 12 = .ok (.iconst 0, 1) := by decide +kernel
theorem d_MO_inState_13 : decode s_MO_inState.2.1 13 = .ok (.istore 4, 2) := by decide +kernel
theorem d_MO_inState_15 : decode s_MO_inState.2.1 15 = .ok (.iload 4, 2) := by decide +kernel
theorem d_MO_inState_17 : decode s_MO_inState.2.1 17 = .ok (.aload_n 0, 1) := by decide +kernel
theorem d_MO_inState_18 : decode s_MO_inState.2.1 18 = .ok (.invokevirtual 358, 3) := by decide +kernel
theorem d_MO_inState_21 : decode s_MO_inState.2.1 21 = .ok (.if_icmp .ge 26, 3) := by decide +kernel
theorem d_MO_inState_24 : decode s_MO_inState.2.1 24 = .ok (.aload_n 0, 1) := by decide +kernel
theorem d_MO_inState_25 : decode s_MO_inState.2.1 25 = .ok (.getfield 87, 3) := by decide +kernel
theorem d_MO_inState_28 : decode s_MO_inState.2.1 28 = .ok (.iload 4, 2) := by decide +kernel
theorem d_MO_inState_30 : decode s_MO_inState.2.1 30 = .ok (.iaload, 1) := by decide +kernel
theorem d_MO_inState_31 : decode s_MO_inState.2.1 31 = .ok (.invokestatic 346, 3) := by decide +kernel
theorem d_MO_inState_34 : decode s_MO_inState.2.1 34 = .ok (.iload_n 2, 1) := by decide +kernel
theorem d_MO_inState_35 : decode s_MO_inState.2.1 35 = .ok (.if_icmp .ne 6, 3) := by decide +kernel
theorem d_MO_inState_38 : decode s_MO_inState.2.1 38 = .ok (.iinc 3 1, 3) := by decide +kernel
theorem d_MO_inState_41 : decode s_MO_inState.2.1 41 = .ok (.iinc 4 1, 3) := by decide +kernel
theorem d_MO_inState_44 : decode s_MO_inState.2.1 44 = .ok (.goto (-29), 3) := by decide +kernel
theorem d_MO_inState_47 : decode s_MO_inState.2.1 47 = .ok (.iload_n 3, 1) := by decide +kernel
theorem d_MO_inState_48 : decode s_MO_inState.2.1 48 = .ok (.ireturn, 1) := by decide +kernel
theorem d_MO_isAsSeen_0 : decode s_MO_isAsSeen.2.1 0 = .ok (.iconst 0, 1) := by decide +kernel
theorem d_MO_isAsSeen_1 : decode s_MO_isAsSeen.2.1 1 = .ok (.istore_n 2, 1) := by decide +kernel
theorem d_MO_isAsSeen_2 : decode s_MO_isAsSeen.2.1 2 = .ok (.iload_n 2, 1) := by decide +kernel
theorem d_MO_isAsSeen_3 : decode s_MO_isAsSeen.2.1 3 = .ok (.aload_n 0, 1) := by decide +kernel
theorem d_MO_isAsSeen_4 : decode s_MO_isAsSeen.2.1 4 = .ok (.getfield 331, 3) := by decide +kernel
theorem d_MO_isAsSeen_7 : decode s_MO_isAsSeen.2.1 7 = .ok (.if_icmp .ge 37, 3) := by decide +kernel
theorem d_MO_isAsSeen_10 : decode s_MO_isAsSeen.2.1 10 = .ok (.aload_n 0, 1) := by decide +kernel
theorem d_MO_isAsSeen_11 : decode s_MO_isAsSeen.2.1 11 = .ok (.iload_n 1, 1) := by decide +kernel
theorem d_MO_isAsSeen_12 : decode s_MO_isAsSeen.2.1 12 = .ok (.aload_n 0, 1) := by decide +kernel
theorem d_MO_isAsSeen_13 : decode s_MO_isAsSeen.2.1 13 = .ok (.getfield 182, 3) := by decide +kernel
theorem d_MO_isAsSeen_16 : decode s_MO_isAsSeen.2.1 16 = .ok (.iconst 2, 1) := by decide +kernel
theorem d_MO_isAsSeen_17 : decode s_MO_isAsSeen.2.1 17 = .ok (.iload_n 2, 1) := by decide +kernel
theorem d_MO_isAsSeen_18 : decode s_MO_isAsSeen.2.1 18 = .ok (.imul, 1) := by decide +kernel
theorem d_MO_isAsSeen_19 : decode s_MO_isAsSeen.2.1 19 = .ok (.iaload, 1) := by decide +kernel
theorem d_MO_isAsSeen_20 : decode s_MO_isAsSeen.2.1 20 = .ok (.invokevirtual 594, 3) := by decide +kernel
theorem d_MO_isAsSeen_23 : decode s_MO_isAsSeen.2.1 23 = .ok (.aload_n 0, 1) := by decide +kernel
theorem d_MO_isAsSeen_24 : decode s_MO_isAsSeen.2.1 24 = .ok (.getfield 182, 3) := by decide +kernel
theorem d_MO_isAsSeen_27 : decode s_MO_isAsSeen.2.1 27 = .ok (.iconst 2, 1) := by decide +kernel
theorem d_MO_isAsSeen_28 : decode s_MO_isAsSeen.2.1 28 = .ok (.iload_n 2, 1) := by decide +kernel
theorem d_MO_isAsSeen_29 : decode s_MO_isAsSeen.2.1 29 = .ok (.imul, 1) := by decide +kernel
theorem d_MO_isAsSeen_30 : decode s_MO_isAsSeen.2.1 30 = .ok (.iconst 1, 1) := by decide +kernel
theorem d_MO_isAsSeen_31 : decode s_MO_isAsSeen.2.1 31 = .ok (.iadd, 1) := by decide +kernel
theorem d_MO_isAsSeen_32 : decode s_MO_isAsSeen.2.1 32 = .ok (.iaload, 1) := by decide +kernel
theorem d_MO_isAsSeen_33 : decode s_MO_isAsSeen.2.1 33 = .ok (.if_icmp .eq 5, 3) := by decide +kernel
theorem d_MO_isAsSeen_36 : decode s_MO_isAsSeen.2.1 36 = .ok (.iconst 0, 1) := by decide +kernel
theorem d_MO_isAsSeen_37 : decode s_MO_isAsSeen.2.1 37 = .ok (.ireturn, 1) := by decide +kernel
theorem d_MO_isAsSeen_38 : decode s_MO_isAsSeen.2.1 38 = .ok (.iinc 2 1, 3) := by decide +kernel
theorem d_MO_isAsSeen_41 : decode s_MO_isAsSeen.2.1 41 = .ok (.goto (-39), 3) := by decide +kernel
theorem d_MO_isAsSeen_44 : decode s_MO_isAsSeen.2.1 44 = .ok (.iconst 1, 1) := by decide +kernel
theorem d_MO_isAsSeen_45 : decode s_MO_isAsSeen.2.1 45 = .ok (.ireturn, 1) := by decide +kernel
theorem d_MO_laysCould_0 : decode s_MO_laysCould.2.1 0 = .ok (.iconst 0, 1) := by decide +kernel
theorem d_MO_laysCould_1 : decode s_MO_laysCould.2.1 1 = .ok (.istore_n 1, 1) := by decide +kernel
theorem d_MO_laysCould_2 : decode s_MO_laysCould.2.1 2 = .ok (.iload_n 1, 1) := by decide +kernel
theorem d_MO_laysCould_3 : decode s_MO_laysCould.2.1 3 = .ok (.aload_n 0, 1) := by decide +kernel
theorem d_MO_laysCould_4 : decode s_MO_laysCould.2.1 4 = .ok (.getfield 380, 3) := by decide +kernel
theorem d_MO_laysCould_7 : decode s_MO_laysCould.2.1 7 = .ok (.if_icmp .ge 16, 3) := by decide +kernel
theorem d_MO_laysCould_10 : decode s_MO_laysCould.2.1 10 = .ok (.aload_n 0, 1) := by decide +kernel
theorem d_MO_laysCould_11 : decode s_MO_laysCould.2.1 11 = .ok (.getfield 185, 3) := by decide +kernel
theorem d_MO_laysCould_14 : decode s_MO_laysCould.2.1 14 = .ok (.iload_n 1, 1) := by decide +kernel
theorem d_MO_laysCould_15 : decode s_MO_laysCould.2.1 15 = .ok (.iconst 0, 1) := by decide +kernel
theorem d_MO_laysCould_16 : decode s_MO_laysCould.2.1 16 = .ok (.bastore, 1) := by decide +kernel
theorem d_MO_laysCould_17 : decode s_MO_laysCould.2.1 17 = .ok (.iinc 1 1, 3) := by decide +kernel
theorem d_MO_laysCould_20 : decode s_MO_laysCould.2.1 20 = .ok (.goto (-18), 3) := by decide +kernel
theorem d_MO_laysCould_23 : decode s_MO_laysCould.2.1 23 = .ok (.aload_n 0, 1) := by decide +kernel
theorem d_MO_laysCould_24 : decode s_MO_laysCould.2.1 24 = .ok (.getfield 185, 3) := by decide +kernel
theorem d_MO_laysCould_27 : decode s_MO_laysCould.2.1 27 = .ok (.aload_n 0, 1) := by decide +kernel
theorem d_MO_laysCould_28 : decode s_MO_laysCould.2.1 28 = .ok (.aload_n 0, 1) := by decide +kernel
theorem d_MO_laysCould_29 : decode s_MO_laysCould.2.1 29 = .ok (.getfield 325, 3) := by decide +kernel
theorem d_MO_laysCould_32 : decode s_MO_laysCould.2.1 32 = .ok (.invokevirtual 536, 3) := by decide +kernel
theorem d_MO_laysCould_35 : decode s_MO_laysCould.2.1 35 = .ok (.iconst 1, 1) := by decide +kernel
theorem d_MO_laysCould_36 : decode s_MO_laysCould.2.1 36 = .ok (.bastore, 1) := by decide +kernel
theorem d_MO_laysCould_37 : decode s_MO_laysCould.2.1 37 = .ok (.iconst 0, 1) := by decide +kernel
theorem d_MO_laysCould_38 : decode s_MO_laysCould.2.1 38 = .ok (.istore_n 1, 1) := by decide +kernel
theorem d_MO_laysCould_39 : decode s_MO_laysCould.2.1 39 = .ok (.iload_n 1, 1) := by decide +kernel
theorem d_MO_laysCould_40 : decode s_MO_laysCould.2.1 40 = .ok (.aload_n 0, 1) := by decide +kernel
theorem d_MO_laysCould_41 : decode s_MO_laysCould.2.1 41 = .ok (.getfield 591, 3) := by decide +kernel
theorem d_MO_laysCould_44 : decode s_MO_laysCould.2.1 44 = .ok (.if_icmp .ge 20, 3) := by decide +kernel
theorem d_MO_laysCould_47 : decode s_MO_laysCould.2.1 47 = .ok (.aload_n 0, 1) := by decide +kernel
theorem d_MO_laysCould_48 : decode s_MO_laysCould.2.1 48 = .ok (.getfield 331, 3) := by decide +kernel
theorem d_MO_laysCould_51 : decode s_MO_laysCould.2.1 51 = .ok (.ifCond .le 13, 3) := by decide +kernel
theorem d_MO_laysCould_54 : decode s_MO_laysCould.2.1 54 = .ok (.aload_n 0, 1) := by decide +kernel
theorem d_MO_laysCould_55 : decode s_MO_laysCould.2.1 55 = .ok (.invokevirtual 597, 3) := by decide +kernel
theorem d_MO_laysCould_58 : decode s_MO_laysCould.2.1 58 = .ok (.iinc 1 1, 3) := by decide +kernel
theorem d_MO_laysCould_61 : decode s_MO_laysCould.2.1 61 = .ok (.goto (-22), 3) := by decide +kernel
theorem d_MO_laysCould_64 : decode s_MO_laysCould.2.1 64 = .ok (.iconst 0, 1) := by decide +kernel
theorem d_MO_laysCould_65 : decode s_MO_laysCould.2.1 65 = .ok (.istore_n 1, 1) := by decide +kernel
theorem d_MO_laysCould_66 : decode s_MO_laysCould.2.1 66 = .ok (.iconst 0, 1) := by decide +kernel
theorem d_MO_laysCould_67 : decode s_MO_laysCould.2.1 67 = .ok (.istore_n 2, 1) := by decide +kernel
theorem d_MO_laysCould_68 : decode s_MO_laysCould.2.1 68 = .ok (.iload_n 2, 1) := by decide +kernel
theorem d_MO_laysCould_69 : decode s_MO_laysCould.2.1 69 = .ok (.aload_n 0, 1) := by decide +kernel
theorem d_MO_laysCould_70 : decode s_MO_laysCould.2.1 70 = .ok (.getfield 380, 3) := by decide +kernel
theorem d_MO_laysCould_73 : decode s_MO_laysCould.2.1 73 = .ok (.if_icmp .ge 49, 3) := by decide +kernel
theorem d_MO_laysCould_76 : decode s_MO_laysCould.2.1 76 = .ok (.aload_n 0, 1) := by decide +kernel
theorem d_MO_laysCould_77 : decode s_MO_laysCould.2.1 77 = .ok (.getfield 185, 3) := by decide +kernel
theorem d_MO_laysCould_80 : decode s_MO_laysCould.2.1 80 = .ok (.iload_n 2, 1) := by decide +kernel
theorem d_MO_laysCould_81 : decode s_MO_laysCould.2.1 81 = .ok (.aload_n 0, 1) := by decide +kernel
theorem d_MO_laysCould_82 : decode s_MO_laysCould.2.1 82 = .ok (.getfield 185, 3) := by decide +kernel
theorem d_MO_laysCould_85 : decode s_MO_laysCould.2.1 85 = .ok (.iload_n 2, 1) := by decide +kernel
theorem d_MO_laysCould_86 : decode s_MO_laysCould.2.1 86 = .ok (.baload, 1) := by decide +kernel
theorem d_MO_laysCould_87 : decode s_MO_laysCould.2.1 87 = .ok (.ifCond .eq 15, 3) := by decide +kernel
theorem d_MO_laysCould_90 : decode s_MO_laysCould.2.1 90 = .ok (.aload_n 0, 1) := by decide +kernel
theorem d_MO_laysCould_91 : decode s_MO_laysCould.2.1 91 = .ok (.iload_n 2, 1) := by decide +kernel
theorem d_MO_laysCould_92 : decode s_MO_laysCould.2.1 92 = .ok (.invokevirtual 600, 3) := by decide +kernel
theorem d_MO_laysCould_95 : decode s_MO_laysCould.2.1 95 = .ok (.ifCond .eq 7, 3) := by decide +kernel
theorem d_MO_laysCould_98 : decode s_MO_laysCould.2.1 98 = .ok (.iconst 1, 1) := by decide +kernel
theorem d_MO_laysCould_99 : decode s_MO_laysCould.2.1 99 = .ok (.goto 4, 3) := by decide +kernel
theorem d_MO_laysCould_102 : decode s_MO_laysCould.2.1 102 = .ok (.iconst 0, 1) := by decide +kernel
theorem d_MO_laysCould_103 : decode s_MO_laysCould.2.1 103 = .ok (.bastore, 1) := by decide +kernel
theorem d_MO_laysCould_104 : decode s_MO_laysCould.2.1 104 = .ok (.aload_n 0, 1) := by decide +kernel
theorem d_MO_laysCould_105 : decode s_MO_laysCould.2.1 105 = .ok (.getfield 185, 3) := by decide +kernel
theorem d_MO_laysCould_108 : decode s_MO_laysCould.2.1 108 = .ok (.iload_n 2, 1) := by decide +kernel
theorem d_MO_laysCould_109 : decode s_MO_laysCould.2.1 109 = .ok (.baload, 1) := by decide +kernel
theorem d_MO_laysCould_110 : decode s_MO_laysCould.2.1 110 = .ok (.ifCond .eq 6, 3) := by decide +kernel
theorem d_MO_laysCould_113 : decode s_MO_laysCould.2.1 113 = .ok (.iinc 1 1, 3) := by decide +kernel
theorem d_MO_laysCould_116 : decode s_MO_laysCould.2.1 116 = .ok (.iinc 2 1, 3) := by decide +kernel
theorem d_MO_laysCould_119 : decode s_MO_laysCould.2.1 119 = .ok (.goto (-51), 3) := by decide +kernel
theorem d_MO_laysCould_122 : decode s_MO_laysCould.2.1 122 = .ok (.iload_n 1, 1) := by decide +kernel
theorem d_MO_laysCould_123 : decode s_MO_laysCould.2.1 123 = .ok (.ireturn, 1) := by decide +kernel
theorem d_MO_could_0 : decode s_MO_could.2.1 0 = .ok (.aload_n 0, 1) := by decide +kernel
theorem d_MO_could_1 : decode s_MO_could.2.1 1 = .ok (.invokevirtual 505, 3) := by decide +kernel
theorem d_MO_could_4 : decode s_MO_could.2.1 4 = .ok (.ifCond .eq 8, 3) := by decide +kernel
theorem d_MO_could_7 : decode s_MO_could.2.1 7 = .ok (.iload_n 1, 1) := by decide +kernel
theorem d_MO_could_8 : decode s_MO_could.2.1 8 = .ok (.iconst (-1), 1) := by decide +kernel
theorem d_MO_could_9 : decode s_MO_could.2.1 9 = .ok (.if_icmp .ge 5, 3) := by decide +kernel
theorem d_MO_could_12 : decode s_MO_could.2.1 12 = .ok (.iconst (-1), 1) := by decide +kernel
theorem d_MO_could_13 : decode s_MO_could.2.1 13 = .ok (.ireturn, 1) := by decide +kernel
theorem d_MO_could_14 : decode s_MO_could.2.1 14 = .ok (.aload_n 0, 1) := by decide +kernel
theorem d_MO_could_15 : decode s_MO_could.2.1 15 = .ok (.invokevirtual 603, 3) := by decide +kernel
theorem d_MO_could_18 : decode s_MO_could.2.1 18 = .ok (.istore_n 2, 1) := by decide +kernel
theorem d_MO_could_19 : decode s_MO_could.2.1 19 = .ok (.iload_n 1, 1) := by decide +kernel
theorem d_MO_could_20 : decode s_MO_could.2.1 20 = .ok (.iconst (-1), 1) := by decide +kernel
theorem d_MO_could_21 : decode s_MO_could.2.1 21 = .ok (.if_icmp .ne 5, 3) := by decide +kernel
theorem d_MO_could_24 : decode s_MO_could.2.1 24 = .ok (.iload_n 2, 1) := by decide +kernel
theorem d_MO_could_25 : decode s_MO_could.2.1 25 = .ok (.ireturn, 1) := by decide +kernel
theorem d_MO_could_26 : decode s_MO_could.2.1 26 = .ok (.iconst 0, 1) := by decide +kernel
theorem d_MO_could_27 : decode s_MO_could.2.1 27 = .ok (.istore_n 3, 1) := by decide +kernel
theorem d_MO_could_28 : decode s_MO_could.2.1 28 = .ok (.iconst 0, 1) := by decide +kernel
theorem d_MO_could_29 : decode s_MO_could.2.1 29 = .ok (.istore 4, 2) := by decide +kernel
theorem d_MO_could_31 : decode s_MO_could.2.1 31 = .ok (.iload 4, 2) := by decide +kernel
theorem d_MO_could_33 : decode s_MO_could.2.1 33 = .ok (.aload_n 0, 1) := by decide +kernel
theorem d_MO_could_34 : decode s_MO_could.2.1 34 = .ok (.getfield 380, 3) := by decide +kernel
theorem d_MO_could_37 : decode s_MO_could.2.1 37 = .ok (.if_icmp .ge 33, 3) := by decide +kernel
theorem d_MO_could_40 : decode s_MO_could.2.1 40 = .ok (.aload_n 0, 1) := by decide +kernel
theorem d_MO_could_41 : decode s_MO_could.2.1 41 = .ok (.getfield 185, 3) := by decide +kernel
theorem d_MO_could_44 : decode s_MO_could.2.1 44 = .ok (.iload 4, 2) := by decide +kernel
theorem d_MO_could_46 : decode s_MO_could.2.1 46 = .ok (.baload, 1) := by decide +kernel
theorem d_MO_could_47 : decode s_MO_could.2.1 47 = .ok (.ifCond .ne 6, 3) := by decide +kernel
theorem d_MO_could_50 : decode s_MO_could.2.1 50 = .ok (.goto 14, 3) := by decide +kernel
theorem d_MO_could_53 : decode s_MO_could.2.1 53 = .ok (.iload_n 3, 1) := by decide +kernel
theorem d_MO_could_54 : decode s_MO_could.2.1 54 = .ok (.iload_n 1, 1) := by decide +kernel
theorem d_MO_could_55 : decode s_MO_could.2.1 55 = .ok (.if_icmp .ne 6, 3) := by decide +kernel
theorem d_MO_could_58 : decode s_MO_could.2.1 58 = .ok (.iload 4, 2) := by decide +kernel
theorem d_MO_could_60 : decode s_MO_could.2.1 60 = .ok (.ireturn, 1) := by decide +kernel
theorem d_MO_could_61 : decode s_MO_could.2.1 61 = .ok (.iinc 3 1, 3) := by decide +kernel
theorem d_MO_could_64 : decode s_MO_could.2.1 64 = .ok (.iinc 4 1, 3) := by decide +kernel
theorem d_MO_could_67 : decode s_MO_could.2.1 67 = .ok (.goto (-36), 3) := by decide +kernel
theorem d_MO_could_70 : decode s_MO_could.2.1 70 = .ok (.iconst (-1), 1) := by decide +kernel
theorem d_MO_could_71 : decode s_MO_could.2.1 71 = .ok (.ireturn, 1) := by decide +kernel
theorem d_MO_mostBy_0 : decode s_MO_mostBy.2.1 0 = .ok (.iconst 0, 1) := by decide +kernel
theorem d_MO_mostBy_1 : decode s_MO_mostBy.2.1 1 = .ok (.istore_n 2, 1) := by decide +kernel
theorem d_MO_mostBy_2 : decode s_MO_mostBy.2.1 2 = .ok (.iconst 0, 1) := by decide +kernel
theorem d_MO_mostBy_3 : decode s_MO_mostBy.2.1 3 = .ok (.istore_n 3, 1) := by decide +kernel
theorem d_MO_mostBy_4 : decode s_MO_mostBy.2.1 4 = .ok (.iload_n 3, 1) := by decide +kernel
theorem d_MO_mostBy_5 : decode s_MO_mostBy.2.1 5 = .ok (.iconst 4, 1) := by decide +kernel
theorem d_MO_mostBy_6 : decode s_MO_mostBy.2.1 6 = .ok (.if_icmp .gt 63, 3) := by decide +kernel
theorem d_MO_mostBy_9 : decode s_MO_mostBy.2.1 9 = .ok (.iconst 0, 1) := by decide +kernel
theorem d_MO_mostBy_10 : decode s_MO_mostBy.2.1 10 = .ok (.istore 4, 2) := by decide +kernel
theorem d_MO_mostBy_12 : decode s_MO_mostBy.2.1 12 = .ok (.iconst 0, 1) := by decide +kernel
theorem d_MO_mostBy_13 : decode s_MO_mostBy.2.1 13 = .ok (.istore 5, 2) := by decide +kernel
theorem d_MO_mostBy_15 : decode s_MO_mostBy.2.1 15 = .ok (.iload 5, 2) := by decide +kernel
theorem d_MO_mostBy_17 : decode s_MO_mostBy.2.1 17 = .ok (.aload_n 0, 1) := by decide +kernel
theorem d_MO_mostBy_18 : decode s_MO_mostBy.2.1 18 = .ok (.getfield 380, 3) := by decide +kernel
theorem d_MO_mostBy_21 : decode s_MO_mostBy.2.1 21 = .ok (.if_icmp .ge 33, 3) := by decide +kernel
theorem d_MO_mostBy_24 : decode s_MO_mostBy.2.1 24 = .ok (.aload_n 0, 1) := by decide +kernel
theorem d_MO_mostBy_25 : decode s_MO_mostBy.2.1 25 = .ok (.getfield 185, 3) := by decide +kernel
theorem d_MO_mostBy_28 : decode s_MO_mostBy.2.1 28 = .ok (.iload 5, 2) := by decide +kernel
theorem d_MO_mostBy_30 : decode s_MO_mostBy.2.1 30 = .ok (.baload, 1) := by decide +kernel
theorem d_MO_mostBy_31 : decode s_MO_mostBy.2.1 31 = .ok (.ifCond .eq 17, 3) := by decide +kernel
theorem d_MO_mostBy_34 : decode s_MO_mostBy.2.1 34 = .ok (.aload_n 0, 1) := by decide +kernel
theorem d_MO_mostBy_35 : decode s_MO_mostBy.2.1 35 = .ok (.iload 5, 2) := by decide +kernel
theorem d_MO_mostBy_37 : decode s_MO_mostBy.2.1 37 = .ok (.iload_n 1, 1) := by decide +kernel
theorem d_MO_mostBy_38 : decode s_MO_mostBy.2.1 38 = .ok (.invokevirtual 594, 3) := by decide +kernel
theorem d_MO_mostBy_41 : decode s_MO_mostBy.2.1 41 = .ok (.iload_n 3, 1) := by decide +kernel
theorem d_MO_mostBy_42 : decode s_MO_mostBy.2.1 42 = .ok (.if_icmp .ne 6, 3) := by decide +kernel
theorem d_MO_mostBy_45 : decode s_MO_mostBy.2.1 45 = .ok (.iinc 4 1, 3) := by decide +kernel
theorem d_MO_mostBy_48 : decode s_MO_mostBy.2.1 48 = .ok (.iinc 5 1, 3) := by decide +kernel
theorem d_MO_mostBy_51 : decode s_MO_mostBy.2.1 51 = .ok (.goto (-36), 3) := by decide +kernel
theorem d_MO_mostBy_54 : decode s_MO_mostBy.2.1 54 = .ok (.iload 4, 2) := by decide +kernel
theorem d_MO_mostBy_56 : decode s_MO_mostBy.2.1 56 = .ok (.iload_n 2, 1) := by decide +kernel
theorem d_MO_mostBy_57 : decode s_MO_mostBy.2.1 57 = .ok (.if_icmp .le 6, 3) := by decide +kernel
theorem d_MO_mostBy_60 : decode s_MO_mostBy.2.1 60 = .ok (.iload 4, 2) := by decide +kernel
theorem d_MO_mostBy_62 : decode s_MO_mostBy.2.1 62 = .ok (.istore_n 2, 1) := by decide +kernel
theorem d_MO_mostBy_63 : decode s_MO_mostBy.2.1 63 = .ok (.iinc 3 1, 3) := by decide +kernel
theorem d_MO_mostBy_66 : decode s_MO_mostBy.2.1 66 = .ok (.goto (-62), 3) := by decide +kernel
theorem d_MO_mostBy_69 : decode s_MO_mostBy.2.1 69 = .ok (.iload_n 2, 1) := by decide +kernel
theorem d_MO_mostBy_70 : decode s_MO_mostBy.2.1 70 = .ok (.ireturn, 1) := by decide +kernel
theorem d_MO_tells_0 : decode s_MO_tells.2.1 0 = .ok (.aload_n 0, 1) := by decide +kernel
theorem d_MO_tells_1 : decode s_MO_tells.2.1 1 = .ok (.invokevirtual 505, 3) := by decide +kernel
theorem d_MO_tells_4 : decode s_MO_tells.2.1 4 = .ok (.ifCond .eq 20, 3) := by decide +kernel
theorem d_MO_tells_7 : decode s_MO_tells.2.1 7 = .ok (.iload_n 1, 1) := by decide +kernel
theorem d_MO_tells_8 : decode s_MO_tells.2.1 8 = .ok (.i2l, 1) := by decide +kernel
theorem d_MO_tells_9 : decode s_MO_tells.2.1 9 = .ok (.lconst 0, 1) := by decide +kernel
theorem d_MO_tells_10 : decode s_MO_tells.2.1 10 = .ok (.lconst 1, 1) := by decide +kernel
theorem d_MO_tells_11 : decode s_MO_tells.2.1 11 = .ok (.invokestatic 210, 3) := by decide +kernel
theorem d_MO_tells_14 : decode s_MO_tells.2.1 14 = .ok (.ifCond .eq 10, 3) := by decide +kernel
theorem d_MO_tells_17 : decode s_MO_tells.2.1 17 = .ok (.aload_n 0, 1) := by decide +kernel
theorem d_MO_tells_18 : decode s_MO_tells.2.1 18 = .ok (.invokevirtual 603, 3) := by decide +kernel
theorem d_MO_tells_21 : decode s_MO_tells.2.1 21 = .ok (.ifCond .ne 5, 3) := by decide +kernel
theorem d_MO_tells_24 : decode s_MO_tells.2.1 24 = .ok (.iconst (-1), 1) := by decide +kernel
theorem d_MO_tells_25 : decode s_MO_tells.2.1 25 = .ok (.ireturn, 1) := by decide +kernel
theorem d_MO_tells_26 : decode s_MO_tells.2.1 26 = .ok (.iconst 0, 1) := by decide +kernel
theorem d_MO_tells_27 : decode s_MO_tells.2.1 27 = .ok (.istore_n 2, 1) := by decide +kernel
theorem d_MO_tells_28 : decode s_MO_tells.2.1 28 = .ok (.iconst 1, 1) := by decide +kernel
theorem d_MO_tells_29 : decode s_MO_tells.2.1 29 = .ok (.istore_n 3, 1) := by decide +kernel
theorem d_MO_tells_30 : decode s_MO_tells.2.1 30 = .ok (.iload_n 3, 1) := by decide +kernel
theorem d_MO_tells_31 : decode s_MO_tells.2.1 31 = .ok (.aload_n 0, 1) := by decide +kernel
theorem d_MO_tells_32 : decode s_MO_tells.2.1 32 = .ok (.getfield 81, 3) := by decide +kernel
theorem d_MO_tells_35 : decode s_MO_tells.2.1 35 = .ok (.iconst 0, 1) := by decide +kernel
theorem d_MO_tells_36 : decode s_MO_tells.2.1 36 = .ok (.iaload, 1) := by decide +kernel
theorem d_MO_tells_37 : decode s_MO_tells.2.1 37 = .ok (.if_icmp .ge 24, 3) := by decide +kernel
theorem d_MO_tells_40 : decode s_MO_tells.2.1 40 = .ok (.aload_n 0, 1) := by decide +kernel
theorem d_MO_tells_41 : decode s_MO_tells.2.1 41 = .ok (.iload_n 3, 1) := by decide +kernel
theorem d_MO_tells_42 : decode s_MO_tells.2.1 42 = .ok (.invokevirtual 606, 3) := by decide +kernel
theorem d_MO_tells_45 : decode s_MO_tells.2.1 45 = .ok (.aload_n 0, 1) := by decide +kernel
theorem d_MO_tells_46 : decode s_MO_tells.2.1 46 = .ok (.iload_n 2, 1) := by decide +kernel
theorem d_MO_tells_47 : decode s_MO_tells.2.1 47 = .ok (.invokevirtual 606, 3) := by decide +kernel
theorem d_MO_tells_50 : decode s_MO_tells.2.1 50 = .ok (.if_icmp .ge 5, 3) := by decide +kernel
theorem d_MO_tells_53 : decode s_MO_tells.2.1 53 = .ok (.iload_n 3, 1) := by decide +kernel
theorem d_MO_tells_54 : decode s_MO_tells.2.1 54 = .ok (.istore_n 2, 1) := by decide +kernel
theorem d_MO_tells_55 : decode s_MO_tells.2.1 55 = .ok (.iinc 3 1, 3) := by decide +kernel
theorem d_MO_tells_58 : decode s_MO_tells.2.1 58 = .ok (.goto (-28), 3) := by decide +kernel
theorem d_MO_tells_61 : decode s_MO_tells.2.1 61 = .ok (.iload_n 1, 1) := by decide +kernel
theorem d_MO_tells_62 : decode s_MO_tells.2.1 62 = .ok (.ifCond .ne 7, 3) := by decide +kernel
theorem d_MO_tells_65 : decode s_MO_tells.2.1 65 = .ok (.iload_n 2, 1) := by decide +kernel
theorem d_MO_tells_66 : decode s_MO_tells.2.1 66 = .ok (.goto 8, 3) := by decide +kernel
theorem d_MO_tells_69 : decode s_MO_tells.2.1 69 = .ok (.aload_n 0, 1) := by decide +kernel
theorem d_MO_tells_70 : decode s_MO_tells.2.1 70 = .ok (.iload_n 2, 1) := by decide +kernel
theorem d_MO_tells_71 : decode s_MO_tells.2.1 71 = .ok (.invokevirtual 606, 3) := by decide +kernel
theorem d_MO_tells_74 : decode s_MO_tells.2.1 74 = .ok (.ireturn, 1) := by decide +kernel
theorem d_MO_writes_0 : decode s_MO_writes.2.1 0 = .ok (.aload_n 0, 1) := by decide +kernel
theorem d_MO_writes_1 : decode s_MO_writes.2.1 1 = .ok (.getfield 191, 3) := by decide +kernel
theorem d_MO_writes_4 : decode s_MO_writes.2.1 4 = .ok (.aload_n 0, 1) := by decide +kernel
theorem d_MO_writes_5 : decode s_MO_writes.2.1 5 = .ok (.getfield 609, 3) := by decide +kernel
theorem d_MO_writes_8 : decode s_MO_writes.2.1 8 = .ok (.iload_n 1, 1) := by decide +kernel
theorem d_MO_writes_9 : decode s_MO_writes.2.1 9 = .ok (.iastore, 1) := by decide +kernel
theorem d_MO_writes_10 : decode s_MO_writes.2.1 10 = .ok (.aload_n 0, 1) := by decide +kernel
theorem d_MO_writes_11 : decode s_MO_writes.2.1 11 = .ok (.dup, 1) := by decide +kernel
theorem d_MO_writes_12 : decode s_MO_writes.2.1 12 = .ok (.getfield 609, 3) := by decide +kernel
theorem d_MO_writes_15 : decode s_MO_writes.2.1 15 = .ok (.iconst 1, 1) := by decide +kernel
theorem d_MO_writes_16 : decode s_MO_writes.2.1 16 = .ok (.iadd, 1) := by decide +kernel
theorem d_MO_writes_17 : decode s_MO_writes.2.1 17 = .ok (.putfield 609, 3) := by decide +kernel
theorem d_MO_writes_20 : decode s_MO_writes.2.1 20 = .ok (.return_, 1) := by decide +kernel
theorem d_MO_writesName_0 : decode s_MO_writesName.2.1 0 = .ok (.aload_n 0, 1) := by decide +kernel
theorem d_MO_writesName_1 : decode s_MO_writesName.2.1 1 = .ok (.getfield 81, 3) := by decide +kernel
theorem d_MO_writesName_4 : decode s_MO_writesName.2.1 4 = .ok (.iload_n 1, 1) := by decide +kernel
theorem d_MO_writesName_5 : decode s_MO_writesName.2.1 5 = .ok (.iload_n 2, 1) := by decide +kernel
theorem d_MO_writesName_6 : decode s_MO_writesName.2.1 6 = .ok (.invokestatic 263, 3) := by decide +kernel
theorem d_MO_writesName_9 : decode s_MO_writesName.2.1 9 = .ok (.iaload, 1) := by decide +kernel
theorem d_MO_writesName_10 : decode s_MO_writesName.2.1 10 = .ok (.istore_n 3, 1) := by decide +kernel
theorem d_MO_writesName_11 : decode s_MO_writesName.2.1 11 = .ok (.iload_n 3, 1) := by decide +kernel
theorem d_MO_writesName_12 : decode s_MO_writesName.2.1 12 = .ok (.invokestatic 518, 3) := by decide +kernel
theorem d_MO_writesName_15 : decode s_MO_writesName.2.1 15 = .ok (.istore 4, 2) := by decide +kernel
theorem d_MO_writesName_17 : decode s_MO_writesName.2.1 17 = .ok (.aload_n 0, 1) := by decide +kernel
theorem d_MO_writesName_18 : decode s_MO_writesName.2.1 18 = .ok (.dup, 1) := by decide +kernel
theorem d_MO_writesName_19 : decode s_MO_writesName.2.1 19 = .ok (.getfield 609, 3) := by decide +kernel
theorem d_MO_writesName_22 : decode s_MO_writesName.2.1 22 = .ok (.iload 4, 2) := by decide +kernel
theorem d_MO_writesName_24 : decode s_MO_writesName.2.1 24 = .ok (.iadd, 1) := by decide +kernel
theorem d_MO_writesName_25 : decode s_MO_writesName.2.1 25 = .ok (.putfield 609, 3) := by decide +kernel
theorem d_MO_writesName_28 : decode s_MO_writesName.2.1 28 = .ok (.iconst 1, 1) := by decide +kernel
theorem d_MO_writesName_29 : decode s_MO_writesName.2.1 29 = .ok (.istore 5, 2) := by decide +kernel
theorem d_MO_writesName_31 : decode s_MO_writesName.2.1 31 = .ok (.iload 5, 2) := by decide +kernel
theorem d_MO_writesName_33 : decode s_MO_writesName.2.1 33 = .ok (.iload 4, 2) := by decide +kernel
theorem d_MO_writesName_35 : decode s_MO_writesName.2.1 35 = .ok (.if_icmp .gt 33, 3) := by decide +kernel
theorem d_MO_writesName_38 : decode s_MO_writesName.2.1 38 = .ok (.aload_n 0, 1) := by decide +kernel
theorem d_MO_writesName_39 : decode s_MO_writesName.2.1 39 = .ok (.getfield 191, 3) := by decide +kernel
theorem d_MO_writesName_42 : decode s_MO_writesName.2.1 42 = .ok (.aload_n 0, 1) := by decide +kernel
theorem d_MO_writesName_43 : decode s_MO_writesName.2.1 43 = .ok (.getfield 609, 3) := by decide +kernel
theorem d_MO_writesName_46 : decode s_MO_writesName.2.1 46 = .ok (.iload 5, 2) := by decide +kernel
theorem d_MO_writesName_48 : decode s_MO_writesName.2.1 48 = .ok (.isub, 1) := by decide +kernel
theorem d_MO_writesName_49 : decode s_MO_writesName.2.1 49 = .ok (.bipush 96, 2) := by decide +kernel
theorem d_MO_writesName_51 : decode s_MO_writesName.2.1 51 = .ok (.iload_n 3, 1) := by decide +kernel
theorem d_MO_writesName_52 : decode s_MO_writesName.2.1 52 = .ok (.bipush 27, 2) := by decide +kernel
theorem d_MO_writesName_54 : decode s_MO_writesName.2.1 54 = .ok (.irem, 1) := by decide +kernel
theorem d_MO_writesName_55 : decode s_MO_writesName.2.1 55 = .ok (.iadd, 1) := by decide +kernel
theorem d_MO_writesName_56 : decode s_MO_writesName.2.1 56 = .ok (.iastore, 1) := by decide +kernel
theorem d_MO_writesName_57 : decode s_MO_writesName.2.1 57 = .ok (.iload_n 3, 1) := by decide +kernel
theorem d_MO_writesName_58 : decode s_MO_writesName.2.1 58 = .ok (.bipush 27, 2) := by decide +kernel
theorem d_MO_writesName_60 : decode s_MO_writesName.2.1 60 = .ok (.idiv, 1) := by decide +kernel
theorem d_MO_writesName_61 : decode s_MO_writesName.2.1 61 = .ok (.istore_n 3, 1) := by decide +kernel
theorem d_MO_writesName_62 : decode s_MO_writesName.2.1 62 = .ok (.iinc 5 1, 3) := by decide +kernel
theorem d_MO_writesName_65 : decode s_MO_writesName.2.1 65 = .ok (.goto (-34), 3) := by decide +kernel
theorem d_MO_writesName_68 : decode s_MO_writesName.2.1 68 = .ok (.return_, 1) := by decide +kernel
theorem d_MO_writesAgent_0 : decode s_MO_writesAgent.2.1 0 = .ok (.aload_n 0, 1) := by decide +kernel
theorem d_MO_writesAgent_1 : decode s_MO_writesAgent.2.1 1 = .ok (.bipush 32, 2) := by decide +kernel
theorem d_MO_writesAgent_3 : decode s_MO_writesAgent.2.1 3 = .ok (.invokevirtual 612, 3) := by decide +kernel
theorem d_MO_writesAgent_6 : decode s_MO_writesAgent.2.1 6 = .ok (.aload_n 0, 1) := by decide +kernel
theorem d_MO_writesAgent_7 : decode s_MO_writesAgent.2.1 7 = .ok (.iconst 0, 1) := by decide +kernel
theorem d_MO_writesAgent_8 : decode s_MO_writesAgent.2.1 8 = .ok (.iload_n 1, 1) := by decide +kernel
theorem d_MO_writesAgent_9 : decode s_MO_writesAgent.2.1 9 = .ok (.invokestatic 346, 3) := by decide +kernel
theorem d_MO_writesAgent_12 : decode s_MO_writesAgent.2.1 12 = .ok (.invokevirtual 615, 3) := by decide +kernel
theorem d_MO_writesAgent_15 : decode s_MO_writesAgent.2.1 15 = .ok (.iload_n 1, 1) := by decide +kernel
theorem d_MO_writesAgent_16 : decode s_MO_writesAgent.2.1 16 = .ok (.invokestatic 340, 3) := by decide +kernel
theorem d_MO_writesAgent_19 : decode s_MO_writesAgent.2.1 19 = .ok (.ifCond .le 50, 3) := by decide +kernel
theorem d_MO_writesAgent_22 : decode s_MO_writesAgent.2.1 22 = .ok (.aload_n 0, 1) := by decide +kernel
theorem d_MO_writesAgent_23 : decode s_MO_writesAgent.2.1 23 = .ok (.bipush 60, 2) := by decide +kernel
theorem d_MO_writesAgent_25 : decode s_MO_writesAgent.2.1 25 = .ok (.invokevirtual 612, 3) := by decide +kernel
theorem d_MO_writesAgent_28 : decode s_MO_writesAgent.2.1 28 = .ok (.aload_n 0, 1) := by decide +kernel
theorem d_MO_writesAgent_29 : decode s_MO_writesAgent.2.1 29 = .ok (.iconst 2, 1) := by decide +kernel
theorem d_MO_writesAgent_30 : decode s_MO_writesAgent.2.1 30 = .ok (.iload_n 1, 1) := by decide +kernel
theorem d_MO_writesAgent_31 : decode s_MO_writesAgent.2.1 31 = .ok (.invokestatic 340, 3) := by decide +kernel
theorem d_MO_writesAgent_34 : decode s_MO_writesAgent.2.1 34 = .ok (.iconst 1, 1) := by decide +kernel
theorem d_MO_writesAgent_35 : decode s_MO_writesAgent.2.1 35 = .ok (.isub, 1) := by decide +kernel
theorem d_MO_writesAgent_36 : decode s_MO_writesAgent.2.1 36 = .ok (.invokevirtual 615, 3) := by decide +kernel
theorem d_MO_writesAgent_39 : decode s_MO_writesAgent.2.1 39 = .ok (.iload_n 1, 1) := by decide +kernel
theorem d_MO_writesAgent_40 : decode s_MO_writesAgent.2.1 40 = .ok (.invokestatic 343, 3) := by decide +kernel
theorem d_MO_writesAgent_43 : decode s_MO_writesAgent.2.1 43 = .ok (.ifCond .le 20, 3) := by decide +kernel
theorem d_MO_writesAgent_46 : decode s_MO_writesAgent.2.1 46 = .ok (.aload_n 0, 1) := by decide +kernel
theorem d_MO_writesAgent_47 : decode s_MO_writesAgent.2.1 47 = .ok (.bipush 44, 2) := by decide +kernel
theorem d_MO_writesAgent_49 : decode s_MO_writesAgent.2.1 49 = .ok (.invokevirtual 612, 3) := by decide +kernel
theorem d_MO_writesAgent_52 : decode s_MO_writesAgent.2.1 52 = .ok (.aload_n 0, 1) := by decide +kernel
theorem d_MO_writesAgent_53 : decode s_MO_writesAgent.2.1 53 = .ok (.iconst 2, 1) := by decide +kernel
theorem d_MO_writesAgent_54 : decode s_MO_writesAgent.2.1 54 = .ok (.iload_n 1, 1) := by decide +kernel
theorem d_MO_writesAgent_55 : decode s_MO_writesAgent.2.1 55 = .ok (.invokestatic 343, 3) := by decide +kernel
theorem d_MO_writesAgent_58 : decode s_MO_writesAgent.2.1 58 = .ok (.iconst 1, 1) := by decide +kernel
theorem d_MO_writesAgent_59 : decode s_MO_writesAgent.2.1 59 = .ok (.isub, 1) := by decide +kernel
theorem d_MO_writesAgent_60 : decode s_MO_writesAgent.2.1 60 = .ok (.invokevirtual 615, 3) := by decide +kernel
theorem d_MO_writesAgent_63 : decode s_MO_writesAgent.2.1 63 = .ok (.aload_n 0, 1) := by decide +kernel
theorem d_MO_writesAgent_64 : decode s_MO_writesAgent.2.1 64 = .ok (.bipush 62, 2) := by decide +kernel
theorem d_MO_writesAgent_66 : decode s_MO_writesAgent.2.1 66 = .ok (.invokevirtual 612, 3) := by decide +kernel
theorem d_MO_writesAgent_69 : decode s_MO_writesAgent.2.1 69 = .ok (.iload_n 1, 1) := by decide +kernel
theorem d_MO_writesAgent_70 : decode s_MO_writesAgent.2.1 70 = .ok (.invokestatic 355, 3) := by decide +kernel
theorem d_MO_writesAgent_73 : decode s_MO_writesAgent.2.1 73 = .ok (.ifCond .ne 4, 3) := by decide +kernel
theorem d_MO_writesAgent_76 : decode s_MO_writesAgent.2.1 76 = .ok (.return_, 1) := by decide +kernel
theorem d_MO_writesAgent_77 : decode s_MO_writesAgent.2.1 77 = .ok (.aload_n 0, 1) := by decide +kernel
theorem d_MO_writesAgent_78 : decode s_MO_writesAgent.2.1 78 = .ok (.bipush 33, 2) := by decide +kernel
theorem d_MO_writesAgent_80 : decode s_MO_writesAgent.2.1 80 = .ok (.invokevirtual 612, 3) := by decide +kernel
theorem d_MO_writesAgent_83 : decode s_MO_writesAgent.2.1 83 = .ok (.aload_n 0, 1) := by decide +kernel
theorem d_MO_writesAgent_84 : decode s_MO_writesAgent.2.1 84 = .ok (.iconst 2, 1) := by decide +kernel
theorem d_MO_writesAgent_85 : decode s_MO_writesAgent.2.1 85 = .ok (.iload_n 1, 1) := by decide +kernel
theorem d_MO_writesAgent_86 : decode s_MO_writesAgent.2.1 86 = .ok (.invokestatic 355, 3) := by decide +kernel
theorem d_MO_writesAgent_89 : decode s_MO_writesAgent.2.1 89 = .ok (.iconst 1, 1) := by decide +kernel
theorem d_MO_writesAgent_90 : decode s_MO_writesAgent.2.1 90 = .ok (.isub, 1) := by decide +kernel
theorem d_MO_writesAgent_91 : decode s_MO_writesAgent.2.1 91 = .ok (.invokevirtual 615, 3) := by decide +kernel
theorem d_MO_writesAgent_94 : decode s_MO_writesAgent.2.1 94 = .ok (.return_, 1) := by decide +kernel
theorem d_MO_writesWorld_0 : decode s_MO_writesWorld.2.1 0 = .ok (.aload_n 0, 1) := by decide +kernel
theorem d_MO_writesWorld_1 : decode s_MO_writesWorld.2.1 1 = .ok (.iconst 0, 1) := by decide +kernel
theorem d_MO_writesWorld_2 : decode s_MO_writesWorld.2.1 2 = .ok (.putfield 609, 3) := by decide +kernel
theorem d_MO_writesWorld_5 : decode s_MO_writesWorld.2.1 5 = .ok (.aload_n 0, 1) := by decide +kernel
theorem d_MO_writesWorld_6 : decode s_MO_writesWorld.2.1 6 = .ok (.aload_n 0, 1) := by decide +kernel
theorem d_MO_writesWorld_7 : decode s_MO_writesWorld.2.1 7 = .ok (.getfield 96, 3) := by decide +kernel
theorem d_MO_writesWorld_10 : decode s_MO_writesWorld.2.1 10 = .ok (.iload_n 1, 1) := by decide +kernel
theorem d_MO_writesWorld_11 : decode s_MO_writesWorld.2.1 11 = .ok (.laload, 1) := by decide +kernel
theorem d_MO_writesWorld_12 : decode s_MO_writesWorld.2.1 12 = .ok (.invokevirtual 415, 3) := by decide +kernel
theorem d_MO_writesWorld_15 : decode s_MO_writesWorld.2.1 15 = .ok (.aload_n 0, 1) := by decide +kernel
theorem d_MO_writesWorld_16 : decode s_MO_writesWorld.2.1 16 = .ok (.getfield 334, 3) := by decide +kernel
theorem d_MO_writesWorld_19 : decode s_MO_writesWorld.2.1 19 = .ok (.iconst (-1), 1) := by decide +kernel
theorem d_MO_writesWorld_20 : decode s_MO_writesWorld.2.1 20 = .ok (.if_icmp .ne 12, 3) := by decide +kernel
theorem d_MO_writesWorld_23 : decode s_MO_writesWorld.2.1 23 = .ok (.aload_n 0, 1) := by decide +kernel
theorem d_MO_writesWorld_24 : decode s_MO_writesWorld.2.1 24 = .ok (.bipush 45, 2) := by decide +kernel
theorem d_MO_writesWorld_26 : decode s_MO_writesWorld.2.1 26 = .ok (.invokevirtual 612, 3) := by decide +kernel
theorem d_MO_writesWorld_29 : decode s_MO_writesWorld.2.1 29 = .ok (.goto 12, 3) := by decide +kernel
theorem d_MO_writesWorld_32 : decode s_MO_writesWorld.2.1 32 = .ok (.aload_n 0, 1) := by decide +kernel
theorem d_MO_writesWorld_33 : decode s_MO_writesWorld.2.1 33 = .ok (.iconst 1, 1) := by decide +kernel
theorem d_MO_writesWorld_34 : decode s_MO_writesWorld.2.1 34 = .ok (.aload_n 0, 1) := by decide +kernel
theorem d_MO_writesWorld_35 : decode s_MO_writesWorld.2.1 35 = .ok (.getfield 334, 3) := by decide +kernel
theorem d_MO_writesWorld_38 : decode s_MO_writesWorld.2.1 38 = .ok (.invokevirtual 615, 3) := by decide +kernel
theorem d_MO_writesWorld_41 : decode s_MO_writesWorld.2.1 41 = .ok (.iconst 0, 1) := by decide +kernel
theorem d_MO_writesWorld_42 : decode s_MO_writesWorld.2.1 42 = .ok (.istore_n 2, 1) := by decide +kernel
theorem d_MO_writesWorld_43 : decode s_MO_writesWorld.2.1 43 = .ok (.iload_n 2, 1) := by decide +kernel
theorem d_MO_writesWorld_44 : decode s_MO_writesWorld.2.1 44 = .ok (.aload_n 0, 1) := by decide +kernel
theorem d_MO_writesWorld_45 : decode s_MO_writesWorld.2.1 45 = .ok (.invokevirtual 358, 3) := by decide +kernel
theorem d_MO_writesWorld_48 : decode s_MO_writesWorld.2.1 48 = .ok (.if_icmp .ge 19, 3) := by decide +kernel
theorem d_MO_writesWorld_51 : decode s_MO_writesWorld.2.1 51 = .ok (.aload_n 0, 1) := by decide +kernel
theorem d_MO_writesWorld_52 : decode s_MO_writesWorld.2.1 52 = .ok (.aload_n 0, 1) := by decide +kernel
theorem d_MO_writesWorld_53 : decode s_MO_writesWorld.2.1 53 = .ok (.getfield 87, 3) := by decide +kernel
theorem d_MO_writesWorld_56 : decode s_MO_writesWorld.2.1 56 = .ok (.iload_n 2, 1) := by decide +kernel
theorem d_MO_writesWorld_57 : decode s_MO_writesWorld.2.1 57 = .ok (.iaload, 1) := by decide +kernel
theorem d_MO_writesWorld_58 : decode s_MO_writesWorld.2.1 58 = .ok (.invokevirtual 618, 3) := by decide +kernel
theorem d_MO_writesWorld_61 : decode s_MO_writesWorld.2.1 61 = .ok (.iinc 2 1, 3) := by decide +kernel
theorem d_MO_writesWorld_64 : decode s_MO_writesWorld.2.1 64 = .ok (.goto (-21), 3) := by decide +kernel
theorem d_MO_writesWorld_67 : decode s_MO_writesWorld.2.1 67 = .ok (.return_, 1) := by decide +kernel
theorem d_MO_spell_0 : decode s_MO_spell.2.1 0 = .ok (.aload_n 0, 1) := by decide +kernel
theorem d_MO_spell_1 : decode s_MO_spell.2.1 1 = .ok (.iload_n 1, 1) := by decide +kernel
theorem d_MO_spell_2 : decode s_MO_spell.2.1 2 = .ok (.invokevirtual 526, 3) := by decide +kernel
theorem d_MO_spell_5 : decode s_MO_spell.2.1 5 = .ok (.ifCond .ne 5, 3) := by decide +kernel
theorem d_MO_spell_8 : decode s_MO_spell.2.1 8 = .ok (.iconst (-1), 1) := by decide +kernel
theorem d_MO_spell_9 : decode s_MO_spell.2.1 9 = .ok (.ireturn, 1) := by decide +kernel
theorem d_MO_spell_10 : decode s_MO_spell.2.1 10 = .ok (.aload_n 0, 1) := by decide +kernel
theorem d_MO_spell_11 : decode s_MO_spell.2.1 11 = .ok (.iload_n 1, 1) := by decide +kernel
theorem d_MO_spell_12 : decode s_MO_spell.2.1 12 = .ok (.invokevirtual 621, 3) := by decide +kernel
theorem d_MO_spell_15 : decode s_MO_spell.2.1 15 = .ok (.aload_n 0, 1) := by decide +kernel
theorem d_MO_spell_16 : decode s_MO_spell.2.1 16 = .ok (.getfield 609, 3) := by decide +kernel
theorem d_MO_spell_19 : decode s_MO_spell.2.1 19 = .ok (.ireturn, 1) := by decide +kernel
theorem d_MO_isSpelled_0 : decode s_MO_isSpelled.2.1 0 = .ok (.iload_n 1, 1) := by decide +kernel
theorem d_MO_isSpelled_1 : decode s_MO_isSpelled.2.1 1 = .ok (.aload_n 0, 1) := by decide +kernel
theorem d_MO_isSpelled_2 : decode s_MO_isSpelled.2.1 2 = .ok (.getfield 609, 3) := by decide +kernel
theorem d_MO_isSpelled_5 : decode s_MO_isSpelled.2.1 5 = .ok (.if_icmp .eq 5, 3) := by decide +kernel
theorem d_MO_isSpelled_8 : decode s_MO_isSpelled.2.1 8 = .ok (.iconst 0, 1) := by decide +kernel
theorem d_MO_isSpelled_9 : decode s_MO_isSpelled.2.1 9 = .ok (.ireturn, 1) := by decide +kernel
theorem d_MO_isSpelled_10 : decode s_MO_isSpelled.2.1 10 = .ok (.iconst 0, 1) := by decide +kernel
theorem d_MO_isSpelled_11 : decode s_MO_isSpelled.2.1 11 = .ok (.istore_n 2, 1) := by decide +kernel
theorem d_MO_isSpelled_12 : decode s_MO_isSpelled.2.1 12 = .ok (.iload_n 2, 1) := by decide +kernel
theorem d_MO_isSpelled_13 : decode s_MO_isSpelled.2.1 13 = .ok (.iload_n 1, 1) := by decide +kernel
theorem d_MO_isSpelled_14 : decode s_MO_isSpelled.2.1 14 = .ok (.if_icmp .ge 26, 3) := by decide +kernel
theorem d_MO_isSpelled_17 : decode s_MO_isSpelled.2.1 17 = .ok (.aload_n 0, 1) := by decide +kernel
theorem d_MO_isSpelled_18 : decode s_MO_isSpelled.2.1 18 = .ok (.getfield 7, 3) := by decide +kernel
theorem d_MO_isSpelled_21 : decode s_MO_isSpelled.2.1 21 = .ok (.iload_n 2, 1) := by decide +kernel
theorem d_MO_isSpelled_22 : decode s_MO_isSpelled.2.1 22 = .ok (.iaload, 1) := by decide +kernel
theorem d_MO_isSpelled_23 : decode s_MO_isSpelled.2.1 23 = .ok (.aload_n 0, 1) := by decide +kernel
theorem d_MO_isSpelled_24 : decode s_MO_isSpelled.2.1 24 = .ok (.getfield 191, 3) := by decide +kernel
theorem d_MO_isSpelled_27 : decode s_MO_isSpelled.2.1 27 = .ok (.iload_n 2, 1) := by decide +kernel
theorem d_MO_isSpelled_28 : decode s_MO_isSpelled.2.1 28 = .ok (.iaload, 1) := by decide +kernel
theorem d_MO_isSpelled_29 : decode s_MO_isSpelled.2.1 29 = .ok (.if_icmp .eq 5, 3) := by decide +kernel
theorem d_MO_isSpelled_32 : decode s_MO_isSpelled.2.1 32 = .ok (.iconst 0, 1) := by decide +kernel
theorem d_MO_isSpelled_33 : decode s_MO_isSpelled.2.1 33 = .ok (.ireturn, 1) := by decide +kernel
theorem d_MO_isSpelled_34 : decode s_MO_isSpelled.2.1 34 = .ok (.iinc 2 1, 3) := by decide +kernel
theorem d_MO_isSpelled_37 : decode s_MO_isSpelled.2.1 37 = .ok (.goto (-25), 3) := by decide +kernel
theorem d_MO_isSpelled_40 : decode s_MO_isSpelled.2.1 40 = .ok (.iconst 1, 1) := by decide +kernel
theorem d_MO_isSpelled_41 : decode s_MO_isSpelled.2.1 41 = .ok (.ireturn, 1) := by decide +kernel
theorem d_MO_which_0 : decode s_MO_which.2.1 0 = .ok (.aload_n 0, 1) := by decide +kernel
theorem d_MO_which_1 : decode s_MO_which.2.1 1 = .ok (.getfield 197, 3) := by decide +kernel
theorem d_MO_which_4 : decode s_MO_which.2.1 4 = .ok (.istore_n 1, 1) := by decide +kernel
theorem d_MO_which_5 : decode s_MO_which.2.1 5 = .ok (.aload_n 0, 1) := by decide +kernel
theorem d_MO_which_6 : decode s_MO_which.2.1 6 = .ok (.getfield 609, 3) := by decide +kernel
theorem d_MO_which_9 : decode s_MO_which.2.1 9 = .ok (.istore_n 2, 1) := by decide +kernel
theorem d_MO_which_10 : decode s_MO_which.2.1 10 = .ok (.iconst (-1), 1) := by decide +kernel
theorem d_MO_which_11 : decode s_MO_which.2.1 11 = .ok (.istore_n 3, 1) := by decide +kernel
theorem d_MO_which_12 : decode s_MO_which.2.1 12 = .ok (.aload_n 0, 1) := by decide +kernel
theorem d_MO_which_13 : decode s_MO_which.2.1 13 = .ok (.iconst 0, 1) := by decide +kernel
theorem d_MO_which_14 : decode s_MO_which.2.1 14 = .ok (.putfield 197, 3) := by decide +kernel
theorem d_MO_which_17 : decode s_MO_which.2.1 17 = .ok (.iconst 0, 1) := by decide +kernel
theorem d_MO_which_18 : decode s_MO_which.2.1 18 = .ok (.istore 4, 2) := by decide +kernel
theorem d_MO_which_20 : decode s_MO_which.2.1 20 = .ok (.iload 4, 2) := by decide +kernel
theorem d_MO_which_22 : decode s_MO_which.2.1 22 = .ok (.iload_n 2, 1) := by decide +kernel
theorem d_MO_which_23 : decode s_MO_which.2.1 23 = .ok (.if_icmp .ge 23, 3) := by decide +kernel
theorem d_MO_which_26 : decode s_MO_which.2.1 26 = .ok (.aload_n 0, 1) := by decide +kernel
theorem d_MO_which_27 : decode s_MO_which.2.1 27 = .ok (.getfield 194, 3) := by decide +kernel
theorem d_MO_which_30 : decode s_MO_which.2.1 30 = .ok (.iload 4, 2) := by decide +kernel
theorem d_MO_which_32 : decode s_MO_which.2.1 32 = .ok (.aload_n 0, 1) := by decide +kernel
theorem d_MO_which_33 : decode s_MO_which.2.1 33 = .ok (.getfield 191, 3) := by decide +kernel
theorem d_MO_which_36 : decode s_MO_which.2.1 36 = .ok (.iload 4, 2) := by decide +kernel
theorem d_MO_which_38 : decode s_MO_which.2.1 38 = .ok (.iaload, 1) := by decide +kernel
theorem d_MO_which_39 : decode s_MO_which.2.1 39 = .ok (.iastore, 1) := by decide +kernel
theorem d_MO_which_40 : decode s_MO_which.2.1 40 = .ok (.iinc 4 1, 3) := by decide +kernel
theorem d_MO_which_43 : decode s_MO_which.2.1 43 = .ok (.goto (-23), 3) := by decide +kernel
theorem d_MO_which_46 : decode s_MO_which.2.1 46 = .ok (.iconst 0, 1) := by decide +kernel
theorem d_MO_which_47 : decode s_MO_which.2.1 47 = .ok (.istore 4, 2) := by decide +kernel
theorem d_MO_which_49 : decode s_MO_which.2.1 49 = .ok (.aload_n 0, 1) := by decide +kernel
theorem d_MO_which_50 : decode s_MO_which.2.1 50 = .ok (.getfield 321, 3) := by decide +kernel
theorem d_MO_which_53 : decode s_MO_which.2.1 53 = .ok (.ifCond .eq 40, 3) := by decide +kernel
theorem d_MO_which_56 : decode s_MO_which.2.1 56 = .ok (.aload_n 0, 1) := by decide +kernel
theorem d_MO_which_57 : decode s_MO_which.2.1 57 = .ok (.iload 4, 2) := by decide +kernel
theorem d_MO_which_59 : decode s_MO_which.2.1 59 = .ok (.invokevirtual 526, 3) := by decide +kernel
theorem d_MO_which_62 : decode s_MO_which.2.1 62 = .ok (.ifCond .eq 31, 3) := by decide +kernel
theorem d_MO_which_65 : decode s_MO_which.2.1 65 = .ok (.iload_n 3, 1) := by decide +kernel
theorem d_MO_which_66 : decode s_MO_which.2.1 66 = .ok (.iconst (-1), 1) := by decide +kernel
theorem d_MO_which_67 : decode s_MO_which.2.1 67 = .ok (.if_icmp .ne 26, 3) := by decide +kernel
theorem d_MO_which_70 : decode s_MO_which.2.1 70 = .ok (.aload_n 0, 1) := by decide +kernel
theorem d_MO_which_71 : decode s_MO_which.2.1 71 = .ok (.iload 4, 2) := by decide +kernel
theorem d_MO_which_73 : decode s_MO_which.2.1 73 = .ok (.invokevirtual 621, 3) := by decide +kernel
theorem d_MO_which_76 : decode s_MO_which.2.1 76 = .ok (.aload_n 0, 1) := by decide +kernel
theorem d_MO_which_77 : decode s_MO_which.2.1 77 = .ok (.iload_n 1, 1) := by decide +kernel
theorem d_MO_which_78 : decode s_MO_which.2.1 78 = .ok (.invokevirtual 624, 3) := by decide +kernel
theorem d_MO_which_81 : decode s_MO_which.2.1 81 = .ok (.ifCond .eq 6, 3) := by decide +kernel
theorem d_MO_which_84 : decode s_MO_which.2.1 84 = .ok (.iload 4, 2) := by decide +kernel
theorem d_MO_which_86 : decode s_MO_which.2.1 86 = .ok (.istore_n 3, 1) := by decide +kernel
theorem d_MO_which_87 : decode s_MO_which.2.1 87 = .ok (.iinc 4 1, 3) := by decide +kernel
theorem d_MO_which_90 : decode s_MO_which.2.1 90 = .ok (.goto (-41), 3) := by decide +kernel
theorem d_MO_which_93 : decode s_MO_which.2.1 93 = .ok (.aload_n 0, 1) := by decide +kernel
theorem d_MO_which_94 : decode s_MO_which.2.1 94 = .ok (.iload_n 2, 1) := by decide +kernel
theorem d_MO_which_95 : decode s_MO_which.2.1 95 = .ok (.putfield 609, 3) := by decide +kernel
theorem d_MO_which_98 : decode s_MO_which.2.1 98 = .ok (.iconst 0, 1) := by decide +kernel
theorem d_MO_which_99 : decode s_MO_which.2.1 99 = .ok (.istore 4, 2) := by decide +kernel
theorem d_MO_which_101 : decode s_MO_which.2.1 101 = .ok (.iload 4, 2) := by decide +kernel
theorem d_MO_which_103 : decode s_MO_which.2.1 103 = .ok (.iload_n 2, 1) := by decide +kernel
theorem d_MO_which_104 : decode s_MO_which.2.1 104 = .ok (.if_icmp .ge 23, 3) := by decide +kernel
theorem d_MO_which_107 : decode s_MO_which.2.1 107 = .ok (.aload_n 0, 1) := by decide +kernel
theorem d_MO_which_108 : decode s_MO_which.2.1 108 = .ok (.getfield 191, 3) := by decide +kernel
theorem d_MO_which_111 : decode s_MO_which.2.1 111 = .ok (.iload 4, 2) := by decide +kernel
theorem d_MO_which_113 : decode s_MO_which.2.1 113 = .ok (.aload_n 0, 1) := by decide +kernel
theorem d_MO_which_114 : decode s_MO_which.2.1 114 = .ok (.getfield 194, 3) := by decide +kernel
theorem d_MO_which_117 : decode s_MO_which.2.1 117 = .ok (.iload 4, 2) := by decide +kernel
theorem d_MO_which_119 : decode s_MO_which.2.1 119 = .ok (.iaload, 1) := by decide +kernel
theorem d_MO_which_120 : decode s_MO_which.2.1 120 = .ok (.iastore, 1) := by decide +kernel
theorem d_MO_which_121 : decode s_MO_which.2.1 121 = .ok (.iinc 4 1, 3) := by decide +kernel
theorem d_MO_which_124 : decode s_MO_which.2.1 124 = .ok (.goto (-23), 3) := by decide +kernel
theorem d_MO_which_127 : decode s_MO_which.2.1 127 = .ok (.iload_n 3, 1) := by decide +kernel
theorem d_MO_which_128 : decode s_MO_which.2.1 128 = .ok (.iconst (-1), 1) := by decide +kernel
theorem d_MO_which_129 : decode s_MO_which.2.1 129 = .ok (.if_icmp .ne 11, 3) := by decide +kernel
theorem d_MO_which_132 : decode s_MO_which.2.1 132 = .ok (.aload_n 0, 1) := by decide +kernel
theorem d_MO_which_133 : decode s_MO_which.2.1 133 = .ok (.iconst 5, 1) := by decide +kernel
theorem d_MO_which_134 : decode s_MO_which.2.1 134 = .ok (.invokevirtual 200, 3) := by decide +kernel
theorem d_MO_which_137 : decode s_MO_which.2.1 137 = .ok (.goto 4, 3) := by decide +kernel
theorem d_MO_which_140 : decode s_MO_which.2.1 140 = .ok (.iload_n 3, 1) := by decide +kernel
theorem d_MO_which_141 : decode s_MO_which.2.1 141 = .ok (.ireturn, 1) := by decide +kernel
theorem d_MO_checked_0 : decode s_MO_checked.2.1 0 = .ok (.sipush 193, 3) := by decide +kernel
theorem d_MO_checked_3 : decode s_MO_checked.2.1 3 = .ok (.istore_n 2, 1) := by decide +kernel
theorem d_MO_checked_4 : decode s_MO_checked.2.1 4 = .ok (.iconst 0, 1) := by decide +kernel
theorem d_MO_checked_5 : decode s_MO_checked.2.1 5 = .ok (.istore_n 3, 1) := by decide +kernel
theorem d_MO_checked_6 : decode s_MO_checked.2.1 6 = .ok (.iload_n 3, 1) := by decide +kernel
theorem d_MO_checked_7 : decode s_MO_checked.2.1 7 = .ok (.iload_n 1, 1) := by decide +kernel
theorem d_MO_checked_8 : decode s_MO_checked.2.1 8 = .ok (.if_icmp .ge 21, 3) := by decide +kernel
theorem d_MO_checked_11 : decode s_MO_checked.2.1 11 = .ok (.iconst 5, 1) := by decide +kernel
theorem d_MO_checked_12 : decode s_MO_checked.2.1 12 = .ok (.iload_n 2, 1) := by decide +kernel
theorem d_MO_checked_13 : decode s_MO_checked.2.1 13 = .ok (.imul, 1) := by decide +kernel
theorem d_MO_checked_14 : decode s_MO_checked.2.1 14 = .ok (.aload_n 0, 1) := by decide +kernel
theorem d_MO_checked_15 : decode s_MO_checked.2.1 15 = .ok (.iload_n 3, 1) := by decide +kernel
theorem d_MO_checked_16 : decode s_MO_checked.2.1 16 = .ok (.iaload, 1) := by decide +kernel
theorem d_MO_checked_17 : decode s_MO_checked.2.1 17 = .ok (.iadd, 1) := by decide +kernel
theorem d_MO_checked_18 : decode s_MO_checked.2.1 18 = .ok (.sipush 251, 3) := by decide +kernel
theorem d_MO_checked_21 : decode s_MO_checked.2.1 21 = .ok (.irem, 1) := by decide +kernel
theorem d_MO_checked_22 : decode s_MO_checked.2.1 22 = .ok (.istore_n 2, 1) := by decide +kernel
theorem d_MO_checked_23 : decode s_MO_checked.2.1 23 = .ok (.iinc 3 1, 3) := by decide +kernel
theorem d_MO_checked_26 : decode s_MO_checked.2.1 26 = .ok (.goto (-20), 3) := by decide +kernel
theorem d_MO_checked_29 : decode s_MO_checked.2.1 29 = .ok (.iload_n 2, 1) := by decide +kernel
theorem d_MO_checked_30 : decode s_MO_checked.2.1 30 = .ok (.ireturn, 1) := by decide +kernel
theorem d_MO_image_0 : decode s_MO_image.2.1 0 = .ok (.aload_n 0, 1) := by decide +kernel
theorem d_MO_image_1 : decode s_MO_image.2.1 1 = .ok (.getfield 321, 3) := by decide +kernel
theorem d_MO_image_4 : decode s_MO_image.2.1 4 = .ok (.ifCond .ne 5, 3) := by decide +kernel
theorem d_MO_image_7 : decode s_MO_image.2.1 7 = .ok (.iconst (-1), 1) := by decide +kernel
theorem d_MO_image_8 : decode s_MO_image.2.1 8 = .ok (.ireturn, 1) := by decide +kernel
theorem d_MO_image_9 : decode s_MO_image.2.1 9 = .ok (.aload_n 0, 1) := by decide +kernel
theorem d_MO_image_10 : decode s_MO_image.2.1 10 = .ok (.iconst 0, 1) := by decide +kernel
theorem d_MO_image_11 : decode s_MO_image.2.1 11 = .ok (.putfield 609, 3) := by decide +kernel
theorem d_MO_image_14 : decode s_MO_image.2.1 14 = .ok (.aload_n 0, 1) := by decide +kernel
theorem d_MO_image_15 : decode s_MO_image.2.1 15 = .ok (.aload_n 0, 1) := by decide +kernel
theorem d_MO_image_16 : decode s_MO_image.2.1 16 = .ok (.getfield 325, 3) := by decide +kernel
theorem d_MO_image_19 : decode s_MO_image.2.1 19 = .ok (.invokevirtual 415, 3) := by decide +kernel
theorem d_MO_image_22 : decode s_MO_image.2.1 22 = .ok (.aload_n 0, 1) := by decide +kernel
theorem d_MO_image_23 : decode s_MO_image.2.1 23 = .ok (.aload_n 0, 1) := by decide +kernel
theorem d_MO_image_24 : decode s_MO_image.2.1 24 = .ok (.getfield 334, 3) := by decide +kernel
theorem d_MO_image_27 : decode s_MO_image.2.1 27 = .ok (.iconst (-1), 1) := by decide +kernel
theorem d_MO_image_28 : decode s_MO_image.2.1 28 = .ok (.if_icmp .ne 9, 3) := by decide +kernel
theorem d_MO_image_31 : decode s_MO_image.2.1 31 = .ok (.sipush 255, 3) := by decide +kernel
theorem d_MO_image_34 : decode s_MO_image.2.1 34 = .ok (.goto 7, 3) := by decide +kernel
theorem d_MO_image_37 : decode s_MO_image.2.1 37 = .ok (.aload_n 0, 1) := by decide +kernel
theorem d_MO_image_38 : decode s_MO_image.2.1 38 = .ok (.getfield 334, 3) := by decide +kernel
theorem d_MO_image_41 : decode s_MO_image.2.1 41 = .ok (.invokevirtual 612, 3) := by decide +kernel
theorem d_MO_image_44 : decode s_MO_image.2.1 44 = .ok (.iconst 0, 1) := by decide +kernel
theorem d_MO_image_45 : decode s_MO_image.2.1 45 = .ok (.istore_n 1, 1) := by decide +kernel
theorem d_MO_image_46 : decode s_MO_image.2.1 46 = .ok (.iload_n 1, 1) := by decide +kernel
theorem d_MO_image_47 : decode s_MO_image.2.1 47 = .ok (.aload_n 0, 1) := by decide +kernel
theorem d_MO_image_48 : decode s_MO_image.2.1 48 = .ok (.invokevirtual 358, 3) := by decide +kernel
theorem d_MO_image_51 : decode s_MO_image.2.1 51 = .ok (.if_icmp .ge 45, 3) := by decide +kernel
theorem d_MO_image_54 : decode s_MO_image.2.1 54 = .ok (.iconst 0, 1) := by decide +kernel
theorem d_MO_image_55 : decode s_MO_image.2.1 55 = .ok (.istore_n 2, 1) := by decide +kernel
theorem d_MO_image_56 : decode s_MO_image.2.1 56 = .ok (.iload_n 2, 1) := by decide +kernel
theorem d_MO_image_57 : decode s_MO_image.2.1 57 = .ok (.iconst 4, 1) := by decide +kernel
theorem d_MO_image_58 : decode s_MO_image.2.1 58 = .ok (.if_icmp .ge 32, 3) := by decide +kernel
theorem d_MO_image_61 : decode s_MO_image.2.1 61 = .ok (.aload_n 0, 1) := by decide +kernel
theorem d_MO_image_62 : decode s_MO_image.2.1 62 = .ok (.iload_n 1, 1) := by decide +kernel
theorem d_MO_image_63 : decode s_MO_image.2.1 63 = .ok (.iload_n 2, 1) := by decide +kernel
theorem d_MO_image_64 : decode s_MO_image.2.1 64 = .ok (.invokevirtual 529, 3) := by decide +kernel
theorem d_MO_image_67 : decode s_MO_image.2.1 67 = .ok (.istore_n 3, 1) := by decide +kernel
theorem d_MO_image_68 : decode s_MO_image.2.1 68 = .ok (.aload_n 0, 1) := by decide +kernel
theorem d_MO_image_69 : decode s_MO_image.2.1 69 = .ok (.iload_n 3, 1) := by decide +kernel
theorem d_MO_image_70 : decode s_MO_image.2.1 70 = .ok (.iconst (-1), 1) := by decide +kernel
theorem d_MO_image_71 : decode s_MO_image.2.1 71 = .ok (.if_icmp .ne 9, 3) := by decide +kernel
theorem d_MO_image_74 : decode s_MO_image.2.1 74 = .ok (.sipush 255, 3) := by decide +kernel
theorem d_MO_image_77 : decode s_MO_image.2.1 77 = .ok (.goto 4, 3) := by decide +kernel
theorem d_MO_image_80 : decode s_MO_image.2.1 80 = .ok (.iload_n 3, 1) := by decide +kernel
theorem d_MO_image_81 : decode s_MO_image.2.1 81 = .ok (.invokevirtual 612, 3) := by decide +kernel
theorem d_MO_image_84 : decode s_MO_image.2.1 84 = .ok (.iinc 2 1, 3) := by decide +kernel
theorem d_MO_image_87 : decode s_MO_image.2.1 87 = .ok (.goto (-31), 3) := by decide +kernel
theorem d_MO_image_90 : decode s_MO_image.2.1 90 = .ok (.iinc 1 1, 3) := by decide +kernel
theorem d_MO_image_93 : decode s_MO_image.2.1 93 = .ok (.goto (-47), 3) := by decide +kernel
theorem d_MO_image_96 : decode s_MO_image.2.1 96 = .ok (.aload_n 0, 1) := by decide +kernel
theorem d_MO_image_97 : decode s_MO_image.2.1 97 = .ok (.aload_n 0, 1) := by decide +kernel
theorem d_MO_image_98 : decode s_MO_image.2.1 98 = .ok (.getfield 191, 3) := by decide +kernel
theorem d_MO_image_101 : decode s_MO_image.2.1 101 = .ok (.aload_n 0, 1) := by decide +kernel
theorem d_MO_image_102 : decode s_MO_image.2.1 102 = .ok (.getfield 609, 3) := by decide +kernel
theorem d_MO_image_105 : decode s_MO_image.2.1 105 = .ok (.invokestatic 627, 3) := by decide +kernel
theorem d_MO_image_108 : decode s_MO_image.2.1 108 = .ok (.invokevirtual 612, 3) := by decide +kernel
theorem d_MO_image_111 : decode s_MO_image.2.1 111 = .ok (.aload_n 0, 1) := by decide +kernel
theorem d_MO_image_112 : decode s_MO_image.2.1 112 = .ok (.getfield 609, 3) := by decide +kernel
theorem d_MO_image_115 : decode s_MO_image.2.1 115 = .ok (.ireturn, 1) := by decide +kernel
theorem d_MO_octet_0 : decode s_MO_octet.2.1 0 = .ok (.iload_n 1, 1) := by decide +kernel
theorem d_MO_octet_1 : decode s_MO_octet.2.1 1 = .ok (.ifCond .lt 20, 3) := by decide +kernel
theorem d_MO_octet_4 : decode s_MO_octet.2.1 4 = .ok (.iload_n 1, 1) := by decide +kernel
theorem d_MO_octet_5 : decode s_MO_octet.2.1 5 = .ok (.aload_n 0, 1) := by decide +kernel
theorem d_MO_octet_6 : decode s_MO_octet.2.1 6 = .ok (.getfield 609, 3) := by decide +kernel
theorem d_MO_octet_9 : decode s_MO_octet.2.1 9 = .ok (.if_icmp .ge 12, 3) := by decide +kernel
theorem d_MO_octet_12 : decode s_MO_octet.2.1 12 = .ok (.aload_n 0, 1) := by decide +kernel
theorem d_MO_octet_13 : decode s_MO_octet.2.1 13 = .ok (.getfield 191, 3) := by decide +kernel
theorem d_MO_octet_16 : decode s_MO_octet.2.1 16 = .ok (.iload_n 1, 1) := by decide +kernel
theorem d_MO_octet_17 : decode s_MO_octet.2.1 17 = .ok (.iaload, 1) := by decide +kernel
theorem d_MO_octet_18 : decode s_MO_octet.2.1 18 = .ok (.goto 4, 3) := by decide +kernel
theorem d_MO_octet_21 : decode s_MO_octet.2.1 21 = .ok (.iconst (-1), 1) := by decide +kernel
theorem d_MO_octet_22 : decode s_MO_octet.2.1 22 = .ok (.ireturn, 1) := by decide +kernel
theorem d_MO_toldAt_0 : decode s_MO_toldAt.2.1 0 = .ok (.aload_n 0, 1) := by decide +kernel
theorem d_MO_toldAt_1 : decode s_MO_toldAt.2.1 1 = .ok (.getfield 7, 3) := by decide +kernel
theorem d_MO_toldAt_4 : decode s_MO_toldAt.2.1 4 = .ok (.iload_n 1, 1) := by decide +kernel
theorem d_MO_toldAt_5 : decode s_MO_toldAt.2.1 5 = .ok (.iaload, 1) := by decide +kernel
theorem d_MO_toldAt_6 : decode s_MO_toldAt.2.1 6 = .ok (.sipush 255, 3) := by decide +kernel
theorem d_MO_toldAt_9 : decode s_MO_toldAt.2.1 9 = .ok (.if_icmp .ne 7, 3) := by decide +kernel
theorem d_MO_toldAt_12 : decode s_MO_toldAt.2.1 12 = .ok (.iconst 0, 1) := by decide +kernel
theorem d_MO_toldAt_13 : decode s_MO_toldAt.2.1 13 = .ok (.goto 27, 3) := by decide +kernel
theorem d_MO_toldAt_16 : decode s_MO_toldAt.2.1 16 = .ok (.aload_n 0, 1) := by decide +kernel
theorem d_MO_toldAt_17 : decode s_MO_toldAt.2.1 17 = .ok (.getfield 7, 3) := by decide +kernel
theorem d_MO_toldAt_20 : decode s_MO_toldAt.2.1 20 = .ok (.iload_n 1, 1) := by decide +kernel
theorem d_MO_toldAt_21 : decode s_MO_toldAt.2.1 21 = .ok (.iaload, 1) := by decide +kernel
theorem d_MO_toldAt_22 : decode s_MO_toldAt.2.1 22 = .ok (.bipush 6, 2) := by decide +kernel
theorem d_MO_toldAt_24 : decode s_MO_toldAt.2.1 24 = .ok (.if_icmp .le 8, 3) := by decide +kernel
theorem d_MO_toldAt_27 : decode s_MO_toldAt.2.1 27 = .ok (.bipush 7, 2) := by decide +kernel
theorem d_MO_toldAt_29 : decode s_MO_toldAt.2.1 29 = .ok (.goto 11, 3) := by decide +kernel
theorem d_MO_toldAt_32 : decode s_MO_toldAt.2.1 32 = .ok (.aload_n 0, 1) := by decide +kernel
theorem d_MO_toldAt_33 : decode s_MO_toldAt.2.1 33 = .ok (.getfield 7, 3) := by decide +kernel
theorem d_MO_toldAt_36 : decode s_MO_toldAt.2.1 36 = .ok (.iload_n 1, 1) := by decide +kernel
theorem d_MO_toldAt_37 : decode s_MO_toldAt.2.1 37 = .ok (.iaload, 1) := by decide +kernel
theorem d_MO_toldAt_38 : decode s_MO_toldAt.2.1 38 = .ok (.iconst 1, 1) := by decide +kernel
theorem d_MO_toldAt_39 : decode s_MO_toldAt.2.1 39 = .ok (.iadd, 1) := by decide +kernel
theorem d_MO_toldAt_40 : decode s_MO_toldAt.2.1 40 = .ok (.ireturn, 1) := by decide +kernel
theorem d_MO_imaged_0 : decode s_MO_imaged.2.1 0 = .ok (.aload_n 0, 1) := by decide +kernel
theorem d_MO_imaged_1 : decode s_MO_imaged.2.1 1 = .ok (.invokevirtual 505, 3) := by decide +kernel
theorem d_MO_imaged_4 : decode s_MO_imaged.2.1 4 = .ok (.ifCond .eq 36, 3) := by decide +kernel
theorem d_MO_imaged_7 : decode s_MO_imaged.2.1 7 = .ok (.iload_n 1, 1) := by decide +kernel
theorem d_MO_imaged_8 : decode s_MO_imaged.2.1 8 = .ok (.iconst 2, 1) := by decide +kernel
theorem d_MO_imaged_9 : decode s_MO_imaged.2.1 9 = .ok (.iconst 4, 1) := by decide +kernel
theorem d_MO_imaged_10 : decode s_MO_imaged.2.1 10 = .ok (.aload_n 0, 1) := by decide +kernel
theorem d_MO_imaged_11 : decode s_MO_imaged.2.1 11 = .ok (.invokevirtual 358, 3) := by decide +kernel
theorem d_MO_imaged_14 : decode s_MO_imaged.2.1 14 = .ok (.imul, 1) := by decide +kernel
theorem d_MO_imaged_15 : decode s_MO_imaged.2.1 15 = .ok (.iadd, 1) := by decide +kernel
theorem d_MO_imaged_16 : decode s_MO_imaged.2.1 16 = .ok (.if_icmp .ne 24, 3) := by decide +kernel
theorem d_MO_imaged_19 : decode s_MO_imaged.2.1 19 = .ok (.aload_n 0, 1) := by decide +kernel
theorem d_MO_imaged_20 : decode s_MO_imaged.2.1 20 = .ok (.getfield 7, 3) := by decide +kernel
theorem d_MO_imaged_23 : decode s_MO_imaged.2.1 23 = .ok (.iload_n 1, 1) := by decide +kernel
theorem d_MO_imaged_24 : decode s_MO_imaged.2.1 24 = .ok (.iconst 1, 1) := by decide +kernel
theorem d_MO_imaged_25 : decode s_MO_imaged.2.1 25 = .ok (.isub, 1) := by decide +kernel
theorem d_MO_imaged_26 : decode s_MO_imaged.2.1 26 = .ok (.iaload, 1) := by decide +kernel
theorem d_MO_imaged_27 : decode s_MO_imaged.2.1 27 = .ok (.aload_n 0, 1) := by decide +kernel
theorem d_MO_imaged_28 : decode s_MO_imaged.2.1 28 = .ok (.getfield 7, 3) := by decide +kernel
theorem d_MO_imaged_31 : decode s_MO_imaged.2.1 31 = .ok (.iload_n 1, 1) := by decide +kernel
theorem d_MO_imaged_32 : decode s_MO_imaged.2.1 32 = .ok (.iconst 1, 1) := by decide +kernel
theorem d_MO_imaged_33 : decode s_MO_imaged.2.1 33 = .ok (.isub, 1) := by decide +kernel
theorem d_MO_imaged_34 : decode s_MO_imaged.2.1 34 = .ok (.invokestatic 627, 3) := by decide +kernel
theorem d_MO_imaged_37 : decode s_MO_imaged.2.1 37 = .ok (.if_icmp .eq 7, 3) := by decide +kernel
theorem d_MO_imaged_40 : decode s_MO_imaged.2.1 40 = .ok (.ldc2_w 565, 3) := by decide +kernel
theorem d_MO_imaged_43 : decode s_MO_imaged.2.1 43 = .ok (.lreturn, 1) := by decide +kernel
theorem d_MO_imaged_44 : decode s_MO_imaged.2.1 44 = .ok (.aload_n 0, 1) := by decide +kernel
theorem d_MO_imaged_45 : decode s_MO_imaged.2.1 45 = .ok (.iconst 0, 1) := by decide +kernel
theorem d_MO_imaged_46 : decode s_MO_imaged.2.1 46 = .ok (.invokevirtual 630, 3) := by decide +kernel
theorem d_MO_imaged_49 : decode s_MO_imaged.2.1 49 = .ok (.i2l, 1) := by decide +kernel
theorem d_MO_imaged_50 : decode s_MO_imaged.2.1 50 = .ok (.lstore_n 2, 1) := by decide +kernel
theorem d_MO_imaged_51 : decode s_MO_imaged.2.1 51 = .ok (.iconst 0, 1) := by decide +kernel
theorem d_MO_imaged_52 : decode s_MO_imaged.2.1 52 = .ok (.istore 4, 2) := by decide +kernel
theorem d_MO_imaged_54 : decode s_MO_imaged.2.1 54 = .ok (.iload 4, 2) := by decide +kernel
theorem d_MO_imaged_56 : decode s_MO_imaged.2.1 56 = .ok (.iconst 4, 1) := by decide +kernel
theorem d_MO_imaged_57 : decode s_MO_imaged.2.1 57 = .ok (.if_icmp .ge 120, 3) := by decide +kernel
theorem d_MO_imaged_60 : decode s_MO_imaged.2.1 60 = .ok (.iconst 1, 1) := by decide +kernel
theorem d_MO_imaged_61 : decode s_MO_imaged.2.1 61 = .ok (.iconst 4, 1) := by decide +kernel
theorem d_MO_imaged_62 : decode s_MO_imaged.2.1 62 = .ok (.iload 4, 2) := by decide +kernel
theorem d_MO_imaged_64 : decode s_MO_imaged.2.1 64 = .ok (.imul, 1) := by decide +kernel
theorem d_MO_imaged_65 : decode s_MO_imaged.2.1 65 = .ok (.iadd, 1) := by decide +kernel
theorem d_MO_imaged_66 : decode s_MO_imaged.2.1 66 = .ok (.istore 5, 2) := by decide +kernel
theorem d_MO_imaged_68 : decode s_MO_imaged.2.1 68 = .ok (.iload 4, 2) := by decide +kernel
theorem d_MO_imaged_70 : decode s_MO_imaged.2.1 70 = .ok (.aload_n 0, 1) := by decide +kernel
theorem d_MO_imaged_71 : decode s_MO_imaged.2.1 71 = .ok (.invokevirtual 358, 3) := by decide +kernel
theorem d_MO_imaged_74 : decode s_MO_imaged.2.1 74 = .ok (.if_icmp .ge 7, 3) := by decide +kernel
theorem d_MO_imaged_77 : decode s_MO_imaged.2.1 77 = .ok (.iconst 1, 1) := by decide +kernel
theorem d_MO_imaged_78 : decode s_MO_imaged.2.1 78 = .ok (.goto 4, 3) := by decide +kernel
theorem d_MO_imaged_81 : decode s_MO_imaged.2.1 81 = .ok (.iconst 0, 1) := by decide +kernel
theorem d_MO_imaged_82 : decode s_MO_imaged.2.1 82 = .ok (.istore 6, 2) := by decide +kernel
theorem d_MO_imaged_84 : decode s_MO_imaged.2.1 84 = .ok (.iload 6, 2) := by decide +kernel
theorem d_MO_imaged_86 : decode s_MO_imaged.2.1 86 = .ok (.ifCond .eq 23, 3) := by decide +kernel
theorem d_MO_imaged_89 : decode s_MO_imaged.2.1 89 = .ok (.aload_n 0, 1) := by decide +kernel
theorem d_MO_imaged_90 : decode s_MO_imaged.2.1 90 = .ok (.getfield 7, 3) := by decide +kernel
theorem d_MO_imaged_93 : decode s_MO_imaged.2.1 93 = .ok (.iload 5, 2) := by decide +kernel
theorem d_MO_imaged_95 : decode s_MO_imaged.2.1 95 = .ok (.iaload, 1) := by decide +kernel
theorem d_MO_imaged_96 : decode s_MO_imaged.2.1 96 = .ok (.aload_n 0, 1) := by decide +kernel
theorem d_MO_imaged_97 : decode s_MO_imaged.2.1 97 = .ok (.getfield 81, 3) := by decide +kernel
theorem d_MO_imaged_100 : decode s_MO_imaged.2.1 100 = .ok (.iconst 0, 1) := by decide +kernel
theorem d_MO_imaged_101 : decode s_MO_imaged.2.1 101 = .ok (.iaload, 1) := by decide +kernel
theorem d_MO_imaged_102 : decode s_MO_imaged.2.1 102 = .ok (.if_icmp .lt 7, 3) := by decide +kernel
theorem d_MO_imaged_105 : decode s_MO_imaged.2.1 105 = .ok (.ldc2_w 565, 3) := by decide +kernel
theorem d_MO_imaged_108 : decode s_MO_imaged.2.1 108 = .ok (.lreturn, 1) := by decide +kernel
theorem d_MO_imaged_109 : decode s_MO_imaged.2.1 109 = .ok (.iload 6, 2) := by decide +kernel
theorem d_MO_imaged_111 : decode s_MO_imaged.2.1 111 = .ok (.ifCond .eq 48, 3) := by decide +kernel
theorem d_MO_imaged_114 : decode s_MO_imaged.2.1 114 = .ok (.aload_n 0, 1) := by decide +kernel
theorem d_MO_imaged_115 : decode s_MO_imaged.2.1 115 = .ok (.getfield 7, 3) := by decide +kernel
theorem d_MO_imaged_118 : decode s_MO_imaged.2.1 118 = .ok (.iload 5, 2) := by decide +kernel
theorem d_MO_imaged_120 : decode s_MO_imaged.2.1 120 = .ok (.iaload, 1) := by decide +kernel
theorem d_MO_imaged_121 : decode s_MO_imaged.2.1 121 = .ok (.bipush 9, 2) := by decide +kernel
theorem d_MO_imaged_123 : decode s_MO_imaged.2.1 123 = .ok (.ishl, 1) := by decide +kernel
theorem d_MO_imaged_124 : decode s_MO_imaged.2.1 124 = .ok (.aload_n 0, 1) := by decide +kernel
theorem d_MO_imaged_125 : decode s_MO_imaged.2.1 125 = .ok (.iload 5, 2) := by decide +kernel
theorem d_MO_imaged_127 : decode s_MO_imaged.2.1 127 = .ok (.iconst 1, 1) := by decide +kernel
theorem d_MO_imaged_128 : decode s_MO_imaged.2.1 128 = .ok (.iadd, 1) := by decide +kernel
theorem d_MO_imaged_129 : decode s_MO_imaged.2.1 129 = .ok (.invokevirtual 630, 3) := by decide +kernel
theorem d_MO_imaged_132 : decode s_MO_imaged.2.1 132 = .ok (.bipush 6, 2) := by decide +kernel
theorem d_MO_imaged_134 : decode s_MO_imaged.2.1 134 = .ok (.ishl, 1) := by decide +kernel
theorem d_MO_imaged_135 : decode s_MO_imaged.2.1 135 = .ok (.ior, 1) := by decide +kernel
theorem d_MO_imaged_136 : decode s_MO_imaged.2.1 136 = .ok (.aload_n 0, 1) := by decide +kernel
theorem d_MO_imaged_137 : decode s_MO_imaged.2.1 137 = .ok (.iload 5, 2) := by decide +kernel
theorem d_MO_imaged_139 : decode s_MO_imaged.2.1 139 = .ok (.iconst 2, 1) := by decide +kernel
theorem d_MO_imaged_140 : decode s_MO_imaged.2.1 140 = .ok (.iadd, 1) := by decide +kernel
theorem d_MO_imaged_141 : decode s_MO_imaged.2.1 141 = .ok (.invokevirtual 630, 3) := by decide +kernel
theorem d_MO_imaged_144 : decode s_MO_imaged.2.1 144 = .ok (.iconst 3, 1) := by decide +kernel
theorem d_MO_imaged_145 : decode s_MO_imaged.2.1 145 = .ok (.ishl, 1) := by decide +kernel
theorem d_MO_imaged_146 : decode s_MO_imaged.2.1 146 = .ok (.ior, 1) := by decide +kernel
theorem d_MO_imaged_147 : decode s_MO_imaged.2.1 147 = .ok (.aload_n 0, 1) := by decide +kernel
theorem d_MO_imaged_148 : decode s_MO_imaged.2.1 148 = .ok (.iload 5, 2) := by decide +kernel
theorem d_MO_imaged_150 : decode s_MO_imaged.2.1 150 = .ok (.iconst 3, 1) := by decide +kernel
theorem d_MO_imaged_151 : decode s_MO_imaged.2.1 151 = .ok (.iadd, 1) := by decide +kernel
theorem d_MO_imaged_152 : decode s_MO_imaged.2.1 152 = .ok (.invokevirtual 630, 3) := by decide +kernel
theorem d_MO_imaged_155 : decode s_MO_imaged.2.1 155 = .ok (.ior, 1) := by decide +kernel
theorem d_MO_imaged_156 : decode s_MO_imaged.2.1 156 = .ok (.goto 4, 3) := by decide +kernel
theorem d_MO_imaged_159 : decode s_MO_imaged.2.1 159 = .ok (.iconst 0, 1) := by decide +kernel
theorem d_MO_imaged_160 : decode s_MO_imaged.2.1 160 = .ok (.istore 7, 2) := by decide +kernel
theorem d_MO_imaged_162 : decode s_MO_imaged.2.1 162 = .ok (.lload_n 2, 1) := by decide +kernel
theorem d_MO_imaged_163 : decode s_MO_imaged.2.1 163 = .ok (.bipush 12, 2) := by decide +kernel
theorem d_MO_imaged_165 : decode s_MO_imaged.2.1 165 = .ok (.lshl, 1) := by decide +kernel
theorem d_MO_imaged_166 : decode s_MO_imaged.2.1 166 = .ok (.iload 7, 2) := by decide +kernel
theorem d_MO_imaged_168 : decode s_MO_imaged.2.1 168 = .ok (.i2l, 1) := by decide +kernel
theorem d_MO_imaged_169 : decode s_MO_imaged.2.1 169 = .ok (.lor, 1) := by decide +kernel
theorem d_MO_imaged_170 : decode s_MO_imaged.2.1 170 = .ok (.lstore_n 2, 1) := by decide +kernel
theorem d_MO_imaged_171 : decode s_MO_imaged.2.1 171 = .ok (.iinc 4 1, 3) := by decide +kernel
theorem d_MO_imaged_174 : decode s_MO_imaged.2.1 174 = .ok (.goto (-120), 3) := by decide +kernel
theorem d_MO_imaged_177 : decode s_MO_imaged.2.1 177 = .ok (.lload_n 2, 1) := by decide +kernel
theorem d_MO_imaged_178 : decode s_MO_imaged.2.1 178 = .ok (.lreturn, 1) := by decide +kernel
theorem d_MO_on_0 : decode s_MO_on.2.1 0 = .ok (.aload_n 0, 1) := by decide +kernel
theorem d_MO_on_1 : decode s_MO_on.2.1 1 = .ok (.getfield 197, 3) := by decide +kernel
theorem d_MO_on_4 : decode s_MO_on.2.1 4 = .ok (.istore_n 1, 1) := by decide +kernel
theorem d_MO_on_5 : decode s_MO_on.2.1 5 = .ok (.aload_n 0, 1) := by decide +kernel
theorem d_MO_on_6 : decode s_MO_on.2.1 6 = .ok (.iconst 0, 1) := by decide +kernel
theorem d_MO_on_7 : decode s_MO_on.2.1 7 = .ok (.putfield 197, 3) := by decide +kernel
theorem d_MO_on_10 : decode s_MO_on.2.1 10 = .ok (.aload_n 0, 1) := by decide +kernel
theorem d_MO_on_11 : decode s_MO_on.2.1 11 = .ok (.iload_n 1, 1) := by decide +kernel
theorem d_MO_on_12 : decode s_MO_on.2.1 12 = .ok (.invokevirtual 633, 3) := by decide +kernel
theorem d_MO_on_15 : decode s_MO_on.2.1 15 = .ok (.lstore_n 2, 1) := by decide +kernel
theorem d_MO_on_16 : decode s_MO_on.2.1 16 = .ok (.lload_n 2, 1) := by decide +kernel
theorem d_MO_on_17 : decode s_MO_on.2.1 17 = .ok (.lconst 0, 1) := by decide +kernel
theorem d_MO_on_18 : decode s_MO_on.2.1 18 = .ok (.lcmp, 1) := by decide +kernel
theorem d_MO_on_19 : decode s_MO_on.2.1 19 = .ok (.ifCond .lt 12, 3) := by decide +kernel
theorem d_MO_on_22 : decode s_MO_on.2.1 22 = .ok (.aload_n 0, 1) := by decide +kernel
theorem d_MO_on_23 : decode s_MO_on.2.1 23 = .ok (.lload_n 2, 1) := by decide +kernel
theorem d_MO_on_24 : decode s_MO_on.2.1 24 = .ok (.invokevirtual 536, 3) := by decide +kernel
theorem d_MO_on_27 : decode s_MO_on.2.1 27 = .ok (.iconst (-1), 1) := by decide +kernel
theorem d_MO_on_28 : decode s_MO_on.2.1 28 = .ok (.if_icmp .ne 9, 3) := by decide +kernel
theorem d_MO_on_31 : decode s_MO_on.2.1 31 = .ok (.aload_n 0, 1) := by decide +kernel
theorem d_MO_on_32 : decode s_MO_on.2.1 32 = .ok (.iconst 5, 1) := by decide +kernel
theorem d_MO_on_33 : decode s_MO_on.2.1 33 = .ok (.invokevirtual 204, 3) := by decide +kernel
theorem d_MO_on_36 : decode s_MO_on.2.1 36 = .ok (.ireturn, 1) := by decide +kernel
theorem d_MO_on_37 : decode s_MO_on.2.1 37 = .ok (.aload_n 0, 1) := by decide +kernel
theorem d_MO_on_38 : decode s_MO_on.2.1 38 = .ok (.lload_n 2, 1) := by decide +kernel
theorem d_MO_on_39 : decode s_MO_on.2.1 39 = .ok (.putfield 325, 3) := by decide +kernel
theorem d_MO_on_42 : decode s_MO_on.2.1 42 = .ok (.aload_n 0, 1) := by decide +kernel
theorem d_MO_on_43 : decode s_MO_on.2.1 43 = .ok (.iconst 0, 1) := by decide +kernel
theorem d_MO_on_44 : decode s_MO_on.2.1 44 = .ok (.putfield 328, 3) := by decide +kernel
theorem d_MO_on_47 : decode s_MO_on.2.1 47 = .ok (.iconst 1, 1) := by decide +kernel
theorem d_MO_on_48 : decode s_MO_on.2.1 48 = .ok (.ireturn, 1) := by decide +kernel
