theorem dX10_loops_1 : decode cX10_loops 1 = .ok (.getfield 19, 3) := by decide +kernel
theorem dX10_loops_4 : decode cX10_loops 4 = .ok (.iload_n 1, 1) := by decide +kernel
theorem dX10_loops_5 : decode cX10_loops 5 = .ok (.invokevirtual 125, 3) := by decide +kernel
theorem dX10_loops_8 : decode cX10_loops 8 = .ok (.ifCond .ne 5, 3) := by decide +kernel
theorem dX10_loops_11 : decode cX10_loops 11 = .ok (.iconst (-1), 1) := by decide +kernel
theorem dX10_loops_12 : decode cX10_loops 12 = .ok (.ireturn, 1) := by decide +kernel
theorem dX10_loops_13 : decode cX10_loops 13 = .ok (.iload_n 2, 1) := by decide +kernel
theorem dX10_loops_14 : decode cX10_loops 14 = .ok (.iload_n 3, 1) := by decide +kernel
theorem dX10_loops_15 : decode cX10_loops 15 = .ok (.invokestatic 149, 3) := by decide +kernel
theorem dX10_loops_18 : decode cX10_loops 18 = .ok (.ifCond .ne 6, 3) := by decide +kernel
theorem dX10_loops_21 : decode cX10_loops 21 = .ok (.bipush (-2), 2) := by decide +kernel
theorem dX10_loops_23 : decode cX10_loops 23 = .ok (.ireturn, 1) := by decide +kernel
theorem dX10_loops_24 : decode cX10_loops 24 = .ok (.aload_n 0, 1) := by decide +kernel
theorem dX10_loops_25 : decode cX10_loops 25 = .ok (.getfield 30, 3) := by decide +kernel
theorem dX10_loops_28 : decode cX10_loops 28 = .ok (.aload_n 0, 1) := by decide +kernel
theorem dX10_loops_29 : decode cX10_loops 29 = .ok (.getfield 19, 3) := by decide +kernel
theorem dX10_loops_32 : decode cX10_loops 32 = .ok (.aload_n 0, 1) := by decide +kernel
theorem dX10_loops_33 : decode cX10_loops 33 = .ok (.getfield 19, 3) := by decide +kernel
theorem dX10_loops_36 : decode cX10_loops 36 = .ok (.invokevirtual 102, 3) := by decide +kernel
theorem dX10_loops_39 : decode cX10_loops 39 = .ok (.invokevirtual 105, 3) := by decide +kernel
theorem dX10_loops_42 : decode cX10_loops 42 = .ok (.aload_n 0, 1) := by decide +kernel
theorem dX10_loops_43 : decode cX10_loops 43 = .ok (.getfield 37, 3) := by decide +kernel
theorem dX10_loops_46 : decode cX10_loops 46 = .ok (.aload_n 0, 1) := by decide +kernel
theorem dX10_loops_47 : decode cX10_loops 47 = .ok (.getfield 19, 3) := by decide +kernel
theorem dX10_loops_50 : decode cX10_loops 50 = .ok (.getfield 130, 3) := by decide +kernel
theorem dX10_loops_53 : decode cX10_loops 53 = .ok (.iload_n 1, 1) := by decide +kernel
theorem dX10_loops_54 : decode cX10_loops 54 = .ok (.iaload, 1) := by decide +kernel
theorem dX10_loops_55 : decode cX10_loops 55 = .ok (.aload_n 0, 1) := by decide +kernel
theorem dX10_loops_56 : decode cX10_loops 56 = .ok (.getfield 19, 3) := by decide +kernel
theorem dX10_loops_59 : decode cX10_loops 59 = .ok (.getfield 133, 3) := by decide +kernel
theorem dX10_loops_62 : decode cX10_loops 62 = .ok (.iload_n 1, 1) := by decide +kernel
theorem dX10_loops_63 : decode cX10_loops 63 = .ok (.iaload, 1) := by decide +kernel
theorem dX10_loops_64 : decode cX10_loops 64 = .ok (.iload_n 2, 1) := by decide +kernel
theorem dX10_loops_65 : decode cX10_loops 65 = .ok (.iload_n 3, 1) := by decide +kernel
theorem dX10_loops_66 : decode cX10_loops 66 = .ok (.aload_n 0, 1) := by decide +kernel
theorem dX10_loops_67 : decode cX10_loops 67 = .ok (.getfield 30, 3) := by decide +kernel
theorem dX10_loops_70 : decode cX10_loops 70 = .ok (.invokevirtual 152, 3) := by decide +kernel
theorem dX10_loops_73 : decode cX10_loops 73 = .ok (.aload_n 0, 1) := by decide +kernel
theorem dX10_loops_74 : decode cX10_loops 74 = .ok (.getfield 44, 3) := by decide +kernel
theorem dX10_loops_77 : decode cX10_loops 77 = .ok (.aload_n 0, 1) := by decide +kernel
theorem dX10_loops_78 : decode cX10_loops 78 = .ok (.getfield 37, 3) := by decide +kernel
theorem dX10_loops_81 : decode cX10_loops 81 = .ok (.aload_n 0, 1) := by decide +kernel
theorem dX10_loops_82 : decode cX10_loops 82 = .ok (.getfield 30, 3) := by decide +kernel
theorem dX10_loops_85 : decode cX10_loops 85 = .ok (.invokevirtual 196, 3) := by decide +kernel
theorem dX10_loops_88 : decode cX10_loops 88 = .ok (.aload_n 0, 1) := by decide +kernel
theorem dX10_loops_89 : decode cX10_loops 89 = .ok (.getfield 44, 3) := by decide +kernel
theorem dX10_loops_92 : decode cX10_loops 92 = .ok (.invokevirtual 200, 3) := by decide +kernel
theorem dX10_loops_95 : decode cX10_loops 95 = .ok (.ifCond .eq 7, 3) := by decide +kernel
theorem dX10_loops_98 : decode cX10_loops 98 = .ok (.iconst 1, 1) := by decide +kernel
theorem dX10_loops_99 : decode cX10_loops 99 = .ok (.goto 4, 3) := by decide +kernel
theorem dX10_loops_102 : decode cX10_loops 102 = .ok (.iconst 0, 1) := by decide +kernel
theorem dX10_loops_103 : decode cX10_loops 103 = .ok (.ireturn, 1) := by decide +kernel
theorem dX10_rolled_0 : decode cX10_rolled 0 = .ok (.iload_n 1, 1) := by decide +kernel
theorem dX10_rolled_1 : decode cX10_rolled 1 = .ok (.iload_n 2, 1) := by decide +kernel
theorem dX10_rolled_2 : decode cX10_rolled 2 = .ok (.invokestatic 204, 3) := by decide +kernel
theorem dX10_rolled_5 : decode cX10_rolled 5 = .ok (.ifCond .eq 30, 3) := by decide +kernel
theorem dX10_rolled_8 : decode cX10_rolled 8 = .ok (.iload_n 3, 1) := by decide +kernel
theorem dX10_rolled_9 : decode cX10_rolled 9 = .ok (.iload 4, 2) := by decide +kernel
theorem dX10_rolled_11 : decode cX10_rolled 11 = .ok (.invokestatic 149, 3) := by decide +kernel
theorem dX10_rolled_14 : decode cX10_rolled 14 = .ok (.ifCond .eq 21, 3) := by decide +kernel
theorem dX10_rolled_17 : decode cX10_rolled 17 = .ok (.iload 5, 2) := by decide +kernel
theorem dX10_rolled_19 : decode cX10_rolled 19 = .ok (.invokestatic 99, 3) := by decide +kernel
theorem dX10_rolled_22 : decode cX10_rolled 22 = .ok (.ifCond .eq 13, 3) := by decide +kernel
theorem dX10_rolled_25 : decode cX10_rolled 25 = .ok (.iload 6, 2) := by decide +kernel
theorem dX10_rolled_27 : decode cX10_rolled 27 = .ok (.iconst 0, 1) := by decide +kernel
theorem dX10_rolled_28 : decode cX10_rolled 28 = .ok (.iconst 1, 1) := by decide +kernel
theorem dX10_rolled_29 : decode cX10_rolled 29 = .ok (.invokestatic 70, 3) := by decide +kernel
theorem dX10_rolled_32 : decode cX10_rolled 32 = .ok (.ifCond .ne 6, 3) := by decide +kernel
theorem dX10_rolled_35 : decode cX10_rolled 35 = .ok (.ldc 129, 2) := by decide +kernel
theorem dX10_rolled_37 : decode cX10_rolled 37 = .ok (.ireturn, 1) := by decide +kernel
theorem dX10_rolled_38 : decode cX10_rolled 38 = .ok (.aload_n 0, 1) := by decide +kernel
theorem dX10_rolled_39 : decode cX10_rolled 39 = .ok (.getfield 30, 3) := by decide +kernel
theorem dX10_rolled_42 : decode cX10_rolled 42 = .ok (.aload_n 0, 1) := by decide +kernel
theorem dX10_rolled_43 : decode cX10_rolled 43 = .ok (.getfield 19, 3) := by decide +kernel
theorem dX10_rolled_46 : decode cX10_rolled 46 = .ok (.aload_n 0, 1) := by decide +kernel
theorem dX10_rolled_47 : decode cX10_rolled 47 = .ok (.getfield 19, 3) := by decide +kernel
theorem dX10_rolled_50 : decode cX10_rolled 50 = .ok (.invokevirtual 102, 3) := by decide +kernel
theorem dX10_rolled_53 : decode cX10_rolled 53 = .ok (.invokevirtual 105, 3) := by decide +kernel
theorem dX10_rolled_56 : decode cX10_rolled 56 = .ok (.aload_n 0, 1) := by decide +kernel
theorem dX10_rolled_57 : decode cX10_rolled 57 = .ok (.getfield 37, 3) := by decide +kernel
theorem dX10_rolled_60 : decode cX10_rolled 60 = .ok (.iload_n 1, 1) := by decide +kernel
theorem dX10_rolled_61 : decode cX10_rolled 61 = .ok (.iload_n 2, 1) := by decide +kernel
theorem dX10_rolled_62 : decode cX10_rolled 62 = .ok (.iload_n 3, 1) := by decide +kernel
theorem dX10_rolled_63 : decode cX10_rolled 63 = .ok (.iload 4, 2) := by decide +kernel
theorem dX10_rolled_65 : decode cX10_rolled 65 = .ok (.aload_n 0, 1) := by decide +kernel
theorem dX10_rolled_66 : decode cX10_rolled 66 = .ok (.getfield 30, 3) := by decide +kernel
theorem dX10_rolled_69 : decode cX10_rolled 69 = .ok (.invokevirtual 152, 3) := by decide +kernel
theorem dX10_rolled_72 : decode cX10_rolled 72 = .ok (.iconst 0, 1) := by decide +kernel
theorem dX10_rolled_73 : decode cX10_rolled 73 = .ok (.istore 7, 2) := by decide +kernel
theorem dX10_rolled_75 : decode cX10_rolled 75 = .ok (.iload 7, 2) := by decide +kernel
theorem dX10_rolled_77 : decode cX10_rolled 77 = .ok (.iload 5, 2) := by decide +kernel
theorem dX10_rolled_79 : decode cX10_rolled 79 = .ok (.if_icmp .ge 29, 3) := by decide +kernel
theorem dX10_rolled_82 : decode cX10_rolled 82 = .ok (.aload_n 0, 1) := by decide +kernel
theorem dX10_rolled_83 : decode cX10_rolled 83 = .ok (.getfield 37, 3) := by decide +kernel
theorem dX10_rolled_86 : decode cX10_rolled 86 = .ok (.iload 7, 2) := by decide +kernel
theorem dX10_rolled_88 : decode cX10_rolled 88 = .ok (.aload_n 0, 1) := by decide +kernel
theorem dX10_rolled_89 : decode cX10_rolled 89 = .ok (.getfield 19, 3) := by decide +kernel
theorem dX10_rolled_92 : decode cX10_rolled 92 = .ok (.invokevirtual 207, 3) := by decide +kernel
theorem dX10_rolled_95 : decode cX10_rolled 95 = .ok (.aload_n 0, 1) := by decide +kernel
theorem dX10_rolled_96 : decode cX10_rolled 96 = .ok (.getfield 30, 3) := by decide +kernel
theorem dX10_rolled_99 : decode cX10_rolled 99 = .ok (.invokevirtual 210, 3) := by decide +kernel
theorem dX10_rolled_102 : decode cX10_rolled 102 = .ok (.iinc 7 1, 3) := by decide +kernel
theorem dX10_rolled_105 : decode cX10_rolled 105 = .ok (.goto (-30), 3) := by decide +kernel
theorem dX10_rolled_108 : decode cX10_rolled 108 = .ok (.iload 6, 2) := by decide +kernel
theorem dX10_rolled_110 : decode cX10_rolled 110 = .ok (.ifCond .ne 13, 3) := by decide +kernel
theorem dX10_rolled_113 : decode cX10_rolled 113 = .ok (.aload_n 0, 1) := by decide +kernel
theorem dX10_rolled_114 : decode cX10_rolled 114 = .ok (.getfield 37, 3) := by decide +kernel
theorem dX10_rolled_117 : decode cX10_rolled 117 = .ok (.getfield 213, 3) := by decide +kernel
theorem dX10_rolled_120 : decode cX10_rolled 120 = .ok (.goto 10, 3) := by decide +kernel
theorem dX10_rolled_123 : decode cX10_rolled 123 = .ok (.aload_n 0, 1) := by decide +kernel
theorem dX10_rolled_124 : decode cX10_rolled 124 = .ok (.getfield 37, 3) := by decide +kernel
theorem dX10_rolled_127 : decode cX10_rolled 127 = .ok (.getfield 217, 3) := by decide +kernel
theorem dX10_rolled_130 : decode cX10_rolled 130 = .ok (.l2i, 1) := by decide +kernel
theorem dX10_rolled_131 : decode cX10_rolled 131 = .ok (.ireturn, 1) := by decide +kernel
theorem dX10_off_0 : decode cX10_off 0 = .ok (.iload_n 1, 1) := by decide +kernel
theorem dX10_off_1 : decode cX10_off 1 = .ok (.iload_n 2, 1) := by decide +kernel
theorem dX10_off_2 : decode cX10_off 2 = .ok (.invokestatic 204, 3) := by decide +kernel
theorem dX10_off_5 : decode cX10_off 5 = .ok (.ifCond .eq 12, 3) := by decide +kernel
theorem dX10_off_8 : decode cX10_off 8 = .ok (.iload_n 3, 1) := by decide +kernel
theorem dX10_off_9 : decode cX10_off 9 = .ok (.iload 4, 2) := by decide +kernel
theorem dX10_off_11 : decode cX10_off 11 = .ok (.invokestatic 149, 3) := by decide +kernel
theorem dX10_off_14 : decode cX10_off 14 = .ok (.ifCond .ne 6, 3) := by decide +kernel
theorem dX10_off_17 : decode cX10_off 17 = .ok (.bipush (-2), 2) := by decide +kernel
theorem dX10_off_19 : decode cX10_off 19 = .ok (.ireturn, 1) := by decide +kernel
theorem dX10_off_20 : decode cX10_off 20 = .ok (.aload_n 0, 1) := by decide +kernel
theorem dX10_off_21 : decode cX10_off 21 = .ok (.getfield 30, 3) := by decide +kernel
theorem dX10_off_24 : decode cX10_off 24 = .ok (.aload_n 0, 1) := by decide +kernel
theorem dX10_off_25 : decode cX10_off 25 = .ok (.getfield 19, 3) := by decide +kernel
theorem dX10_off_28 : decode cX10_off 28 = .ok (.aload_n 0, 1) := by decide +kernel
theorem dX10_off_29 : decode cX10_off 29 = .ok (.getfield 19, 3) := by decide +kernel
theorem dX10_off_32 : decode cX10_off 32 = .ok (.invokevirtual 102, 3) := by decide +kernel
theorem dX10_off_35 : decode cX10_off 35 = .ok (.invokevirtual 105, 3) := by decide +kernel
theorem dX10_off_38 : decode cX10_off 38 = .ok (.aload_n 0, 1) := by decide +kernel
theorem dX10_off_39 : decode cX10_off 39 = .ok (.getfield 37, 3) := by decide +kernel
theorem dX10_off_42 : decode cX10_off 42 = .ok (.iload_n 1, 1) := by decide +kernel
theorem dX10_off_43 : decode cX10_off 43 = .ok (.iload_n 2, 1) := by decide +kernel
theorem dX10_off_44 : decode cX10_off 44 = .ok (.iload_n 3, 1) := by decide +kernel
theorem dX10_off_45 : decode cX10_off 45 = .ok (.iload 4, 2) := by decide +kernel
theorem dX10_off_47 : decode cX10_off 47 = .ok (.aload_n 0, 1) := by decide +kernel
theorem dX10_off_48 : decode cX10_off 48 = .ok (.getfield 30, 3) := by decide +kernel
theorem dX10_off_51 : decode cX10_off 51 = .ok (.invokevirtual 152, 3) := by decide +kernel
theorem dX10_off_54 : decode cX10_off 54 = .ok (.iconst 0, 1) := by decide +kernel
theorem dX10_off_55 : decode cX10_off 55 = .ok (.istore 5, 2) := by decide +kernel
theorem dX10_off_57 : decode cX10_off 57 = .ok (.iload 5, 2) := by decide +kernel
theorem dX10_off_59 : decode cX10_off 59 = .ok (.bipush 60, 2) := by decide +kernel
theorem dX10_off_61 : decode cX10_off 61 = .ok (.if_icmp .gt 57, 3) := by decide +kernel
theorem dX10_off_64 : decode cX10_off 64 = .ok (.aload_n 0, 1) := by decide +kernel
theorem dX10_off_65 : decode cX10_off 65 = .ok (.getfield 37, 3) := by decide +kernel
theorem dX10_off_68 : decode cX10_off 68 = .ok (.aload_n 0, 1) := by decide +kernel
theorem dX10_off_69 : decode cX10_off 69 = .ok (.getfield 19, 3) := by decide +kernel
theorem dX10_off_72 : decode cX10_off 72 = .ok (.invokevirtual 220, 3) := by decide +kernel
theorem dX10_off_75 : decode cX10_off 75 = .ok (.i2l, 1) := by decide +kernel
theorem dX10_off_76 : decode cX10_off 76 = .ok (.invokevirtual 223, 3) := by decide +kernel
theorem dX10_off_79 : decode cX10_off 79 = .ok (.ifCond .eq 6, 3) := by decide +kernel
theorem dX10_off_82 : decode cX10_off 82 = .ok (.iload 5, 2) := by decide +kernel
theorem dX10_off_84 : decode cX10_off 84 = .ok (.ireturn, 1) := by decide +kernel
theorem dX10_off_85 : decode cX10_off 85 = .ok (.iload 5, 2) := by decide +kernel
theorem dX10_off_87 : decode cX10_off 87 = .ok (.bipush 60, 2) := by decide +kernel
theorem dX10_off_89 : decode cX10_off 89 = .ok (.if_icmp .ge 23, 3) := by decide +kernel
theorem dX10_off_92 : decode cX10_off 92 = .ok (.aload_n 0, 1) := by decide +kernel
theorem dX10_off_93 : decode cX10_off 93 = .ok (.getfield 37, 3) := by decide +kernel
theorem dX10_off_96 : decode cX10_off 96 = .ok (.iload 5, 2) := by decide +kernel
theorem dX10_off_98 : decode cX10_off 98 = .ok (.aload_n 0, 1) := by decide +kernel
theorem dX10_off_99 : decode cX10_off 99 = .ok (.getfield 19, 3) := by decide +kernel
theorem dX10_off_102 : decode cX10_off 102 = .ok (.invokevirtual 207, 3) := by decide +kernel
theorem dX10_off_105 : decode cX10_off 105 = .ok (.aload_n 0, 1) := by decide +kernel
theorem dX10_off_106 : decode cX10_off 106 = .ok (.getfield 30, 3) := by decide +kernel
theorem dX10_off_109 : decode cX10_off 109 = .ok (.invokevirtual 210, 3) := by decide +kernel
theorem dX10_off_112 : decode cX10_off 112 = .ok (.iinc 5 1, 3) := by decide +kernel
theorem dX10_off_115 : decode cX10_off 115 = .ok (.goto (-58), 3) := by decide +kernel
theorem dX10_off_118 : decode cX10_off 118 = .ok (.bipush (-6), 2) := by decide +kernel
theorem dX10_off_120 : decode cX10_off 120 = .ok (.ireturn, 1) := by decide +kernel
theorem dX10_leans_0 : decode cX10_leans 0 = .ok (.iload_n 1, 1) := by decide +kernel
theorem dX10_leans_1 : decode cX10_leans 1 = .ok (.iconst 0, 1) := by decide +kernel
theorem dX10_leans_2 : decode cX10_leans 2 = .ok (.sipush 1000, 3) := by decide +kernel
theorem dX10_leans_5 : decode cX10_leans 5 = .ok (.invokestatic 70, 3) := by decide +kernel
theorem dX10_leans_8 : decode cX10_leans 8 = .ok (.ifCond .ne 6, 3) := by decide +kernel
theorem dX10_leans_11 : decode cX10_leans 11 = .ok (.bipush (-2), 2) := by decide +kernel
theorem dX10_leans_13 : decode cX10_leans 13 = .ok (.ireturn, 1) := by decide +kernel
theorem dX10_leans_14 : decode cX10_leans 14 = .ok (.iload_n 1, 1) := by decide +kernel
theorem dX10_leans_15 : decode cX10_leans 15 = .ok (.aload_n 0, 1) := by decide +kernel
theorem dX10_leans_16 : decode cX10_leans 16 = .ok (.getfield 19, 3) := by decide +kernel
theorem dX10_leans_19 : decode cX10_leans 19 = .ok (.invokevirtual 102, 3) := by decide +kernel
theorem dX10_leans_22 : decode cX10_leans 22 = .ok (.invokestatic 227, 3) := by decide +kernel
theorem dX10_leans_25 : decode cX10_leans 25 = .ok (.ireturn, 1) := by decide +kernel
theorem dX10_stays_0 : decode cX10_stays 0 = .ok (.iload_n 1, 1) := by decide +kernel
theorem dX10_stays_1 : decode cX10_stays 1 = .ok (.iconst 0, 1) := by decide +kernel
theorem dX10_stays_2 : decode cX10_stays 2 = .ok (.sipush 9999, 3) := by decide +kernel
theorem dX10_stays_5 : decode cX10_stays 5 = .ok (.invokestatic 70, 3) := by decide +kernel
theorem dX10_stays_8 : decode cX10_stays 8 = .ok (.ifCond .ne 6, 3) := by decide +kernel
theorem dX10_stays_11 : decode cX10_stays 11 = .ok (.bipush (-2), 2) := by decide +kernel
theorem dX10_stays_13 : decode cX10_stays 13 = .ok (.ireturn, 1) := by decide +kernel
theorem dX10_stays_14 : decode cX10_stays 14 = .ok (.sipush 1000, 3) := by decide +kernel
theorem dX10_stays_17 : decode cX10_stays 17 = .ok (.istore_n 2, 1) := by decide +kernel
theorem dX10_stays_18 : decode cX10_stays 18 = .ok (.iload_n 2, 1) := by decide +kernel
theorem dX10_stays_19 : decode cX10_stays 19 = .ok (.ifCond .le 26, 3) := by decide +kernel
theorem dX10_stays_22 : decode cX10_stays 22 = .ok (.iload_n 2, 1) := by decide +kernel
theorem dX10_stays_23 : decode cX10_stays 23 = .ok (.aload_n 0, 1) := by decide +kernel
theorem dX10_stays_24 : decode cX10_stays 24 = .ok (.getfield 19, 3) := by decide +kernel
theorem dX10_stays_27 : decode cX10_stays 27 = .ok (.invokevirtual 102, 3) := by decide +kernel
theorem dX10_stays_30 : decode cX10_stays 30 = .ok (.invokestatic 227, 3) := by decide +kernel
theorem dX10_stays_33 : decode cX10_stays 33 = .ok (.iload_n 1, 1) := by decide +kernel
theorem dX10_stays_34 : decode cX10_stays 34 = .ok (.if_icmp .gt 5, 3) := by decide +kernel
theorem dX10_stays_37 : decode cX10_stays 37 = .ok (.iload_n 2, 1) := by decide +kernel
theorem dX10_stays_38 : decode cX10_stays 38 = .ok (.ireturn, 1) := by decide +kernel
theorem dX10_stays_39 : decode cX10_stays 39 = .ok (.iinc 2 (-1), 3) := by decide +kernel
theorem dX10_stays_42 : decode cX10_stays 42 = .ok (.goto (-24), 3) := by decide +kernel
theorem dX10_stays_45 : decode cX10_stays 45 = .ok (.iconst 0, 1) := by decide +kernel
theorem dX10_stays_46 : decode cX10_stays 46 = .ok (.ireturn, 1) := by decide +kernel
theorem dX10_hut_0 : decode cX10_hut 0 = .ok (.iload_n 1, 1) := by decide +kernel
theorem dX10_hut_1 : decode cX10_hut 1 = .ok (.iconst 1, 1) := by decide +kernel
theorem dX10_hut_2 : decode cX10_hut 2 = .ok (.sipush 1000, 3) := by decide +kernel
theorem dX10_hut_5 : decode cX10_hut 5 = .ok (.invokestatic 70, 3) := by decide +kernel
theorem dX10_hut_8 : decode cX10_hut 8 = .ok (.ifCond .eq 25, 3) := by decide +kernel
theorem dX10_hut_11 : decode cX10_hut 11 = .ok (.iload_n 2, 1) := by decide +kernel
theorem dX10_hut_12 : decode cX10_hut 12 = .ok (.iconst 1, 1) := by decide +kernel
theorem dX10_hut_13 : decode cX10_hut 13 = .ok (.sipush 200, 3) := by decide +kernel
theorem dX10_hut_16 : decode cX10_hut 16 = .ok (.invokestatic 70, 3) := by decide +kernel
theorem dX10_hut_19 : decode cX10_hut 19 = .ok (.ifCond .eq 14, 3) := by decide +kernel
theorem dX10_hut_22 : decode cX10_hut 22 = .ok (.iload_n 3, 1) := by decide +kernel
theorem dX10_hut_23 : decode cX10_hut 23 = .ok (.iconst 0, 1) := by decide +kernel
theorem dX10_hut_24 : decode cX10_hut 24 = .ok (.sipush 9999, 3) := by decide +kernel
theorem dX10_hut_27 : decode cX10_hut 27 = .ok (.invokestatic 70, 3) := by decide +kernel
theorem dX10_hut_30 : decode cX10_hut 30 = .ok (.ifCond .ne 6, 3) := by decide +kernel
theorem dX10_hut_33 : decode cX10_hut 33 = .ok (.bipush (-2), 2) := by decide +kernel
theorem dX10_hut_35 : decode cX10_hut 35 = .ok (.ireturn, 1) := by decide +kernel
theorem dX10_hut_36 : decode cX10_hut 36 = .ok (.iload_n 1, 1) := by decide +kernel
theorem dX10_hut_37 : decode cX10_hut 37 = .ok (.iload_n 2, 1) := by decide +kernel
theorem dX10_hut_38 : decode cX10_hut 38 = .ok (.iadd, 1) := by decide +kernel
theorem dX10_hut_39 : decode cX10_hut 39 = .ok (.iconst 1, 1) := by decide +kernel
theorem dX10_hut_40 : decode cX10_hut 40 = .ok (.isub, 1) := by decide +kernel
theorem dX10_hut_41 : decode cX10_hut 41 = .ok (.iload_n 2, 1) := by decide +kernel
theorem dX10_hut_42 : decode cX10_hut 42 = .ok (.idiv, 1) := by decide +kernel
theorem dX10_hut_43 : decode cX10_hut 43 = .ok (.istore 4, 2) := by decide +kernel
theorem dX10_hut_45 : decode cX10_hut 45 = .ok (.iconst 1, 1) := by decide +kernel
theorem dX10_hut_46 : decode cX10_hut 46 = .ok (.istore 5, 2) := by decide +kernel
theorem dX10_hut_48 : decode cX10_hut 48 = .ok (.iload 5, 2) := by decide +kernel
theorem dX10_hut_50 : decode cX10_hut 50 = .ok (.bipush 99, 2) := by decide +kernel
theorem dX10_hut_52 : decode cX10_hut 52 = .ok (.if_icmp .gt 26, 3) := by decide +kernel
theorem dX10_hut_55 : decode cX10_hut 55 = .ok (.iload_n 1, 1) := by decide +kernel
theorem dX10_hut_56 : decode cX10_hut 56 = .ok (.iload 5, 2) := by decide +kernel
theorem dX10_hut_58 : decode cX10_hut 58 = .ok (.imul, 1) := by decide +kernel
theorem dX10_hut_59 : decode cX10_hut 59 = .ok (.iload 4, 2) := by decide +kernel
theorem dX10_hut_61 : decode cX10_hut 61 = .ok (.imul, 1) := by decide +kernel
theorem dX10_hut_62 : decode cX10_hut 62 = .ok (.bipush 38, 2) := by decide +kernel
theorem dX10_hut_64 : decode cX10_hut 64 = .ok (.idiv, 1) := by decide +kernel
theorem dX10_hut_65 : decode cX10_hut 65 = .ok (.iload_n 3, 1) := by decide +kernel
theorem dX10_hut_66 : decode cX10_hut 66 = .ok (.if_icmp .le 6, 3) := by decide +kernel
theorem dX10_hut_69 : decode cX10_hut 69 = .ok (.iload 5, 2) := by decide +kernel
theorem dX10_hut_71 : decode cX10_hut 71 = .ok (.ireturn, 1) := by decide +kernel
theorem dX10_hut_72 : decode cX10_hut 72 = .ok (.iinc 5 1, 3) := by decide +kernel
theorem dX10_hut_75 : decode cX10_hut 75 = .ok (.goto (-27), 3) := by decide +kernel
theorem dX10_hut_78 : decode cX10_hut 78 = .ok (.bipush (-6), 2) := by decide +kernel
theorem dX10_hut_80 : decode cX10_hut 80 = .ok (.ireturn, 1) := by decide +kernel
theorem dX10_film_0 : decode cX10_film 0 = .ok (.iload_n 1, 1) := by decide +kernel
theorem dX10_film_1 : decode cX10_film 1 = .ok (.sipush (-2000), 3) := by decide +kernel
theorem dX10_film_4 : decode cX10_film 4 = .ok (.sipush 2000, 3) := by decide +kernel
theorem dX10_film_7 : decode cX10_film 7 = .ok (.invokestatic 70, 3) := by decide +kernel
theorem dX10_film_10 : decode cX10_film 10 = .ok (.ifCond .eq 16, 3) := by decide +kernel
theorem dX10_film_13 : decode cX10_film 13 = .ok (.iload_n 2, 1) := by decide +kernel
theorem dX10_film_14 : decode cX10_film 14 = .ok (.sipush (-2000), 3) := by decide +kernel
theorem dX10_film_17 : decode cX10_film 17 = .ok (.sipush 2000, 3) := by decide +kernel
theorem dX10_film_20 : decode cX10_film 20 = .ok (.invokestatic 70, 3) := by decide +kernel
theorem dX10_film_23 : decode cX10_film 23 = .ok (.ifCond .ne 6, 3) := by decide +kernel
theorem dX10_film_26 : decode cX10_film 26 = .ok (.bipush (-2), 2) := by decide +kernel
theorem dX10_film_28 : decode cX10_film 28 = .ok (.ireturn, 1) := by decide +kernel
theorem dX10_film_29 : decode cX10_film 29 = .ok (.aload_n 0, 1) := by decide +kernel
theorem dX10_film_30 : decode cX10_film 30 = .ok (.getfield 19, 3) := by decide +kernel
theorem dX10_film_33 : decode cX10_film 33 = .ok (.getfield 232, 3) := by decide +kernel
theorem dX10_film_36 : decode cX10_film 36 = .ok (.iload_n 1, 1) := by decide +kernel
theorem dX10_film_37 : decode cX10_film 37 = .ok (.iload_n 2, 1) := by decide +kernel
theorem dX10_film_38 : decode cX10_film 38 = .ok (.invokevirtual 236, 3) := by decide +kernel
theorem dX10_film_41 : decode cX10_film 41 = .ok (.ifCond .eq 16, 3) := by decide +kernel
theorem dX10_film_44 : decode cX10_film 44 = .ok (.aload_n 0, 1) := by decide +kernel
theorem dX10_film_45 : decode cX10_film 45 = .ok (.getfield 19, 3) := by decide +kernel
theorem dX10_film_48 : decode cX10_film 48 = .ok (.getfield 232, 3) := by decide +kernel
theorem dX10_film_51 : decode cX10_film 51 = .ok (.getfield 238, 3) := by decide +kernel
theorem dX10_film_54 : decode cX10_film 54 = .ok (.goto 5, 3) := by decide +kernel
theorem dX10_film_57 : decode cX10_film 57 = .ok (.bipush (-4), 2) := by decide +kernel
theorem dX10_film_59 : decode cX10_film 59 = .ok (.ireturn, 1) := by decide +kernel
theorem dX10_clear_0 : decode cX10_clear 0 = .ok (.aload_n 0, 1) := by decide +kernel
theorem dX10_clear_1 : decode cX10_clear 1 = .ok (.getfield 19, 3) := by decide +kernel
theorem dX10_clear_4 : decode cX10_clear 4 = .ok (.getfield 232, 3) := by decide +kernel
theorem dX10_clear_7 : decode cX10_clear 7 = .ok (.getfield 238, 3) := by decide +kernel
theorem dX10_clear_10 : decode cX10_clear 10 = .ok (.istore_n 1, 1) := by decide +kernel
theorem dX10_clear_11 : decode cX10_clear 11 = .ok (.aload_n 0, 1) := by decide +kernel
theorem dX10_clear_12 : decode cX10_clear 12 = .ok (.getfield 19, 3) := by decide +kernel
theorem dX10_clear_15 : decode cX10_clear 15 = .ok (.getfield 232, 3) := by decide +kernel
theorem dX10_clear_18 : decode cX10_clear 18 = .ok (.iconst 0, 1) := by decide +kernel
theorem dX10_clear_19 : decode cX10_clear 19 = .ok (.putfield 238, 3) := by decide +kernel
theorem dX10_clear_22 : decode cX10_clear 22 = .ok (.iload_n 1, 1) := by decide +kernel
theorem dX10_clear_23 : decode cX10_clear 23 = .ok (.ireturn, 1) := by decide +kernel
theorem dX10_bent_0 : decode cX10_bent 0 = .ok (.iload_n 1, 1) := by decide +kernel
theorem dX10_bent_1 : decode cX10_bent 1 = .ok (.bipush (-60), 2) := by decide +kernel
theorem dX10_bent_3 : decode cX10_bent 3 = .ok (.bipush 60, 2) := by decide +kernel
theorem dX10_bent_5 : decode cX10_bent 5 = .ok (.invokestatic 70, 3) := by decide +kernel
theorem dX10_bent_8 : decode cX10_bent 8 = .ok (.ifCond .ne 6, 3) := by decide +kernel
theorem dX10_bent_11 : decode cX10_bent 11 = .ok (.bipush (-2), 2) := by decide +kernel
theorem dX10_bent_13 : decode cX10_bent 13 = .ok (.ireturn, 1) := by decide +kernel
theorem dX10_bent_14 : decode cX10_bent 14 = .ok (.aload_n 0, 1) := by decide +kernel
theorem dX10_bent_15 : decode cX10_bent 15 = .ok (.getfield 19, 3) := by decide +kernel
theorem dX10_bent_18 : decode cX10_bent 18 = .ok (.getfield 232, 3) := by decide +kernel
theorem dX10_bent_21 : decode cX10_bent 21 = .ok (.iload_n 1, 1) := by decide +kernel
theorem dX10_bent_22 : decode cX10_bent 22 = .ok (.invokevirtual 241, 3) := by decide +kernel
theorem dX10_bent_25 : decode cX10_bent 25 = .ok (.ireturn, 1) := by decide +kernel
theorem dX10_turned_0 : decode cX10_turned 0 = .ok (.aload_n 0, 1) := by decide +kernel
theorem dX10_turned_1 : decode cX10_turned 1 = .ok (.getfield 19, 3) := by decide +kernel
theorem dX10_turned_4 : decode cX10_turned 4 = .ok (.getfield 232, 3) := by decide +kernel
theorem dX10_turned_7 : decode cX10_turned 7 = .ok (.invokevirtual 244, 3) := by decide +kernel
theorem dX10_turned_10 : decode cX10_turned 10 = .ok (.ifCond .eq 16, 3) := by decide +kernel
theorem dX10_turned_13 : decode cX10_turned 13 = .ok (.aload_n 0, 1) := by decide +kernel
theorem dX10_turned_14 : decode cX10_turned 14 = .ok (.getfield 19, 3) := by decide +kernel
theorem dX10_turned_17 : decode cX10_turned 17 = .ok (.getfield 232, 3) := by decide +kernel
theorem dX10_turned_20 : decode cX10_turned 20 = .ok (.invokevirtual 247, 3) := by decide +kernel
theorem dX10_turned_23 : decode cX10_turned 23 = .ok (.goto 5, 3) := by decide +kernel
theorem dX10_turned_26 : decode cX10_turned 26 = .ok (.ldc 250, 2) := by decide +kernel
theorem dX10_turned_28 : decode cX10_turned 28 = .ok (.ireturn, 1) := by decide +kernel
theorem dX10_span_0 : decode cX10_span 0 = .ok (.iload_n 1, 1) := by decide +kernel
theorem dX10_span_1 : decode cX10_span 1 = .ok (.iconst 0, 1) := by decide +kernel
theorem dX10_span_2 : decode cX10_span 2 = .ok (.sipush 9999, 3) := by decide +kernel
theorem dX10_span_5 : decode cX10_span 5 = .ok (.invokestatic 70, 3) := by decide +kernel
theorem dX10_span_8 : decode cX10_span 8 = .ok (.ifCond .eq 12, 3) := by decide +kernel
theorem dX10_span_11 : decode cX10_span 11 = .ok (.iload_n 2, 1) := by decide +kernel
theorem dX10_span_12 : decode cX10_span 12 = .ok (.iconst 0, 1) := by decide +kernel
theorem dX10_span_13 : decode cX10_span 13 = .ok (.iconst 1, 1) := by decide +kernel
theorem dX10_span_14 : decode cX10_span 14 = .ok (.invokestatic 70, 3) := by decide +kernel
theorem dX10_span_17 : decode cX10_span 17 = .ok (.ifCond .ne 6, 3) := by decide +kernel
theorem dX10_span_20 : decode cX10_span 20 = .ok (.ldc 129, 2) := by decide +kernel
theorem dX10_span_22 : decode cX10_span 22 = .ok (.ireturn, 1) := by decide +kernel
theorem dX10_span_23 : decode cX10_span 23 = .ok (.aload_n 0, 1) := by decide +kernel
theorem dX10_span_24 : decode cX10_span 24 = .ok (.getfield 19, 3) := by decide +kernel
theorem dX10_span_27 : decode cX10_span 27 = .ok (.getfield 232, 3) := by decide +kernel
theorem dX10_span_30 : decode cX10_span 30 = .ok (.invokevirtual 244, 3) := by decide +kernel
theorem dX10_span_33 : decode cX10_span 33 = .ok (.ifCond .eq 26, 3) := by decide +kernel
theorem dX10_span_36 : decode cX10_span 36 = .ok (.aload_n 0, 1) := by decide +kernel
theorem dX10_span_37 : decode cX10_span 37 = .ok (.getfield 19, 3) := by decide +kernel
theorem dX10_span_40 : decode cX10_span 40 = .ok (.getfield 232, 3) := by decide +kernel
theorem dX10_span_43 : decode cX10_span 43 = .ok (.iload_n 1, 1) := by decide +kernel
theorem dX10_span_44 : decode cX10_span 44 = .ok (.iload_n 2, 1) := by decide +kernel
theorem dX10_span_45 : decode cX10_span 45 = .ok (.ifCond .ne 7, 3) := by decide +kernel
theorem dX10_span_48 : decode cX10_span 48 = .ok (.iconst (-1), 1) := by decide +kernel
theorem dX10_span_49 : decode cX10_span 49 = .ok (.goto 4, 3) := by decide +kernel
theorem dX10_span_52 : decode cX10_span 52 = .ok (.iconst 1, 1) := by decide +kernel
theorem dX10_span_53 : decode cX10_span 53 = .ok (.invokevirtual 251, 3) := by decide +kernel
theorem dX10_span_56 : decode cX10_span 56 = .ok (.goto 5, 3) := by decide +kernel
theorem dX10_span_59 : decode cX10_span 59 = .ok (.ldc 250, 2) := by decide +kernel
theorem dX10_span_61 : decode cX10_span 61 = .ok (.ireturn, 1) := by decide +kernel
theorem dX10_learns_0 : decode cX10_learns 0 = .ok (.aload_n 0, 1) := by decide +kernel
theorem dX10_learns_1 : decode cX10_learns 1 = .ok (.iload_n 1, 1) := by decide +kernel
theorem dX10_learns_2 : decode cX10_learns 2 = .ok (.iload_n 3, 1) := by decide +kernel
theorem dX10_learns_3 : decode cX10_learns 3 = .ok (.invokevirtual 254, 3) := by decide +kernel
theorem dX10_learns_6 : decode cX10_learns 6 = .ok (.ifCond .ne 5, 3) := by decide +kernel
theorem dX10_learns_9 : decode cX10_learns 9 = .ok (.iconst (-1), 1) := by decide +kernel
theorem dX10_learns_10 : decode cX10_learns 10 = .ok (.ireturn, 1) := by decide +kernel
theorem dX10_learns_11 : decode cX10_learns 11 = .ok (.iload_n 2, 1) := by decide +kernel
theorem dX10_learns_12 : decode cX10_learns 12 = .ok (.iconst 1, 1) := by decide +kernel
theorem dX10_learns_13 : decode cX10_learns 13 = .ok (.sipush 200, 3) := by decide +kernel
theorem dX10_learns_16 : decode cX10_learns 16 = .ok (.invokestatic 70, 3) := by decide +kernel
theorem dX10_learns_19 : decode cX10_learns 19 = .ok (.ifCond .eq 13, 3) := by decide +kernel
theorem dX10_learns_22 : decode cX10_learns 22 = .ok (.iload 4, 2) := by decide +kernel
theorem dX10_learns_24 : decode cX10_learns 24 = .ok (.iconst 0, 1) := by decide +kernel
theorem dX10_learns_25 : decode cX10_learns 25 = .ok (.iconst 1, 1) := by decide +kernel
theorem dX10_learns_26 : decode cX10_learns 26 = .ok (.invokestatic 70, 3) := by decide +kernel
theorem dX10_learns_29 : decode cX10_learns 29 = .ok (.ifCond .ne 6, 3) := by decide +kernel
theorem dX10_learns_32 : decode cX10_learns 32 = .ok (.bipush (-2), 2) := by decide +kernel
theorem dX10_learns_34 : decode cX10_learns 34 = .ok (.ireturn, 1) := by decide +kernel
theorem dX10_learns_35 : decode cX10_learns 35 = .ok (.aload_n 0, 1) := by decide +kernel
theorem dX10_learns_36 : decode cX10_learns 36 = .ok (.iload_n 1, 1) := by decide +kernel
theorem dX10_learns_37 : decode cX10_learns 37 = .ok (.iload_n 2, 1) := by decide +kernel
theorem dX10_learns_38 : decode cX10_learns 38 = .ok (.iload_n 3, 1) := by decide +kernel
theorem dX10_learns_39 : decode cX10_learns 39 = .ok (.invokevirtual 257, 3) := by decide +kernel
theorem dX10_learns_42 : decode cX10_learns 42 = .ok (.ifCond .ne 6, 3) := by decide +kernel
theorem dX10_learns_45 : decode cX10_learns 45 = .ok (.bipush (-6), 2) := by decide +kernel
theorem dX10_learns_47 : decode cX10_learns 47 = .ok (.ireturn, 1) := by decide +kernel
theorem dX10_learns_48 : decode cX10_learns 48 = .ok (.iload 4, 2) := by decide +kernel
theorem dX10_learns_50 : decode cX10_learns 50 = .ok (.ifCond .ne 13, 3) := by decide +kernel
theorem dX10_learns_53 : decode cX10_learns 53 = .ok (.aload_n 0, 1) := by decide +kernel
theorem dX10_learns_54 : decode cX10_learns 54 = .ok (.getfield 58, 3) := by decide +kernel
theorem dX10_learns_57 : decode cX10_learns 57 = .ok (.getfield 260, 3) := by decide +kernel
theorem dX10_learns_60 : decode cX10_learns 60 = .ok (.goto 10, 3) := by decide +kernel
theorem dX10_learns_63 : decode cX10_learns 63 = .ok (.aload_n 0, 1) := by decide +kernel
theorem dX10_learns_64 : decode cX10_learns 64 = .ok (.getfield 58, 3) := by decide +kernel
theorem dX10_learns_67 : decode cX10_learns 67 = .ok (.getfield 263, 3) := by decide +kernel
theorem dX10_learns_70 : decode cX10_learns 70 = .ok (.ireturn, 1) := by decide +kernel
theorem dX10_along_0 : decode cX10_along 0 = .ok (.aload_n 0, 1) := by decide +kernel
theorem dX10_along_1 : decode cX10_along 1 = .ok (.iload_n 1, 1) := by decide +kernel
theorem dX10_along_2 : decode cX10_along 2 = .ok (.iload_n 3, 1) := by decide +kernel
theorem dX10_along_3 : decode cX10_along 3 = .ok (.invokevirtual 254, 3) := by decide +kernel
theorem dX10_along_6 : decode cX10_along 6 = .ok (.ifCond .ne 5, 3) := by decide +kernel
theorem dX10_along_9 : decode cX10_along 9 = .ok (.iconst (-1), 1) := by decide +kernel
theorem dX10_along_10 : decode cX10_along 10 = .ok (.ireturn, 1) := by decide +kernel
theorem dX10_along_11 : decode cX10_along 11 = .ok (.iload_n 2, 1) := by decide +kernel
theorem dX10_along_12 : decode cX10_along 12 = .ok (.iconst 1, 1) := by decide +kernel
theorem dX10_along_13 : decode cX10_along 13 = .ok (.sipush 200, 3) := by decide +kernel
theorem dX10_along_16 : decode cX10_along 16 = .ok (.invokestatic 70, 3) := by decide +kernel
theorem dX10_along_19 : decode cX10_along 19 = .ok (.ifCond .eq 15, 3) := by decide +kernel
theorem dX10_along_22 : decode cX10_along 22 = .ok (.iload 4, 2) := by decide +kernel
theorem dX10_along_24 : decode cX10_along 24 = .ok (.iconst 0, 1) := by decide +kernel
theorem dX10_along_25 : decode cX10_along 25 = .ok (.sipush 198, 3) := by decide +kernel
theorem dX10_along_28 : decode cX10_along 28 = .ok (.invokestatic 70, 3) := by decide +kernel
theorem dX10_along_31 : decode cX10_along 31 = .ok (.ifCond .ne 6, 3) := by decide +kernel
theorem dX10_along_34 : decode cX10_along 34 = .ok (.bipush (-2), 2) := by decide +kernel
theorem dX10_along_36 : decode cX10_along 36 = .ok (.ireturn, 1) := by decide +kernel
theorem dX10_along_37 : decode cX10_along 37 = .ok (.aload_n 0, 1) := by decide +kernel
theorem dX10_along_38 : decode cX10_along 38 = .ok (.iload_n 1, 1) := by decide +kernel
theorem dX10_along_39 : decode cX10_along 39 = .ok (.iload_n 2, 1) := by decide +kernel
theorem dX10_along_40 : decode cX10_along 40 = .ok (.iload_n 3, 1) := by decide +kernel
theorem dX10_along_41 : decode cX10_along 41 = .ok (.invokevirtual 257, 3) := by decide +kernel
theorem dX10_along_44 : decode cX10_along 44 = .ok (.ifCond .ne 6, 3) := by decide +kernel
theorem dX10_along_47 : decode cX10_along 47 = .ok (.bipush (-6), 2) := by decide +kernel
theorem dX10_along_49 : decode cX10_along 49 = .ok (.ireturn, 1) := by decide +kernel
theorem dX10_along_50 : decode cX10_along 50 = .ok (.aload_n 0, 1) := by decide +kernel
theorem dX10_along_51 : decode cX10_along 51 = .ok (.iload_n 1, 1) := by decide +kernel
theorem dX10_along_52 : decode cX10_along 52 = .ok (.iload_n 2, 1) := by decide +kernel
theorem dX10_along_53 : decode cX10_along 53 = .ok (.iload_n 3, 1) := by decide +kernel
theorem dX10_along_54 : decode cX10_along 54 = .ok (.iload 4, 2) := by decide +kernel
theorem dX10_along_56 : decode cX10_along 56 = .ok (.bipush 99, 2) := by decide +kernel
theorem dX10_along_58 : decode cX10_along 58 = .ok (.isub, 1) := by decide +kernel
theorem dX10_along_59 : decode cX10_along 59 = .ok (.invokevirtual 266, 3) := by decide +kernel
theorem dX10_along_62 : decode cX10_along 62 = .ok (.ifCond .eq 13, 3) := by decide +kernel
theorem dX10_along_65 : decode cX10_along 65 = .ok (.aload_n 0, 1) := by decide +kernel
theorem dX10_along_66 : decode cX10_along 66 = .ok (.getfield 58, 3) := by decide +kernel
theorem dX10_along_69 : decode cX10_along 69 = .ok (.getfield 260, 3) := by decide +kernel
theorem dX10_along_72 : decode cX10_along 72 = .ok (.goto 5, 3) := by decide +kernel
theorem dX10_along_75 : decode cX10_along 75 = .ok (.bipush (-6), 2) := by decide +kernel
theorem dX10_along_77 : decode cX10_along 77 = .ok (.ireturn, 1) := by decide +kernel
theorem dX10_image_0 : decode cX10_image 0 = .ok (.iload_n 1, 1) := by decide +kernel
theorem dX10_image_1 : decode cX10_image 1 = .ok (.invokestatic 269, 3) := by decide +kernel
theorem dX10_image_4 : decode cX10_image 4 = .ok (.ifCond .ne 6, 3) := by decide +kernel
theorem dX10_image_7 : decode cX10_image 7 = .ok (.bipush (-2), 2) := by decide +kernel
theorem dX10_image_9 : decode cX10_image 9 = .ok (.ireturn, 1) := by decide +kernel
theorem dX10_image_10 : decode cX10_image 10 = .ok (.aload_n 0, 1) := by decide +kernel
theorem dX10_image_11 : decode cX10_image 11 = .ok (.getfield 23, 3) := by decide +kernel
theorem dX10_image_14 : decode cX10_image 14 = .ok (.iload_n 1, 1) := by decide +kernel
theorem dX10_image_15 : decode cX10_image 15 = .ok (.aaload, 1) := by decide +kernel
theorem dX10_image_16 : decode cX10_image 16 = .ok (.ifnonnull 16, 3) := by decide +kernel
theorem dX10_image_19 : decode cX10_image 19 = .ok (.aload_n 0, 1) := by decide +kernel
theorem dX10_image_20 : decode cX10_image 20 = .ok (.getfield 23, 3) := by decide +kernel
theorem dX10_image_23 : decode cX10_image 23 = .ok (.iload_n 1, 1) := by decide +kernel
theorem dX10_image_24 : decode cX10_image 24 = .ok (.new 16, 3) := by decide +kernel
theorem dX10_image_27 : decode cX10_image 27 = .ok (.dup, 1) := by decide +kernel
theorem dX10_image_28 : decode cX10_image 28 = .ok (.invokespecial 18, 3) := by decide +kernel
theorem dX10_image_31 : decode cX10_image 31 = .ok (.aastore, 1) := by decide +kernel
theorem dX10_image_32 : decode cX10_image 32 = .ok (.aload_n 0, 1) := by decide +kernel
theorem dX10_image_33 : decode cX10_image 33 = .ok (.getfield 23, 3) := by decide +kernel
theorem dX10_image_36 : decode cX10_image 36 = .ok (.iload_n 1, 1) := by decide +kernel
theorem dX10_image_37 : decode cX10_image 37 = .ok (.aaload, 1) := by decide +kernel
theorem dX10_image_38 : decode cX10_image 38 = .ok (.aload_n 0, 1) := by decide +kernel
theorem dX10_image_39 : decode cX10_image 39 = .ok (.getfield 19, 3) := by decide +kernel
theorem dX10_image_42 : decode cX10_image 42 = .ok (.invokevirtual 272, 3) := by decide +kernel
theorem dX10_image_45 : decode cX10_image 45 = .ok (.iconst 1, 1) := by decide +kernel
theorem dX10_image_46 : decode cX10_image 46 = .ok (.ireturn, 1) := by decide +kernel
theorem dX10_restore_0 : decode cX10_restore 0 = .ok (.iload_n 1, 1) := by decide +kernel
theorem dX10_restore_1 : decode cX10_restore 1 = .ok (.invokestatic 269, 3) := by decide +kernel
theorem dX10_restore_4 : decode cX10_restore 4 = .ok (.ifCond .ne 6, 3) := by decide +kernel
theorem dX10_restore_7 : decode cX10_restore 7 = .ok (.bipush (-2), 2) := by decide +kernel
theorem dX10_restore_9 : decode cX10_restore 9 = .ok (.ireturn, 1) := by decide +kernel
theorem dX10_restore_10 : decode cX10_restore 10 = .ok (.aload_n 0, 1) := by decide +kernel
theorem dX10_restore_11 : decode cX10_restore 11 = .ok (.getfield 23, 3) := by decide +kernel
theorem dX10_restore_14 : decode cX10_restore 14 = .ok (.iload_n 1, 1) := by decide +kernel
theorem dX10_restore_15 : decode cX10_restore 15 = .ok (.aaload, 1) := by decide +kernel
theorem dX10_restore_16 : decode cX10_restore 16 = .ok (.ifnonnull 6, 3) := by decide +kernel
theorem dX10_restore_19 : decode cX10_restore 19 = .ok (.bipush (-3), 2) := by decide +kernel
theorem dX10_restore_21 : decode cX10_restore 21 = .ok (.ireturn, 1) := by decide +kernel
theorem dX10_restore_22 : decode cX10_restore 22 = .ok (.aload_n 0, 1) := by decide +kernel
theorem dX10_restore_23 : decode cX10_restore 23 = .ok (.getfield 19, 3) := by decide +kernel
theorem dX10_restore_26 : decode cX10_restore 26 = .ok (.aload_n 0, 1) := by decide +kernel
theorem dX10_restore_27 : decode cX10_restore 27 = .ok (.getfield 23, 3) := by decide +kernel
theorem dX10_restore_30 : decode cX10_restore 30 = .ok (.iload_n 1, 1) := by decide +kernel
theorem dX10_restore_31 : decode cX10_restore 31 = .ok (.aaload, 1) := by decide +kernel
theorem dX10_restore_32 : decode cX10_restore 32 = .ok (.invokevirtual 272, 3) := by decide +kernel
theorem dX10_restore_35 : decode cX10_restore 35 = .ok (.iconst 1, 1) := by decide +kernel
theorem dX10_restore_36 : decode cX10_restore 36 = .ok (.ireturn, 1) := by decide +kernel
theorem dX10_told_0 : decode cX10_told 0 = .ok (.iload_n 1, 1) := by decide +kernel
theorem dX10_told_1 : decode cX10_told 1 = .ok (.iconst 0, 1) := by decide +kernel
theorem dX10_told_2 : decode cX10_told 2 = .ok (.bipush 8, 2) := by decide +kernel
theorem dX10_told_4 : decode cX10_told 4 = .ok (.invokestatic 70, 3) := by decide +kernel
theorem dX10_told_7 : decode cX10_told 7 = .ok (.ifCond .ne 6, 3) := by decide +kernel
theorem dX10_told_10 : decode cX10_told 10 = .ok (.bipush (-2), 2) := by decide +kernel
theorem dX10_told_12 : decode cX10_told 12 = .ok (.ireturn, 1) := by decide +kernel
theorem dX10_told_13 : decode cX10_told 13 = .ok (.iload_n 1, 1) := by decide +kernel
theorem dX10_told_14 : decode cX10_told 14 = .ok (.tableswitch 68 0 3 #[30, 38, 49, 57], 30) := by decide +kernel
theorem dX10_told_44 : decode cX10_told 44 = .ok (.aload_n 0, 1) := by decide +kernel
theorem dX10_told_45 : decode cX10_told 45 = .ok (.getfield 10, 3) := by decide +kernel
theorem dX10_told_48 : decode cX10_told 48 = .ok (.getfield 78, 3) := by decide +kernel
theorem dX10_told_51 : decode cX10_told 51 = .ok (.ireturn, 1) := by decide +kernel
theorem dX10_told_52 : decode cX10_told 52 = .ok (.aload_n 0, 1) := by decide +kernel
theorem dX10_told_53 : decode cX10_told 53 = .ok (.getfield 19, 3) := by decide +kernel
theorem dX10_told_56 : decode cX10_told 56 = .ok (.getfield 86, 3) := by decide +kernel
theorem dX10_told_59 : decode cX10_told 59 = .ok (.getfield 96, 3) := by decide +kernel
theorem dX10_told_62 : decode cX10_told 62 = .ok (.ireturn, 1) := by decide +kernel
theorem dX10_told_63 : decode cX10_told 63 = .ok (.aload_n 0, 1) := by decide +kernel
theorem dX10_told_64 : decode cX10_told 64 = .ok (.getfield 19, 3) := by decide +kernel
theorem dX10_told_67 : decode cX10_told 67 = .ok (.getfield 118, 3) := by decide +kernel
theorem dX10_told_70 : decode cX10_told 70 = .ok (.ireturn, 1) := by decide +kernel
theorem dX10_told_71 : decode cX10_told 71 = .ok (.aload_n 0, 1) := by decide +kernel
theorem dX10_told_72 : decode cX10_told 72 = .ok (.getfield 19, 3) := by decide +kernel
theorem dX10_told_75 : decode cX10_told 75 = .ok (.getfield 232, 3) := by decide +kernel
theorem dX10_told_78 : decode cX10_told 78 = .ok (.getfield 238, 3) := by decide +kernel
theorem dX10_told_81 : decode cX10_told 81 = .ok (.ireturn, 1) := by decide +kernel
theorem dX10_told_82 : decode cX10_told 82 = .ok (.aload_n 0, 1) := by decide +kernel
theorem dX10_told_83 : decode cX10_told 83 = .ok (.getfield 19, 3) := by decide +kernel
theorem dX10_told_86 : decode cX10_told 86 = .ok (.getfield 66, 3) := by decide +kernel
theorem dX10_told_89 : decode cX10_told 89 = .ok (.iload_n 1, 1) := by decide +kernel
theorem dX10_told_90 : decode cX10_told 90 = .ok (.iconst 4, 1) := by decide +kernel
theorem dX10_told_91 : decode cX10_told 91 = .ok (.isub, 1) := by decide +kernel
theorem dX10_told_92 : decode cX10_told 92 = .ok (.iaload, 1) := by decide +kernel
theorem dX10_told_93 : decode cX10_told 93 = .ok (.ireturn, 1) := by decide +kernel
theorem dX10_learnsAtFirst_0 : decode cX10_learnsAtFirst 0 = .ok (.aload_n 0, 1) := by decide +kernel
theorem dX10_learnsAtFirst_1 : decode cX10_learnsAtFirst 1 = .ok (.getfield 58, 3) := by decide +kernel
theorem dX10_learnsAtFirst_4 : decode cX10_learnsAtFirst 4 = .ok (.aload_n 0, 1) := by decide +kernel
theorem dX10_learnsAtFirst_5 : decode cX10_learnsAtFirst 5 = .ok (.getfield 19, 3) := by decide +kernel
theorem dX10_learnsAtFirst_8 : decode cX10_learnsAtFirst 8 = .ok (.getfield 130, 3) := by decide +kernel
theorem dX10_learnsAtFirst_11 : decode cX10_learnsAtFirst 11 = .ok (.iload_n 3, 1) := by decide +kernel
theorem dX10_learnsAtFirst_12 : decode cX10_learnsAtFirst 12 = .ok (.iaload, 1) := by decide +kernel
theorem dX10_learnsAtFirst_13 : decode cX10_learnsAtFirst 13 = .ok (.aload_n 0, 1) := by decide +kernel
theorem dX10_learnsAtFirst_14 : decode cX10_learnsAtFirst 14 = .ok (.getfield 19, 3) := by decide +kernel
theorem dX10_learnsAtFirst_17 : decode cX10_learnsAtFirst 17 = .ok (.getfield 130, 3) := by decide +kernel
theorem dX10_learnsAtFirst_20 : decode cX10_learnsAtFirst 20 = .ok (.iload_n 1, 1) := by decide +kernel
theorem dX10_learnsAtFirst_21 : decode cX10_learnsAtFirst 21 = .ok (.iaload, 1) := by decide +kernel
theorem dX10_learnsAtFirst_22 : decode cX10_learnsAtFirst 22 = .ok (.isub, 1) := by decide +kernel
theorem dX10_learnsAtFirst_23 : decode cX10_learnsAtFirst 23 = .ok (.aload_n 0, 1) := by decide +kernel
theorem dX10_learnsAtFirst_24 : decode cX10_learnsAtFirst 24 = .ok (.getfield 19, 3) := by decide +kernel
theorem dX10_learnsAtFirst_27 : decode cX10_learnsAtFirst 27 = .ok (.getfield 133, 3) := by decide +kernel
theorem dX10_learnsAtFirst_30 : decode cX10_learnsAtFirst 30 = .ok (.iload_n 3, 1) := by decide +kernel
theorem dX10_learnsAtFirst_31 : decode cX10_learnsAtFirst 31 = .ok (.iaload, 1) := by decide +kernel
theorem dX10_learnsAtFirst_32 : decode cX10_learnsAtFirst 32 = .ok (.aload_n 0, 1) := by decide +kernel
theorem dX10_learnsAtFirst_33 : decode cX10_learnsAtFirst 33 = .ok (.getfield 19, 3) := by decide +kernel
theorem dX10_learnsAtFirst_36 : decode cX10_learnsAtFirst 36 = .ok (.getfield 133, 3) := by decide +kernel
theorem dX10_learnsAtFirst_39 : decode cX10_learnsAtFirst 39 = .ok (.iload_n 1, 1) := by decide +kernel
theorem dX10_learnsAtFirst_40 : decode cX10_learnsAtFirst 40 = .ok (.iaload, 1) := by decide +kernel
theorem dX10_learnsAtFirst_41 : decode cX10_learnsAtFirst 41 = .ok (.isub, 1) := by decide +kernel
theorem dX10_learnsAtFirst_42 : decode cX10_learnsAtFirst 42 = .ok (.iload_n 2, 1) := by decide +kernel
theorem dX10_learnsAtFirst_43 : decode cX10_learnsAtFirst 43 = .ok (.invokevirtual 276, 3) := by decide +kernel
theorem dX10_learnsAtFirst_46 : decode cX10_learnsAtFirst 46 = .ok (.aload_n 0, 1) := by decide +kernel
theorem dX10_learnsAtFirst_47 : decode cX10_learnsAtFirst 47 = .ok (.iload_n 1, 1) := by decide +kernel
theorem dX10_learnsAtFirst_48 : decode cX10_learnsAtFirst 48 = .ok (.iload_n 2, 1) := by decide +kernel
theorem dX10_learnsAtFirst_49 : decode cX10_learnsAtFirst 49 = .ok (.iload_n 3, 1) := by decide +kernel
theorem dX10_learnsAtFirst_50 : decode cX10_learnsAtFirst 50 = .ok (.aload_n 0, 1) := by decide +kernel
theorem dX10_learnsAtFirst_51 : decode cX10_learnsAtFirst 51 = .ok (.getfield 19, 3) := by decide +kernel
theorem dX10_learnsAtFirst_54 : decode cX10_learnsAtFirst 54 = .ok (.invokevirtual 102, 3) := by decide +kernel
theorem dX10_learnsAtFirst_57 : decode cX10_learnsAtFirst 57 = .ok (.invokevirtual 266, 3) := by decide +kernel
theorem dX10_learnsAtFirst_60 : decode cX10_learnsAtFirst 60 = .ok (.ireturn, 1) := by decide +kernel
theorem dX10_tries_0 : decode cX10_tries 0 = .ok (.aload_n 0, 1) := by decide +kernel
theorem dX10_tries_1 : decode cX10_tries 1 = .ok (.getfield 30, 3) := by decide +kernel
theorem dX10_tries_4 : decode cX10_tries 4 = .ok (.aload_n 0, 1) := by decide +kernel
theorem dX10_tries_5 : decode cX10_tries 5 = .ok (.getfield 19, 3) := by decide +kernel
theorem dX10_tries_8 : decode cX10_tries 8 = .ok (.iload 4, 2) := by decide +kernel
theorem dX10_tries_10 : decode cX10_tries 10 = .ok (.invokevirtual 105, 3) := by decide +kernel
theorem dX10_tries_13 : decode cX10_tries 13 = .ok (.aload_n 0, 1) := by decide +kernel
theorem dX10_tries_14 : decode cX10_tries 14 = .ok (.getfield 44, 3) := by decide +kernel
theorem dX10_tries_17 : decode cX10_tries 17 = .ok (.aload_n 0, 1) := by decide +kernel
theorem dX10_tries_18 : decode cX10_tries 18 = .ok (.getfield 19, 3) := by decide +kernel
theorem dX10_tries_21 : decode cX10_tries 21 = .ok (.getfield 130, 3) := by decide +kernel
theorem dX10_tries_24 : decode cX10_tries 24 = .ok (.iload_n 3, 1) := by decide +kernel
theorem dX10_tries_25 : decode cX10_tries 25 = .ok (.iaload, 1) := by decide +kernel
theorem dX10_tries_26 : decode cX10_tries 26 = .ok (.aload_n 0, 1) := by decide +kernel
theorem dX10_tries_27 : decode cX10_tries 27 = .ok (.getfield 19, 3) := by decide +kernel
theorem dX10_tries_30 : decode cX10_tries 30 = .ok (.getfield 133, 3) := by decide +kernel
theorem dX10_tries_33 : decode cX10_tries 33 = .ok (.iload_n 3, 1) := by decide +kernel
theorem dX10_tries_34 : decode cX10_tries 34 = .ok (.iaload, 1) := by decide +kernel
theorem dX10_tries_35 : decode cX10_tries 35 = .ok (.aload_n 0, 1) := by decide +kernel
theorem dX10_tries_36 : decode cX10_tries 36 = .ok (.getfield 30, 3) := by decide +kernel
theorem dX10_tries_39 : decode cX10_tries 39 = .ok (.invokevirtual 166, 3) := by decide +kernel
theorem dX10_tries_42 : decode cX10_tries 42 = .ok (.aload_n 0, 1) := by decide +kernel
theorem dX10_tries_43 : decode cX10_tries 43 = .ok (.getfield 37, 3) := by decide +kernel
theorem dX10_tries_46 : decode cX10_tries 46 = .ok (.aload_n 0, 1) := by decide +kernel
theorem dX10_tries_47 : decode cX10_tries 47 = .ok (.getfield 19, 3) := by decide +kernel
theorem dX10_tries_50 : decode cX10_tries 50 = .ok (.getfield 130, 3) := by decide +kernel
theorem dX10_tries_53 : decode cX10_tries 53 = .ok (.iload_n 1, 1) := by decide +kernel
theorem dX10_tries_54 : decode cX10_tries 54 = .ok (.iaload, 1) := by decide +kernel
theorem dX10_tries_55 : decode cX10_tries 55 = .ok (.aload_n 0, 1) := by decide +kernel
theorem dX10_tries_56 : decode cX10_tries 56 = .ok (.getfield 19, 3) := by decide +kernel
theorem dX10_tries_59 : decode cX10_tries 59 = .ok (.getfield 133, 3) := by decide +kernel
theorem dX10_tries_62 : decode cX10_tries 62 = .ok (.iload_n 1, 1) := by decide +kernel
theorem dX10_tries_63 : decode cX10_tries 63 = .ok (.iaload, 1) := by decide +kernel
theorem dX10_tries_64 : decode cX10_tries 64 = .ok (.iconst 0, 1) := by decide +kernel
theorem dX10_tries_65 : decode cX10_tries 65 = .ok (.iconst 0, 1) := by decide +kernel
theorem dX10_tries_66 : decode cX10_tries 66 = .ok (.aload_n 0, 1) := by decide +kernel
theorem dX10_tries_67 : decode cX10_tries 67 = .ok (.getfield 30, 3) := by decide +kernel
theorem dX10_tries_70 : decode cX10_tries 70 = .ok (.invokevirtual 152, 3) := by decide +kernel
theorem dX10_tries_73 : decode cX10_tries 73 = .ok (.aload_n 0, 1) := by decide +kernel
theorem dX10_tries_74 : decode cX10_tries 74 = .ok (.getfield 58, 3) := by decide +kernel
theorem dX10_tries_77 : decode cX10_tries 77 = .ok (.aload_n 0, 1) := by decide +kernel
theorem dX10_tries_78 : decode cX10_tries 78 = .ok (.getfield 37, 3) := by decide +kernel
theorem dX10_tries_81 : decode cX10_tries 81 = .ok (.iload_n 2, 1) := by decide +kernel
theorem dX10_tries_82 : decode cX10_tries 82 = .ok (.aload_n 0, 1) := by decide +kernel
theorem dX10_tries_83 : decode cX10_tries 83 = .ok (.getfield 44, 3) := by decide +kernel
theorem dX10_tries_86 : decode cX10_tries 86 = .ok (.aload_n 0, 1) := by decide +kernel
theorem dX10_tries_87 : decode cX10_tries 87 = .ok (.getfield 19, 3) := by decide +kernel
theorem dX10_tries_90 : decode cX10_tries 90 = .ok (.invokevirtual 170, 3) := by decide +kernel
theorem dX10_tries_93 : decode cX10_tries 93 = .ok (.invokevirtual 280, 3) := by decide +kernel
theorem dX10_tries_96 : decode cX10_tries 96 = .ok (.ireturn, 1) := by decide +kernel
theorem dX10_areTwo_0 : decode cX10_areTwo 0 = .ok (.aload_n 0, 1) := by decide +kernel
theorem dX10_areTwo_1 : decode cX10_areTwo 1 = .ok (.getfield 19, 3) := by decide +kernel
theorem dX10_areTwo_4 : decode cX10_areTwo 4 = .ok (.iload_n 1, 1) := by decide +kernel
theorem dX10_areTwo_5 : decode cX10_areTwo 5 = .ok (.invokevirtual 125, 3) := by decide +kernel
theorem dX10_areTwo_8 : decode cX10_areTwo 8 = .ok (.ifCond .eq 23, 3) := by decide +kernel
theorem dX10_areTwo_11 : decode cX10_areTwo 11 = .ok (.aload_n 0, 1) := by decide +kernel
theorem dX10_areTwo_12 : decode cX10_areTwo 12 = .ok (.getfield 19, 3) := by decide +kernel
theorem dX10_areTwo_15 : decode cX10_areTwo 15 = .ok (.iload_n 2, 1) := by decide +kernel
theorem dX10_areTwo_16 : decode cX10_areTwo 16 = .ok (.invokevirtual 125, 3) := by decide +kernel
theorem dX10_areTwo_19 : decode cX10_areTwo 19 = .ok (.ifCond .eq 12, 3) := by decide +kernel
theorem dX10_areTwo_22 : decode cX10_areTwo 22 = .ok (.iload_n 1, 1) := by decide +kernel
theorem dX10_areTwo_23 : decode cX10_areTwo 23 = .ok (.iload_n 2, 1) := by decide +kernel
theorem dX10_areTwo_24 : decode cX10_areTwo 24 = .ok (.if_icmp .eq 7, 3) := by decide +kernel
theorem dX10_areTwo_27 : decode cX10_areTwo 27 = .ok (.iconst 1, 1) := by decide +kernel
theorem dX10_areTwo_28 : decode cX10_areTwo 28 = .ok (.goto 4, 3) := by decide +kernel
theorem dX10_areTwo_31 : decode cX10_areTwo 31 = .ok (.iconst 0, 1) := by decide +kernel
theorem dX10_areTwo_32 : decode cX10_areTwo 32 = .ok (.ireturn, 1) := by decide +kernel
theorem dX10_within_0 : decode cX10_within 0 = .ok (.iload_n 0, 1) := by decide +kernel
theorem dX10_within_1 : decode cX10_within 1 = .ok (.iload_n 1, 1) := by decide +kernel
theorem dX10_within_2 : decode cX10_within 2 = .ok (.if_icmp .lt 12, 3) := by decide +kernel
theorem dX10_within_5 : decode cX10_within 5 = .ok (.iload_n 0, 1) := by decide +kernel
theorem dX10_within_6 : decode cX10_within 6 = .ok (.iload_n 2, 1) := by decide +kernel
theorem dX10_within_7 : decode cX10_within 7 = .ok (.if_icmp .gt 7, 3) := by decide +kernel
theorem dX10_within_10 : decode cX10_within 10 = .ok (.iconst 1, 1) := by decide +kernel
theorem dX10_within_11 : decode cX10_within 11 = .ok (.goto 4, 3) := by decide +kernel
theorem dX10_within_14 : decode cX10_within 14 = .ok (.iconst 0, 1) := by decide +kernel
theorem dX10_within_15 : decode cX10_within 15 = .ok (.ireturn, 1) := by decide +kernel
theorem dX10_isWay_0 : decode cX10_isWay 0 = .ok (.iload_n 0, 1) := by decide +kernel
theorem dX10_isWay_1 : decode cX10_isWay 1 = .ok (.iconst 0, 1) := by decide +kernel
theorem dX10_isWay_2 : decode cX10_isWay 2 = .ok (.bipush 23, 2) := by decide +kernel
theorem dX10_isWay_4 : decode cX10_isWay 4 = .ok (.invokestatic 70, 3) := by decide +kernel
theorem dX10_isWay_7 : decode cX10_isWay 7 = .ok (.ireturn, 1) := by decide +kernel
theorem dX10_isTick_0 : decode cX10_isTick 0 = .ok (.iload_n 0, 1) := by decide +kernel
theorem dX10_isTick_1 : decode cX10_isTick 1 = .ok (.iconst 0, 1) := by decide +kernel
theorem dX10_isTick_2 : decode cX10_isTick 2 = .ok (.bipush 60, 2) := by decide +kernel
theorem dX10_isTick_4 : decode cX10_isTick 4 = .ok (.invokestatic 70, 3) := by decide +kernel
theorem dX10_isTick_7 : decode cX10_isTick 7 = .ok (.ireturn, 1) := by decide +kernel
theorem dX10_isThrow_0 : decode cX10_isThrow 0 = .ok (.iload_n 0, 1) := by decide +kernel
theorem dX10_isThrow_1 : decode cX10_isThrow 1 = .ok (.iconst 0, 1) := by decide +kernel
theorem dX10_isThrow_2 : decode cX10_isThrow 2 = .ok (.sipush 200, 3) := by decide +kernel
theorem dX10_isThrow_5 : decode cX10_isThrow 5 = .ok (.invokestatic 70, 3) := by decide +kernel
theorem dX10_isThrow_8 : decode cX10_isThrow 8 = .ok (.ifCond .eq 14, 3) := by decide +kernel
theorem dX10_isThrow_11 : decode cX10_isThrow 11 = .ok (.iload_n 1, 1) := by decide +kernel
theorem dX10_isThrow_12 : decode cX10_isThrow 12 = .ok (.invokestatic 115, 3) := by decide +kernel
theorem dX10_isThrow_15 : decode cX10_isThrow 15 = .ok (.ifCond .eq 7, 3) := by decide +kernel
theorem dX10_isThrow_18 : decode cX10_isThrow 18 = .ok (.iconst 1, 1) := by decide +kernel
theorem dX10_isThrow_19 : decode cX10_isThrow 19 = .ok (.goto 4, 3) := by decide +kernel
theorem dX10_isThrow_22 : decode cX10_isThrow 22 = .ok (.iconst 0, 1) := by decide +kernel
theorem dX10_isThrow_23 : decode cX10_isThrow 23 = .ok (.ireturn, 1) := by decide +kernel
theorem dX10_isPlace_0 : decode cX10_isPlace 0 = .ok (.iload_n 0, 1) := by decide +kernel
theorem dX10_isPlace_1 : decode cX10_isPlace 1 = .ok (.sipush (-1000), 3) := by decide +kernel
theorem dX10_isPlace_4 : decode cX10_isPlace 4 = .ok (.sipush 1000, 3) := by decide +kernel
theorem dX10_isPlace_7 : decode cX10_isPlace 7 = .ok (.invokestatic 70, 3) := by decide +kernel
theorem dX10_isPlace_10 : decode cX10_isPlace 10 = .ok (.ifCond .eq 20, 3) := by decide +kernel
theorem dX10_isPlace_13 : decode cX10_isPlace 13 = .ok (.iload_n 1, 1) := by decide +kernel
theorem dX10_isPlace_14 : decode cX10_isPlace 14 = .ok (.sipush (-1000), 3) := by decide +kernel
theorem dX10_isPlace_17 : decode cX10_isPlace 17 = .ok (.sipush 1000, 3) := by decide +kernel
theorem dX10_isPlace_20 : decode cX10_isPlace 20 = .ok (.invokestatic 70, 3) := by decide +kernel
theorem dX10_isPlace_23 : decode cX10_isPlace 23 = .ok (.ifCond .eq 7, 3) := by decide +kernel
theorem dX10_isPlace_26 : decode cX10_isPlace 26 = .ok (.iconst 1, 1) := by decide +kernel
theorem dX10_isPlace_27 : decode cX10_isPlace 27 = .ok (.goto 4, 3) := by decide +kernel
theorem dX10_isPlace_30 : decode cX10_isPlace 30 = .ok (.iconst 0, 1) := by decide +kernel
theorem dX10_isPlace_31 : decode cX10_isPlace 31 = .ok (.ireturn, 1) := by decide +kernel
theorem dX10_isImage_0 : decode cX10_isImage 0 = .ok (.iload_n 0, 1) := by decide +kernel
theorem dX10_isImage_1 : decode cX10_isImage 1 = .ok (.iconst 0, 1) := by decide +kernel
theorem dX10_isImage_2 : decode cX10_isImage 2 = .ok (.iconst 1, 1) := by decide +kernel
theorem dX10_isImage_3 : decode cX10_isImage 3 = .ok (.invokestatic 70, 3) := by decide +kernel
theorem dX10_isImage_6 : decode cX10_isImage 6 = .ok (.ireturn, 1) := by decide +kernel
theorem dX10_lean_0 : decode cX10_lean 0 = .ok (.iload_n 0, 1) := by decide +kernel
theorem dX10_lean_1 : decode cX10_lean 1 = .ok (.iload_n 1, 1) := by decide +kernel
theorem dX10_lean_2 : decode cX10_lean 2 = .ok (.imul, 1) := by decide +kernel
theorem dX10_lean_3 : decode cX10_lean 3 = .ok (.iload_n 1, 1) := by decide +kernel
theorem dX10_lean_4 : decode cX10_lean 4 = .ok (.imul, 1) := by decide +kernel
theorem dX10_lean_5 : decode cX10_lean 5 = .ok (.sipush 1000, 3) := by decide +kernel
theorem dX10_lean_8 : decode cX10_lean 8 = .ok (.idiv, 1) := by decide +kernel
theorem dX10_lean_9 : decode cX10_lean 9 = .ok (.ireturn, 1) := by decide +kernel
theorem dX11_init_0 : decode cX11_init 0 = .ok (.aload_n 0, 1) := by decide +kernel
theorem dX11_init_1 : decode cX11_init 1 = .ok (.invokespecial 1, 3) := by decide +kernel
theorem dX11_init_4 : decode cX11_init 4 = .ok (.aload_n 0, 1) := by decide +kernel
theorem dX11_init_5 : decode cX11_init 5 = .ok (.bipush 24, 2) := by decide +kernel
theorem dX11_init_7 : decode cX11_init 7 = .ok (.newarray .int, 2) := by decide +kernel
theorem dX11_init_9 : decode cX11_init 9 = .ok (.putfield 7, 3) := by decide +kernel
theorem dX11_init_12 : decode cX11_init 12 = .ok (.aload_n 0, 1) := by decide +kernel
theorem dX11_init_13 : decode cX11_init 13 = .ok (.iconst 5, 1) := by decide +kernel
theorem dX11_init_14 : decode cX11_init 14 = .ok (.newarray .int, 2) := by decide +kernel
theorem dX11_init_16 : decode cX11_init 16 = .ok (.putfield 13, 3) := by decide +kernel
theorem dX11_init_19 : decode cX11_init 19 = .ok (.aload_n 0, 1) := by decide +kernel
theorem dX11_init_20 : decode cX11_init 20 = .ok (.bipush 62, 2) := by decide +kernel
theorem dX11_init_22 : decode cX11_init 22 = .ok (.newarray .int, 2) := by decide +kernel
theorem dX11_init_24 : decode cX11_init 24 = .ok (.putfield 16, 3) := by decide +kernel
theorem dX11_init_27 : decode cX11_init 27 = .ok (.aload_n 0, 1) := by decide +kernel
theorem dX11_init_28 : decode cX11_init 28 = .ok (.bipush 62, 2) := by decide +kernel
theorem dX11_init_30 : decode cX11_init 30 = .ok (.newarray .int, 2) := by decide +kernel
theorem dX11_init_32 : decode cX11_init 32 = .ok (.putfield 19, 3) := by decide +kernel
theorem dX11_init_35 : decode cX11_init 35 = .ok (.aload_n 0, 1) := by decide +kernel
theorem dX11_init_36 : decode cX11_init 36 = .ok (.bipush 40, 2) := by decide +kernel
theorem dX11_init_38 : decode cX11_init 38 = .ok (.newarray .int, 2) := by decide +kernel
theorem dX11_init_40 : decode cX11_init 40 = .ok (.putfield 22, 3) := by decide +kernel
theorem dX11_init_43 : decode cX11_init 43 = .ok (.aload_n 0, 1) := by decide +kernel
theorem dX11_init_44 : decode cX11_init 44 = .ok (.bipush 20, 2) := by decide +kernel
theorem dX11_init_46 : decode cX11_init 46 = .ok (.newarray .int, 2) := by decide +kernel
theorem dX11_init_48 : decode cX11_init 48 = .ok (.putfield 25, 3) := by decide +kernel
theorem dX11_init_51 : decode cX11_init 51 = .ok (.aload_n 0, 1) := by decide +kernel
theorem dX11_init_52 : decode cX11_init 52 = .ok (.bipush 20, 2) := by decide +kernel
theorem dX11_init_54 : decode cX11_init 54 = .ok (.newarray .int, 2) := by decide +kernel
theorem dX11_init_56 : decode cX11_init 56 = .ok (.putfield 28, 3) := by decide +kernel
theorem dX11_init_59 : decode cX11_init 59 = .ok (.aload_n 0, 1) := by decide +kernel
theorem dX11_init_60 : decode cX11_init 60 = .ok (.bipush 8, 2) := by decide +kernel
theorem dX11_init_62 : decode cX11_init 62 = .ok (.newarray .int, 2) := by decide +kernel
theorem dX11_init_64 : decode cX11_init 64 = .ok (.putfield 31, 3) := by decide +kernel
theorem dX11_init_67 : decode cX11_init 67 = .ok (.aload_n 0, 1) := by decide +kernel
theorem dX11_init_68 : decode cX11_init 68 = .ok (.bipush 8, 2) := by decide +kernel
theorem dX11_init_70 : decode cX11_init 70 = .ok (.newarray .int, 2) := by decide +kernel
theorem dX11_init_72 : decode cX11_init 72 = .ok (.putfield 34, 3) := by decide +kernel
theorem dX11_init_75 : decode cX11_init 75 = .ok (.aload_n 0, 1) := by decide +kernel
theorem dX11_init_76 : decode cX11_init 76 = .ok (.sipush 1488, 3) := by decide +kernel
theorem dX11_init_79 : decode cX11_init 79 = .ok (.newarray .boolean, 2) := by decide +kernel
theorem dX11_init_81 : decode cX11_init 81 = .ok (.putfield 37, 3) := by decide +kernel
theorem dX11_init_84 : decode cX11_init 84 = .ok (.aload_n 0, 1) := by decide +kernel
theorem dX11_init_85 : decode cX11_init 85 = .ok (.bipush 21, 2) := by decide +kernel
theorem dX11_init_87 : decode cX11_init 87 = .ok (.newarray .int, 2) := by decide +kernel
theorem dX11_init_89 : decode cX11_init 89 = .ok (.putfield 41, 3) := by decide +kernel
theorem dX11_init_92 : decode cX11_init 92 = .ok (.aload_n 0, 1) := by decide +kernel
theorem dX11_init_93 : decode cX11_init 93 = .ok (.bipush 21, 2) := by decide +kernel
theorem dX11_init_95 : decode cX11_init 95 = .ok (.newarray .int, 2) := by decide +kernel
theorem dX11_init_97 : decode cX11_init 97 = .ok (.putfield 44, 3) := by decide +kernel
theorem dX11_init_100 : decode cX11_init 100 = .ok (.aload_n 0, 1) := by decide +kernel
theorem dX11_init_101 : decode cX11_init 101 = .ok (.bipush 24, 2) := by decide +kernel
theorem dX11_init_103 : decode cX11_init 103 = .ok (.newarray .int, 2) := by decide +kernel
theorem dX11_init_105 : decode cX11_init 105 = .ok (.putfield 47, 3) := by decide +kernel
theorem dX11_init_108 : decode cX11_init 108 = .ok (.aload_n 0, 1) := by decide +kernel
theorem dX11_init_109 : decode cX11_init 109 = .ok (.bipush 24, 2) := by decide +kernel
theorem dX11_init_111 : decode cX11_init 111 = .ok (.newarray .int, 2) := by decide +kernel
theorem dX11_init_113 : decode cX11_init 113 = .ok (.putfield 50, 3) := by decide +kernel
theorem dX11_init_116 : decode cX11_init 116 = .ok (.aload_n 0, 1) := by decide +kernel
theorem dX11_init_117 : decode cX11_init 117 = .ok (.bipush 24, 2) := by decide +kernel
theorem dX11_init_119 : decode cX11_init 119 = .ok (.newarray .int, 2) := by decide +kernel
theorem dX11_init_121 : decode cX11_init 121 = .ok (.putfield 53, 3) := by decide +kernel
theorem dX11_init_124 : decode cX11_init 124 = .ok (.aload_n 0, 1) := by decide +kernel
theorem dX11_init_125 : decode cX11_init 125 = .ok (.bipush 24, 2) := by decide +kernel
theorem dX11_init_127 : decode cX11_init 127 = .ok (.newarray .int, 2) := by decide +kernel
theorem dX11_init_129 : decode cX11_init 129 = .ok (.putfield 56, 3) := by decide +kernel
theorem dX11_init_132 : decode cX11_init 132 = .ok (.aload_n 0, 1) := by decide +kernel
theorem dX11_init_133 : decode cX11_init 133 = .ok (.sipush 280, 3) := by decide +kernel
theorem dX11_init_136 : decode cX11_init 136 = .ok (.newarray .int, 2) := by decide +kernel
theorem dX11_init_138 : decode cX11_init 138 = .ok (.putfield 59, 3) := by decide +kernel
theorem dX11_init_141 : decode cX11_init 141 = .ok (.aload_n 0, 1) := by decide +kernel
theorem dX11_init_142 : decode cX11_init 142 = .ok (.iconst 2, 1) := by decide +kernel
theorem dX11_init_143 : decode cX11_init 143 = .ok (.newarray .boolean, 2) := by decide +kernel
theorem dX11_init_145 : decode cX11_init 145 = .ok (.putfield 62, 3) := by decide +kernel
theorem dX11_init_148 : decode cX11_init 148 = .ok (.aload_n 0, 1) := by decide +kernel
theorem dX11_init_149 : decode cX11_init 149 = .ok (.getfield 13, 3) := by decide +kernel
theorem dX11_init_152 : decode cX11_init 152 = .ok (.iconst 0, 1) := by decide +kernel
theorem dX11_init_153 : decode cX11_init 153 = .ok (.bipush 10, 2) := by decide +kernel
theorem dX11_init_155 : decode cX11_init 155 = .ok (.iastore, 1) := by decide +kernel
theorem dX11_init_156 : decode cX11_init 156 = .ok (.aload_n 0, 1) := by decide +kernel
theorem dX11_init_157 : decode cX11_init 157 = .ok (.getfield 13, 3) := by decide +kernel
theorem dX11_init_160 : decode cX11_init 160 = .ok (.iconst 2, 1) := by decide +kernel
theorem dX11_init_161 : decode cX11_init 161 = .ok (.bipush 30, 2) := by decide +kernel
theorem dX11_init_163 : decode cX11_init 163 = .ok (.iastore, 1) := by decide +kernel
theorem dX11_init_164 : decode cX11_init 164 = .ok (.aload_n 0, 1) := by decide +kernel
theorem dX11_init_165 : decode cX11_init 165 = .ok (.getfield 13, 3) := by decide +kernel
theorem dX11_init_168 : decode cX11_init 168 = .ok (.iconst 3, 1) := by decide +kernel
theorem dX11_init_169 : decode cX11_init 169 = .ok (.bipush 20, 2) := by decide +kernel
theorem dX11_init_171 : decode cX11_init 171 = .ok (.iastore, 1) := by decide +kernel
theorem dX11_init_172 : decode cX11_init 172 = .ok (.aload_n 0, 1) := by decide +kernel
theorem dX11_init_173 : decode cX11_init 173 = .ok (.getfield 13, 3) := by decide +kernel
theorem dX11_init_176 : decode cX11_init 176 = .ok (.iconst 4, 1) := by decide +kernel
theorem dX11_init_177 : decode cX11_init 177 = .ok (.sipush 500, 3) := by decide +kernel
theorem dX11_init_180 : decode cX11_init 180 = .ok (.iastore, 1) := by decide +kernel
theorem dX11_init_181 : decode cX11_init 181 = .ok (.aload_n 0, 1) := by decide +kernel
theorem dX11_init_182 : decode cX11_init 182 = .ok (.getfield 7, 3) := by decide +kernel
theorem dX11_init_185 : decode cX11_init 185 = .ok (.iconst 0, 1) := by decide +kernel
theorem dX11_init_186 : decode cX11_init 186 = .ok (.iconst 0, 1) := by decide +kernel
theorem dX11_init_187 : decode cX11_init 187 = .ok (.iastore, 1) := by decide +kernel
theorem dX11_init_188 : decode cX11_init 188 = .ok (.aload_n 0, 1) := by decide +kernel
theorem dX11_init_189 : decode cX11_init 189 = .ok (.getfield 7, 3) := by decide +kernel
theorem dX11_init_192 : decode cX11_init 192 = .ok (.iconst 1, 1) := by decide +kernel
theorem dX11_init_193 : decode cX11_init 193 = .ok (.sipush 2588, 3) := by decide +kernel
theorem dX11_init_196 : decode cX11_init 196 = .ok (.iastore, 1) := by decide +kernel
theorem dX11_init_197 : decode cX11_init 197 = .ok (.aload_n 0, 1) := by decide +kernel
theorem dX11_init_198 : decode cX11_init 198 = .ok (.getfield 7, 3) := by decide +kernel
theorem dX11_init_201 : decode cX11_init 201 = .ok (.iconst 2, 1) := by decide +kernel
theorem dX11_init_202 : decode cX11_init 202 = .ok (.sipush 5000, 3) := by decide +kernel
theorem dX11_init_205 : decode cX11_init 205 = .ok (.iastore, 1) := by decide +kernel
theorem dX11_init_206 : decode cX11_init 206 = .ok (.aload_n 0, 1) := by decide +kernel
theorem dX11_init_207 : decode cX11_init 207 = .ok (.getfield 7, 3) := by decide +kernel
theorem dX11_init_210 : decode cX11_init 210 = .ok (.iconst 3, 1) := by decide +kernel
theorem dX11_init_211 : decode cX11_init 211 = .ok (.sipush 7071, 3) := by decide +kernel
theorem dX11_init_214 : decode cX11_init 214 = .ok (.iastore, 1) := by decide +kernel
theorem dX11_init_215 : decode cX11_init 215 = .ok (.aload_n 0, 1) := by decide +kernel
theorem dX11_init_216 : decode cX11_init 216 = .ok (.getfield 7, 3) := by decide +kernel
theorem dX11_init_219 : decode cX11_init 219 = .ok (.iconst 4, 1) := by decide +kernel
theorem dX11_init_220 : decode cX11_init 220 = .ok (.sipush 8660, 3) := by decide +kernel
theorem dX11_init_223 : decode cX11_init 223 = .ok (.iastore, 1) := by decide +kernel
theorem dX11_init_224 : decode cX11_init 224 = .ok (.aload_n 0, 1) := by decide +kernel
theorem dX11_init_225 : decode cX11_init 225 = .ok (.getfield 7, 3) := by decide +kernel
theorem dX11_init_228 : decode cX11_init 228 = .ok (.iconst 5, 1) := by decide +kernel
theorem dX11_init_229 : decode cX11_init 229 = .ok (.sipush 9659, 3) := by decide +kernel
theorem dX11_init_232 : decode cX11_init 232 = .ok (.iastore, 1) := by decide +kernel
theorem dX11_init_233 : decode cX11_init 233 = .ok (.aload_n 0, 1) := by decide +kernel
theorem dX11_init_234 : decode cX11_init 234 = .ok (.getfield 7, 3) := by decide +kernel
theorem dX11_init_237 : decode cX11_init 237 = .ok (.bipush 6, 2) := by decide +kernel
theorem dX11_init_239 : decode cX11_init 239 = .ok (.sipush 10000, 3) := by decide +kernel
theorem dX11_init_242 : decode cX11_init 242 = .ok (.iastore, 1) := by decide +kernel
theorem dX11_init_243 : decode cX11_init 243 = .ok (.bipush 7, 2) := by decide +kernel
theorem dX11_init_245 : decode cX11_init 245 = .ok (.istore_n 1, 1) := by decide +kernel
theorem dX11_init_246 : decode cX11_init 246 = .ok (.iload_n 1, 1) := by decide +kernel
theorem dX11_init_247 : decode cX11_init 247 = .ok (.bipush 12, 2) := by decide +kernel
theorem dX11_init_249 : decode cX11_init 249 = .ok (.if_icmp .gt 24, 3) := by decide +kernel
theorem dX11_init_252 : decode cX11_init 252 = .ok (.aload_n 0, 1) := by decide +kernel
theorem dX11_init_253 : decode cX11_init 253 = .ok (.getfield 7, 3) := by decide +kernel
theorem dX11_init_256 : decode cX11_init 256 = .ok (.iload_n 1, 1) := by decide +kernel
theorem dX11_init_257 : decode cX11_init 257 = .ok (.aload_n 0, 1) := by decide +kernel
theorem dX11_init_258 : decode cX11_init 258 = .ok (.getfield 7, 3) := by decide +kernel
theorem dX11_init_261 : decode cX11_init 261 = .ok (.bipush 12, 2) := by decide +kernel
theorem dX11_init_263 : decode cX11_init 263 = .ok (.iload_n 1, 1) := by decide +kernel
theorem dX11_init_264 : decode cX11_init 264 = .ok (.isub, 1) := by decide +kernel
theorem dX11_init_265 : decode cX11_init 265 = .ok (.iaload, 1) := by decide +kernel
theorem dX11_init_266 : decode cX11_init 266 = .ok (.iastore, 1) := by decide +kernel
theorem dX11_init_267 : decode cX11_init 267 = .ok (.iinc 1 1, 3) := by decide +kernel
theorem dX11_init_270 : decode cX11_init 270 = .ok (.goto (-24), 3) := by decide +kernel
theorem dX11_init_273 : decode cX11_init 273 = .ok (.bipush 13, 2) := by decide +kernel
theorem dX11_init_275 : decode cX11_init 275 = .ok (.istore_n 1, 1) := by decide +kernel
theorem dX11_init_276 : decode cX11_init 276 = .ok (.iload_n 1, 1) := by decide +kernel
theorem dX11_init_277 : decode cX11_init 277 = .ok (.bipush 24, 2) := by decide +kernel
theorem dX11_init_279 : decode cX11_init 279 = .ok (.if_icmp .ge 25, 3) := by decide +kernel
theorem dX11_init_282 : decode cX11_init 282 = .ok (.aload_n 0, 1) := by decide +kernel
theorem dX11_init_283 : decode cX11_init 283 = .ok (.getfield 7, 3) := by decide +kernel
theorem dX11_init_286 : decode cX11_init 286 = .ok (.iload_n 1, 1) := by decide +kernel
theorem dX11_init_287 : decode cX11_init 287 = .ok (.aload_n 0, 1) := by decide +kernel
theorem dX11_init_288 : decode cX11_init 288 = .ok (.getfield 7, 3) := by decide +kernel
theorem dX11_init_291 : decode cX11_init 291 = .ok (.iload_n 1, 1) := by decide +kernel
theorem dX11_init_292 : decode cX11_init 292 = .ok (.bipush 12, 2) := by decide +kernel
theorem dX11_init_294 : decode cX11_init 294 = .ok (.isub, 1) := by decide +kernel
theorem dX11_init_295 : decode cX11_init 295 = .ok (.iaload, 1) := by decide +kernel
theorem dX11_init_296 : decode cX11_init 296 = .ok (.ineg, 1) := by decide +kernel
theorem dX11_init_297 : decode cX11_init 297 = .ok (.iastore, 1) := by decide +kernel
theorem dX11_init_298 : decode cX11_init 298 = .ok (.iinc 1 1, 3) := by decide +kernel
theorem dX11_init_301 : decode cX11_init 301 = .ok (.goto (-25), 3) := by decide +kernel
theorem dX11_init_304 : decode cX11_init 304 = .ok (.return_, 1) := by decide +kernel
theorem dX11_in_0 : decode cX11_in 0 = .ok (.lload_n 0, 1) := by decide +kernel
theorem dX11_in_1 : decode cX11_in 1 = .ok (.lload_n 2, 1) := by decide +kernel
theorem dX11_in_2 : decode cX11_in 2 = .ok (.lcmp, 1) := by decide +kernel
theorem dX11_in_3 : decode cX11_in 3 = .ok (.ifCond .lt 14, 3) := by decide +kernel
theorem dX11_in_6 : decode cX11_in 6 = .ok (.lload_n 0, 1) := by decide +kernel
theorem dX11_in_7 : decode cX11_in 7 = .ok (.lload 4, 2) := by decide +kernel
theorem dX11_in_9 : decode cX11_in 9 = .ok (.lcmp, 1) := by decide +kernel
theorem dX11_in_10 : decode cX11_in 10 = .ok (.ifCond .gt 7, 3) := by decide +kernel
theorem dX11_in_13 : decode cX11_in 13 = .ok (.iconst 1, 1) := by decide +kernel
theorem dX11_in_14 : decode cX11_in 14 = .ok (.goto 4, 3) := by decide +kernel
theorem dX11_in_17 : decode cX11_in 17 = .ok (.iconst 0, 1) := by decide +kernel
theorem dX11_in_18 : decode cX11_in 18 = .ok (.ireturn, 1) := by decide +kernel
theorem dX11_size_0 : decode cX11_size 0 = .ok (.iload_n 0, 1) := by decide +kernel
theorem dX11_size_1 : decode cX11_size 1 = .ok (.ifCond .ge 8, 3) := by decide +kernel
theorem dX11_size_4 : decode cX11_size 4 = .ok (.iload_n 0, 1) := by decide +kernel
theorem dX11_size_5 : decode cX11_size 5 = .ok (.ineg, 1) := by decide +kernel
theorem dX11_size_6 : decode cX11_size 6 = .ok (.goto 4, 3) := by decide +kernel
theorem dX11_size_9 : decode cX11_size 9 = .ok (.iload_n 0, 1) := by decide +kernel
theorem dX11_size_10 : decode cX11_size 10 = .ok (.ireturn, 1) := by decide +kernel
theorem dX11_isWay_0 : decode cX11_isWay 0 = .ok (.iload_n 0, 1) := by decide +kernel
theorem dX11_isWay_1 : decode cX11_isWay 1 = .ok (.i2l, 1) := by decide +kernel
theorem dX11_isWay_2 : decode cX11_isWay 2 = .ok (.lconst 0, 1) := by decide +kernel
theorem dX11_isWay_3 : decode cX11_isWay 3 = .ok (.ldc2_w 65, 3) := by decide +kernel
theorem dX11_isWay_6 : decode cX11_isWay 6 = .ok (.invokestatic 67, 3) := by decide +kernel
theorem dX11_isWay_9 : decode cX11_isWay 9 = .ok (.ireturn, 1) := by decide +kernel
theorem dX11_isTick_0 : decode cX11_isTick 0 = .ok (.iload_n 0, 1) := by decide +kernel
theorem dX11_isTick_1 : decode cX11_isTick 1 = .ok (.i2l, 1) := by decide +kernel
theorem dX11_isTick_2 : decode cX11_isTick 2 = .ok (.lconst 0, 1) := by decide +kernel
theorem dX11_isTick_3 : decode cX11_isTick 3 = .ok (.ldc2_w 71, 3) := by decide +kernel
theorem dX11_isTick_6 : decode cX11_isTick 6 = .ok (.invokestatic 67, 3) := by decide +kernel
theorem dX11_isTick_9 : decode cX11_isTick 9 = .ok (.ireturn, 1) := by decide +kernel
theorem dX11_isEnd_0 : decode cX11_isEnd 0 = .ok (.iload_n 0, 1) := by decide +kernel
theorem dX11_isEnd_1 : decode cX11_isEnd 1 = .ok (.i2l, 1) := by decide +kernel
theorem dX11_isEnd_2 : decode cX11_isEnd 2 = .ok (.lconst 0, 1) := by decide +kernel
theorem dX11_isEnd_3 : decode cX11_isEnd 3 = .ok (.lconst 1, 1) := by decide +kernel
theorem dX11_isEnd_4 : decode cX11_isEnd 4 = .ok (.invokestatic 67, 3) := by decide +kernel
theorem dX11_isEnd_7 : decode cX11_isEnd 7 = .ok (.ireturn, 1) := by decide +kernel
theorem dX11_turnPoint_0 : decode cX11_turnPoint 0 = .ok (.aload_n 0, 1) := by decide +kernel
theorem dX11_turnPoint_1 : decode cX11_turnPoint 1 = .ok (.getfield 7, 3) := by decide +kernel
theorem dX11_turnPoint_4 : decode cX11_turnPoint 4 = .ok (.iload_n 3, 1) := by decide +kernel
theorem dX11_turnPoint_5 : decode cX11_turnPoint 5 = .ok (.iaload, 1) := by decide +kernel
theorem dX11_turnPoint_6 : decode cX11_turnPoint 6 = .ok (.i2l, 1) := by decide +kernel
theorem dX11_turnPoint_7 : decode cX11_turnPoint 7 = .ok (.lstore 4, 2) := by decide +kernel
theorem dX11_turnPoint_9 : decode cX11_turnPoint 9 = .ok (.aload_n 0, 1) := by decide +kernel
theorem dX11_turnPoint_10 : decode cX11_turnPoint 10 = .ok (.getfield 7, 3) := by decide +kernel
theorem dX11_turnPoint_13 : decode cX11_turnPoint 13 = .ok (.iload_n 3, 1) := by decide +kernel
theorem dX11_turnPoint_14 : decode cX11_turnPoint 14 = .ok (.bipush 6, 2) := by decide +kernel
theorem dX11_turnPoint_16 : decode cX11_turnPoint 16 = .ok (.iadd, 1) := by decide +kernel
theorem dX11_turnPoint_17 : decode cX11_turnPoint 17 = .ok (.bipush 24, 2) := by decide +kernel
theorem dX11_turnPoint_19 : decode cX11_turnPoint 19 = .ok (.irem, 1) := by decide +kernel
theorem dX11_turnPoint_20 : decode cX11_turnPoint 20 = .ok (.iaload, 1) := by decide +kernel
theorem dX11_turnPoint_21 : decode cX11_turnPoint 21 = .ok (.i2l, 1) := by decide +kernel
theorem dX11_turnPoint_22 : decode cX11_turnPoint 22 = .ok (.lstore 6, 2) := by decide +kernel
theorem dX11_turnPoint_24 : decode cX11_turnPoint 24 = .ok (.aload_n 0, 1) := by decide +kernel
theorem dX11_turnPoint_25 : decode cX11_turnPoint 25 = .ok (.iload_n 1, 1) := by decide +kernel
theorem dX11_turnPoint_26 : decode cX11_turnPoint 26 = .ok (.i2l, 1) := by decide +kernel
theorem dX11_turnPoint_27 : decode cX11_turnPoint 27 = .ok (.lload 6, 2) := by decide +kernel
theorem dX11_turnPoint_29 : decode cX11_turnPoint 29 = .ok (.lmul, 1) := by decide +kernel
theorem dX11_turnPoint_30 : decode cX11_turnPoint 30 = .ok (.iload_n 2, 1) := by decide +kernel
theorem dX11_turnPoint_31 : decode cX11_turnPoint 31 = .ok (.i2l, 1) := by decide +kernel
theorem dX11_turnPoint_32 : decode cX11_turnPoint 32 = .ok (.lload 4, 2) := by decide +kernel
theorem dX11_turnPoint_34 : decode cX11_turnPoint 34 = .ok (.lmul, 1) := by decide +kernel
theorem dX11_turnPoint_35 : decode cX11_turnPoint 35 = .ok (.lsub, 1) := by decide +kernel
theorem dX11_turnPoint_36 : decode cX11_turnPoint 36 = .ok (.ldc2_w 73, 3) := by decide +kernel
theorem dX11_turnPoint_39 : decode cX11_turnPoint 39 = .ok (.ldiv, 1) := by decide +kernel
theorem dX11_turnPoint_40 : decode cX11_turnPoint 40 = .ok (.l2i, 1) := by decide +kernel
theorem dX11_turnPoint_41 : decode cX11_turnPoint 41 = .ok (.putfield 75, 3) := by decide +kernel
theorem dX11_turnPoint_44 : decode cX11_turnPoint 44 = .ok (.aload_n 0, 1) := by decide +kernel
theorem dX11_turnPoint_45 : decode cX11_turnPoint 45 = .ok (.iload_n 1, 1) := by decide +kernel
theorem dX11_turnPoint_46 : decode cX11_turnPoint 46 = .ok (.i2l, 1) := by decide +kernel
theorem dX11_turnPoint_47 : decode cX11_turnPoint 47 = .ok (.lload 4, 2) := by decide +kernel
theorem dX11_turnPoint_49 : decode cX11_turnPoint 49 = .ok (.lmul, 1) := by decide +kernel
theorem dX11_turnPoint_50 : decode cX11_turnPoint 50 = .ok (.iload_n 2, 1) := by decide +kernel
theorem dX11_turnPoint_51 : decode cX11_turnPoint 51 = .ok (.i2l, 1) := by decide +kernel
theorem dX11_turnPoint_52 : decode cX11_turnPoint 52 = .ok (.lload 6, 2) := by decide +kernel
theorem dX11_turnPoint_54 : decode cX11_turnPoint 54 = .ok (.lmul, 1) := by decide +kernel
theorem dX11_turnPoint_55 : decode cX11_turnPoint 55 = .ok (.ladd, 1) := by decide +kernel
theorem dX11_turnPoint_56 : decode cX11_turnPoint 56 = .ok (.ldc2_w 73, 3) := by decide +kernel
theorem dX11_turnPoint_59 : decode cX11_turnPoint 59 = .ok (.ldiv, 1) := by decide +kernel
theorem dX11_turnPoint_60 : decode cX11_turnPoint 60 = .ok (.l2i, 1) := by decide +kernel
theorem dX11_turnPoint_61 : decode cX11_turnPoint 61 = .ok (.putfield 79, 3) := by decide +kernel
theorem dX11_turnPoint_64 : decode cX11_turnPoint 64 = .ok (.return_, 1) := by decide +kernel
theorem dX11_set_0 : decode cX11_set 0 = .ok (.iload_n 1, 1) := by decide +kernel
theorem dX11_set_1 : decode cX11_set 1 = .ok (.ifCond .ne 7, 3) := by decide +kernel
theorem dX11_set_4 : decode cX11_set 4 = .ok (.iconst 1, 1) := by decide +kernel
theorem dX11_set_5 : decode cX11_set 5 = .ok (.goto 14, 3) := by decide +kernel
theorem dX11_set_8 : decode cX11_set 8 = .ok (.iload_n 1, 1) := by decide +kernel
theorem dX11_set_9 : decode cX11_set 9 = .ok (.iconst 4, 1) := by decide +kernel
theorem dX11_set_10 : decode cX11_set 10 = .ok (.if_icmp .ne 8, 3) := by decide +kernel
theorem dX11_set_13 : decode cX11_set 13 = .ok (.bipush 100, 2) := by decide +kernel
theorem dX11_set_15 : decode cX11_set 15 = .ok (.goto 4, 3) := by decide +kernel
theorem dX11_set_18 : decode cX11_set 18 = .ok (.iconst 0, 1) := by decide +kernel
theorem dX11_set_19 : decode cX11_set 19 = .ok (.istore_n 3, 1) := by decide +kernel
theorem dX11_set_20 : decode cX11_set 20 = .ok (.iload_n 1, 1) := by decide +kernel
theorem dX11_set_21 : decode cX11_set 21 = .ok (.ifCond .ne 9, 3) := by decide +kernel
theorem dX11_set_24 : decode cX11_set 24 = .ok (.sipush 199, 3) := by decide +kernel
theorem dX11_set_27 : decode cX11_set 27 = .ok (.goto 37, 3) := by decide +kernel
theorem dX11_set_30 : decode cX11_set 30 = .ok (.iload_n 1, 1) := by decide +kernel
theorem dX11_set_31 : decode cX11_set 31 = .ok (.iconst 1, 1) := by decide +kernel
theorem dX11_set_32 : decode cX11_set 32 = .ok (.if_icmp .ne 8, 3) := by decide +kernel
theorem dX11_set_35 : decode cX11_set 35 = .ok (.bipush 9, 2) := by decide +kernel
theorem dX11_set_37 : decode cX11_set 37 = .ok (.goto 27, 3) := by decide +kernel
theorem dX11_set_40 : decode cX11_set 40 = .ok (.iload_n 1, 1) := by decide +kernel
theorem dX11_set_41 : decode cX11_set 41 = .ok (.iconst 2, 1) := by decide +kernel
theorem dX11_set_42 : decode cX11_set 42 = .ok (.if_icmp .ne 9, 3) := by decide +kernel
theorem dX11_set_45 : decode cX11_set 45 = .ok (.sipush 200, 3) := by decide +kernel
theorem dX11_set_48 : decode cX11_set 48 = .ok (.goto 16, 3) := by decide +kernel
theorem dX11_set_51 : decode cX11_set 51 = .ok (.iload_n 1, 1) := by decide +kernel
theorem dX11_set_52 : decode cX11_set 52 = .ok (.iconst 3, 1) := by decide +kernel
theorem dX11_set_53 : decode cX11_set 53 = .ok (.if_icmp .ne 8, 3) := by decide +kernel
theorem dX11_set_56 : decode cX11_set 56 = .ok (.bipush 100, 2) := by decide +kernel
theorem dX11_set_58 : decode cX11_set 58 = .ok (.goto 6, 3) := by decide +kernel
theorem dX11_set_61 : decode cX11_set 61 = .ok (.sipush 1000, 3) := by decide +kernel
theorem dX11_set_64 : decode cX11_set 64 = .ok (.istore 4, 2) := by decide +kernel
theorem dX11_set_66 : decode cX11_set 66 = .ok (.iload_n 1, 1) := by decide +kernel
theorem dX11_set_67 : decode cX11_set 67 = .ok (.i2l, 1) := by decide +kernel
theorem dX11_set_68 : decode cX11_set 68 = .ok (.lconst 0, 1) := by decide +kernel
theorem dX11_set_69 : decode cX11_set 69 = .ok (.ldc2_w 82, 3) := by decide +kernel
theorem dX11_set_72 : decode cX11_set 72 = .ok (.invokestatic 67, 3) := by decide +kernel
theorem dX11_set_75 : decode cX11_set 75 = .ok (.ifCond .eq 16, 3) := by decide +kernel
theorem dX11_set_78 : decode cX11_set 78 = .ok (.iload_n 2, 1) := by decide +kernel
theorem dX11_set_79 : decode cX11_set 79 = .ok (.i2l, 1) := by decide +kernel
theorem dX11_set_80 : decode cX11_set 80 = .ok (.iload_n 3, 1) := by decide +kernel
theorem dX11_set_81 : decode cX11_set 81 = .ok (.i2l, 1) := by decide +kernel
theorem dX11_set_82 : decode cX11_set 82 = .ok (.iload 4, 2) := by decide +kernel
theorem dX11_set_84 : decode cX11_set 84 = .ok (.i2l, 1) := by decide +kernel
theorem dX11_set_85 : decode cX11_set 85 = .ok (.invokestatic 67, 3) := by decide +kernel
theorem dX11_set_88 : decode cX11_set 88 = .ok (.ifCond .ne 6, 3) := by decide +kernel
theorem dX11_set_91 : decode cX11_set 91 = .ok (.bipush (-2), 2) := by decide +kernel
theorem dX11_set_93 : decode cX11_set 93 = .ok (.ireturn, 1) := by decide +kernel
theorem dX11_set_94 : decode cX11_set 94 = .ok (.aload_n 0, 1) := by decide +kernel
theorem dX11_set_95 : decode cX11_set 95 = .ok (.iload_n 1, 1) := by decide +kernel
theorem dX11_set_96 : decode cX11_set 96 = .ok (.invokevirtual 84, 3) := by decide +kernel
theorem dX11_set_99 : decode cX11_set 99 = .ok (.istore 5, 2) := by decide +kernel
theorem dX11_set_101 : decode cX11_set 101 = .ok (.aload_n 0, 1) := by decide +kernel
theorem dX11_set_102 : decode cX11_set 102 = .ok (.getfield 13, 3) := by decide +kernel
theorem dX11_set_105 : decode cX11_set 105 = .ok (.iload_n 1, 1) := by decide +kernel
theorem dX11_set_106 : decode cX11_set 106 = .ok (.iload_n 1, 1) := by decide +kernel
theorem dX11_set_107 : decode cX11_set 107 = .ok (.ifCond .ne 10, 3) := by decide +kernel
theorem dX11_set_110 : decode cX11_set 110 = .ok (.iload_n 2, 1) := by decide +kernel
theorem dX11_set_111 : decode cX11_set 111 = .ok (.bipush 100, 2) := by decide +kernel
theorem dX11_set_113 : decode cX11_set 113 = .ok (.isub, 1) := by decide +kernel
theorem dX11_set_114 : decode cX11_set 114 = .ok (.goto 4, 3) := by decide +kernel
theorem dX11_set_117 : decode cX11_set 117 = .ok (.iload_n 2, 1) := by decide +kernel
theorem dX11_set_118 : decode cX11_set 118 = .ok (.iastore, 1) := by decide +kernel
theorem dX11_set_119 : decode cX11_set 119 = .ok (.iload 5, 2) := by decide +kernel
theorem dX11_set_121 : decode cX11_set 121 = .ok (.ireturn, 1) := by decide +kernel
theorem dX11_setNow_0 : decode cX11_setNow 0 = .ok (.iload_n 1, 1) := by decide +kernel
theorem dX11_setNow_1 : decode cX11_setNow 1 = .ok (.ifCond .ne 15, 3) := by decide +kernel
theorem dX11_setNow_4 : decode cX11_setNow 4 = .ok (.aload_n 0, 1) := by decide +kernel
theorem dX11_setNow_5 : decode cX11_setNow 5 = .ok (.getfield 13, 3) := by decide +kernel
theorem dX11_setNow_8 : decode cX11_setNow 8 = .ok (.iconst 0, 1) := by decide +kernel
theorem dX11_setNow_9 : decode cX11_setNow 9 = .ok (.iaload, 1) := by decide +kernel
theorem dX11_setNow_10 : decode cX11_setNow 10 = .ok (.bipush 100, 2) := by decide +kernel
theorem dX11_setNow_12 : decode cX11_setNow 12 = .ok (.iadd, 1) := by decide +kernel
theorem dX11_setNow_13 : decode cX11_setNow 13 = .ok (.goto 9, 3) := by decide +kernel
theorem dX11_setNow_16 : decode cX11_setNow 16 = .ok (.aload_n 0, 1) := by decide +kernel
theorem dX11_setNow_17 : decode cX11_setNow 17 = .ok (.getfield 13, 3) := by decide +kernel
theorem dX11_setNow_20 : decode cX11_setNow 20 = .ok (.iload_n 1, 1) := by decide +kernel
theorem dX11_setNow_21 : decode cX11_setNow 21 = .ok (.iaload, 1) := by decide +kernel
theorem dX11_setNow_22 : decode cX11_setNow 22 = .ok (.ireturn, 1) := by decide +kernel
theorem dX11_say_0 : decode cX11_say 0 = .ok (.iload_n 1, 1) := by decide +kernel
theorem dX11_say_1 : decode cX11_say 1 = .ok (.i2l, 1) := by decide +kernel
theorem dX11_say_2 : decode cX11_say 2 = .ok (.ldc2_w 88, 3) := by decide +kernel
theorem dX11_say_5 : decode cX11_say 5 = .ok (.ldc2_w 90, 3) := by decide +kernel
theorem dX11_say_8 : decode cX11_say 8 = .ok (.invokestatic 67, 3) := by decide +kernel
theorem dX11_say_11 : decode cX11_say 11 = .ok (.ifCond .ne 6, 3) := by decide +kernel
theorem dX11_say_14 : decode cX11_say 14 = .ok (.bipush (-2), 2) := by decide +kernel
theorem dX11_say_16 : decode cX11_say 16 = .ok (.ireturn, 1) := by decide +kernel
theorem dX11_say_17 : decode cX11_say 17 = .ok (.aload_n 0, 1) := by decide +kernel
theorem dX11_say_18 : decode cX11_say 18 = .ok (.getfield 92, 3) := by decide +kernel
theorem dX11_say_21 : decode cX11_say 21 = .ok (.bipush 40, 2) := by decide +kernel
theorem dX11_say_23 : decode cX11_say 23 = .ok (.if_icmp .ne 6, 3) := by decide +kernel
theorem dX11_say_26 : decode cX11_say 26 = .ok (.bipush (-4), 2) := by decide +kernel
theorem dX11_say_28 : decode cX11_say 28 = .ok (.ireturn, 1) := by decide +kernel
theorem dX11_say_29 : decode cX11_say 29 = .ok (.aload_n 0, 1) := by decide +kernel
theorem dX11_say_30 : decode cX11_say 30 = .ok (.getfield 22, 3) := by decide +kernel
theorem dX11_say_33 : decode cX11_say 33 = .ok (.aload_n 0, 1) := by decide +kernel
theorem dX11_say_34 : decode cX11_say 34 = .ok (.getfield 92, 3) := by decide +kernel
theorem dX11_say_37 : decode cX11_say 37 = .ok (.iload_n 1, 1) := by decide +kernel
theorem dX11_say_38 : decode cX11_say 38 = .ok (.iastore, 1) := by decide +kernel
theorem dX11_say_39 : decode cX11_say 39 = .ok (.aload_n 0, 1) := by decide +kernel
theorem dX11_say_40 : decode cX11_say 40 = .ok (.dup, 1) := by decide +kernel
theorem dX11_say_41 : decode cX11_say 41 = .ok (.getfield 92, 3) := by decide +kernel
theorem dX11_say_44 : decode cX11_say 44 = .ok (.iconst 1, 1) := by decide +kernel
theorem dX11_say_45 : decode cX11_say 45 = .ok (.iadd, 1) := by decide +kernel
theorem dX11_say_46 : decode cX11_say 46 = .ok (.putfield 92, 3) := by decide +kernel
theorem dX11_say_49 : decode cX11_say 49 = .ok (.aload_n 0, 1) := by decide +kernel
theorem dX11_say_50 : decode cX11_say 50 = .ok (.getfield 92, 3) := by decide +kernel
theorem dX11_say_53 : decode cX11_say 53 = .ok (.ireturn, 1) := by decide +kernel
theorem dX11_wipe_0 : decode cX11_wipe 0 = .ok (.aload_n 0, 1) := by decide +kernel
theorem dX11_wipe_1 : decode cX11_wipe 1 = .ok (.getfield 92, 3) := by decide +kernel
theorem dX11_wipe_4 : decode cX11_wipe 4 = .ok (.istore_n 1, 1) := by decide +kernel
theorem dX11_wipe_5 : decode cX11_wipe 5 = .ok (.aload_n 0, 1) := by decide +kernel
theorem dX11_wipe_6 : decode cX11_wipe 6 = .ok (.iconst 0, 1) := by decide +kernel
theorem dX11_wipe_7 : decode cX11_wipe 7 = .ok (.putfield 92, 3) := by decide +kernel
theorem dX11_wipe_10 : decode cX11_wipe 10 = .ok (.iload_n 1, 1) := by decide +kernel
theorem dX11_wipe_11 : decode cX11_wipe 11 = .ok (.ireturn, 1) := by decide +kernel
theorem dX11_isDigit_0 : decode cX11_isDigit 0 = .ok (.iload_n 0, 1) := by decide +kernel
theorem dX11_isDigit_1 : decode cX11_isDigit 1 = .ok (.i2l, 1) := by decide +kernel
theorem dX11_isDigit_2 : decode cX11_isDigit 2 = .ok (.ldc2_w 95, 3) := by decide +kernel
theorem dX11_isDigit_5 : decode cX11_isDigit 5 = .ok (.ldc2_w 97, 3) := by decide +kernel
theorem dX11_isDigit_8 : decode cX11_isDigit 8 = .ok (.invokestatic 67, 3) := by decide +kernel
theorem dX11_isDigit_11 : decode cX11_isDigit 11 = .ok (.ireturn, 1) := by decide +kernel
theorem dX11_fault_0 : decode cX11_fault 0 = .ok (.iconst 0, 1) := by decide +kernel
theorem dX11_fault_1 : decode cX11_fault 1 = .ok (.istore_n 1, 1) := by decide +kernel
theorem dX11_fault_2 : decode cX11_fault 2 = .ok (.iconst 0, 1) := by decide +kernel
theorem dX11_fault_3 : decode cX11_fault 3 = .ok (.istore_n 2, 1) := by decide +kernel
theorem dX11_fault_4 : decode cX11_fault 4 = .ok (.iload_n 2, 1) := by decide +kernel
theorem dX11_fault_5 : decode cX11_fault 5 = .ok (.aload_n 0, 1) := by decide +kernel
theorem dX11_fault_6 : decode cX11_fault 6 = .ok (.getfield 92, 3) := by decide +kernel
theorem dX11_fault_9 : decode cX11_fault 9 = .ok (.if_icmp .ge 108, 3) := by decide +kernel
theorem dX11_fault_12 : decode cX11_fault 12 = .ok (.aload_n 0, 1) := by decide +kernel
theorem dX11_fault_13 : decode cX11_fault 13 = .ok (.getfield 22, 3) := by decide +kernel
theorem dX11_fault_16 : decode cX11_fault 16 = .ok (.iload_n 2, 1) := by decide +kernel
theorem dX11_fault_17 : decode cX11_fault 17 = .ok (.iaload, 1) := by decide +kernel
theorem dX11_fault_18 : decode cX11_fault 18 = .ok (.istore_n 3, 1) := by decide +kernel
theorem dX11_fault_19 : decode cX11_fault 19 = .ok (.iload_n 1, 1) := by decide +kernel
theorem dX11_fault_20 : decode cX11_fault 20 = .ok (.iconst 1, 1) := by decide +kernel
theorem dX11_fault_21 : decode cX11_fault 21 = .ok (.if_icmp .ne 24, 3) := by decide +kernel
theorem dX11_fault_24 : decode cX11_fault 24 = .ok (.iload_n 3, 1) := by decide +kernel
theorem dX11_fault_25 : decode cX11_fault 25 = .ok (.i2l, 1) := by decide +kernel
theorem dX11_fault_26 : decode cX11_fault 26 = .ok (.ldc2_w 99, 3) := by decide +kernel
theorem dX11_fault_29 : decode cX11_fault 29 = .ok (.ldc2_w 97, 3) := by decide +kernel
theorem dX11_fault_32 : decode cX11_fault 32 = .ok (.invokestatic 67, 3) := by decide +kernel
theorem dX11_fault_35 : decode cX11_fault 35 = .ok (.ifCond .ne 5, 3) := by decide +kernel
theorem dX11_fault_38 : decode cX11_fault 38 = .ok (.iload_n 2, 1) := by decide +kernel
theorem dX11_fault_39 : decode cX11_fault 39 = .ok (.ireturn, 1) := by decide +kernel
theorem dX11_fault_40 : decode cX11_fault 40 = .ok (.iconst 0, 1) := by decide +kernel
theorem dX11_fault_41 : decode cX11_fault 41 = .ok (.istore_n 1, 1) := by decide +kernel
theorem dX11_fault_42 : decode cX11_fault 42 = .ok (.goto 69, 3) := by decide +kernel
theorem dX11_fault_45 : decode cX11_fault 45 = .ok (.iload_n 1, 1) := by decide +kernel
theorem dX11_fault_46 : decode cX11_fault 46 = .ok (.iconst 2, 1) := by decide +kernel
theorem dX11_fault_47 : decode cX11_fault 47 = .ok (.if_icmp .ne 17, 3) := by decide +kernel
theorem dX11_fault_50 : decode cX11_fault 50 = .ok (.iload_n 3, 1) := by decide +kernel
theorem dX11_fault_51 : decode cX11_fault 51 = .ok (.invokestatic 101, 3) := by decide +kernel
theorem dX11_fault_54 : decode cX11_fault 54 = .ok (.ifCond .ne 5, 3) := by decide +kernel
theorem dX11_fault_57 : decode cX11_fault 57 = .ok (.iload_n 2, 1) := by decide +kernel
theorem dX11_fault_58 : decode cX11_fault 58 = .ok (.ireturn, 1) := by decide +kernel
theorem dX11_fault_59 : decode cX11_fault 59 = .ok (.iconst 3, 1) := by decide +kernel
theorem dX11_fault_60 : decode cX11_fault 60 = .ok (.istore_n 1, 1) := by decide +kernel
theorem dX11_fault_61 : decode cX11_fault 61 = .ok (.goto 50, 3) := by decide +kernel
theorem dX11_fault_64 : decode cX11_fault 64 = .ok (.iload_n 1, 1) := by decide +kernel
theorem dX11_fault_65 : decode cX11_fault 65 = .ok (.iconst 3, 1) := by decide +kernel
theorem dX11_fault_66 : decode cX11_fault 66 = .ok (.if_icmp .ne 15, 3) := by decide +kernel
theorem dX11_fault_69 : decode cX11_fault 69 = .ok (.iload_n 3, 1) := by decide +kernel
theorem dX11_fault_70 : decode cX11_fault 70 = .ok (.invokestatic 101, 3) := by decide +kernel
theorem dX11_fault_73 : decode cX11_fault 73 = .ok (.ifCond .eq 8, 3) := by decide +kernel
theorem dX11_fault_76 : decode cX11_fault 76 = .ok (.iconst 0, 1) := by decide +kernel
theorem dX11_fault_77 : decode cX11_fault 77 = .ok (.istore_n 1, 1) := by decide +kernel
theorem dX11_fault_78 : decode cX11_fault 78 = .ok (.goto 33, 3) := by decide +kernel
theorem dX11_fault_81 : decode cX11_fault 81 = .ok (.iload_n 3, 1) := by decide +kernel
theorem dX11_fault_82 : decode cX11_fault 82 = .ok (.bipush 46, 2) := by decide +kernel
theorem dX11_fault_84 : decode cX11_fault 84 = .ok (.if_icmp .ne 8, 3) := by decide +kernel
theorem dX11_fault_87 : decode cX11_fault 87 = .ok (.iconst 1, 1) := by decide +kernel
theorem dX11_fault_88 : decode cX11_fault 88 = .ok (.istore_n 1, 1) := by decide +kernel
theorem dX11_fault_89 : decode cX11_fault 89 = .ok (.goto 22, 3) := by decide +kernel
theorem dX11_fault_92 : decode cX11_fault 92 = .ok (.iload_n 3, 1) := by decide +kernel
theorem dX11_fault_93 : decode cX11_fault 93 = .ok (.bipush 43, 2) := by decide +kernel
theorem dX11_fault_95 : decode cX11_fault 95 = .ok (.if_icmp .eq 9, 3) := by decide +kernel
theorem dX11_fault_98 : decode cX11_fault 98 = .ok (.iload_n 3, 1) := by decide +kernel
theorem dX11_fault_99 : decode cX11_fault 99 = .ok (.bipush 45, 2) := by decide +kernel
theorem dX11_fault_101 : decode cX11_fault 101 = .ok (.if_icmp .ne 8, 3) := by decide +kernel
theorem dX11_fault_104 : decode cX11_fault 104 = .ok (.iconst 2, 1) := by decide +kernel
theorem dX11_fault_105 : decode cX11_fault 105 = .ok (.istore_n 1, 1) := by decide +kernel
theorem dX11_fault_106 : decode cX11_fault 106 = .ok (.goto 5, 3) := by decide +kernel
theorem dX11_fault_109 : decode cX11_fault 109 = .ok (.iload_n 2, 1) := by decide +kernel
theorem dX11_fault_110 : decode cX11_fault 110 = .ok (.ireturn, 1) := by decide +kernel
theorem dX11_fault_111 : decode cX11_fault 111 = .ok (.iinc 2 1, 3) := by decide +kernel
theorem dX11_fault_114 : decode cX11_fault 114 = .ok (.goto (-110), 3) := by decide +kernel
theorem dX11_fault_117 : decode cX11_fault 117 = .ok (.iload_n 1, 1) := by decide +kernel
theorem dX11_fault_118 : decode cX11_fault 118 = .ok (.iconst 1, 1) := by decide +kernel
theorem dX11_fault_119 : decode cX11_fault 119 = .ok (.if_icmp .eq 8, 3) := by decide +kernel
theorem dX11_fault_122 : decode cX11_fault 122 = .ok (.iload_n 1, 1) := by decide +kernel
theorem dX11_fault_123 : decode cX11_fault 123 = .ok (.iconst 2, 1) := by decide +kernel
theorem dX11_fault_124 : decode cX11_fault 124 = .ok (.if_icmp .ne 10, 3) := by decide +kernel
theorem dX11_fault_127 : decode cX11_fault 127 = .ok (.aload_n 0, 1) := by decide +kernel
theorem dX11_fault_128 : decode cX11_fault 128 = .ok (.getfield 92, 3) := by decide +kernel
theorem dX11_fault_131 : decode cX11_fault 131 = .ok (.goto 5, 3) := by decide +kernel
theorem dX11_fault_134 : decode cX11_fault 134 = .ok (.bipush (-6), 2) := by decide +kernel
theorem dX11_fault_136 : decode cX11_fault 136 = .ok (.ireturn, 1) := by decide +kernel
theorem dX11_push_0 : decode cX11_push 0 = .ok (.aload_n 0, 1) := by decide +kernel
theorem dX11_push_1 : decode cX11_push 1 = .ok (.invokevirtual 105, 3) := by decide +kernel
theorem dX11_push_4 : decode cX11_push 4 = .ok (.ifCond .lt 6, 3) := by decide +kernel
theorem dX11_push_7 : decode cX11_push 7 = .ok (.bipush (-5), 2) := by decide +kernel
theorem dX11_push_9 : decode cX11_push 9 = .ok (.ireturn, 1) := by decide +kernel
theorem dX11_push_10 : decode cX11_push 10 = .ok (.aload_n 0, 1) := by decide +kernel
theorem dX11_push_11 : decode cX11_push 11 = .ok (.iconst 0, 1) := by decide +kernel
theorem dX11_push_12 : decode cX11_push 12 = .ok (.putfield 109, 3) := by decide +kernel
theorem dX11_push_15 : decode cX11_push 15 = .ok (.aload_n 0, 1) := by decide +kernel
theorem dX11_push_16 : decode cX11_push 16 = .ok (.iconst 0, 1) := by decide +kernel
theorem dX11_push_17 : decode cX11_push 17 = .ok (.putfield 112, 3) := by decide +kernel
theorem dX11_push_20 : decode cX11_push 20 = .ok (.iconst 0, 1) := by decide +kernel
theorem dX11_push_21 : decode cX11_push 21 = .ok (.istore_n 1, 1) := by decide +kernel
theorem dX11_push_22 : decode cX11_push 22 = .ok (.iconst 0, 1) := by decide +kernel
theorem dX11_push_23 : decode cX11_push 23 = .ok (.istore_n 2, 1) := by decide +kernel
theorem dX11_push_24 : decode cX11_push 24 = .ok (.iload_n 2, 1) := by decide +kernel
theorem dX11_push_25 : decode cX11_push 25 = .ok (.aload_n 0, 1) := by decide +kernel
theorem dX11_push_26 : decode cX11_push 26 = .ok (.getfield 92, 3) := by decide +kernel
theorem dX11_push_29 : decode cX11_push 29 = .ok (.if_icmp .ge 136, 3) := by decide +kernel
theorem dX11_push_32 : decode cX11_push 32 = .ok (.aload_n 0, 1) := by decide +kernel
theorem dX11_push_33 : decode cX11_push 33 = .ok (.getfield 22, 3) := by decide +kernel
theorem dX11_push_36 : decode cX11_push 36 = .ok (.iload_n 2, 1) := by decide +kernel
theorem dX11_push_37 : decode cX11_push 37 = .ok (.iaload, 1) := by decide +kernel
theorem dX11_push_38 : decode cX11_push 38 = .ok (.istore_n 3, 1) := by decide +kernel
theorem dX11_push_39 : decode cX11_push 39 = .ok (.aload_n 0, 1) := by decide +kernel
theorem dX11_push_40 : decode cX11_push 40 = .ok (.getfield 22, 3) := by decide +kernel
theorem dX11_push_43 : decode cX11_push 43 = .ok (.iload_n 2, 1) := by decide +kernel
theorem dX11_push_44 : decode cX11_push 44 = .ok (.iconst 1, 1) := by decide +kernel
theorem dX11_push_45 : decode cX11_push 45 = .ok (.iadd, 1) := by decide +kernel
theorem dX11_push_46 : decode cX11_push 46 = .ok (.iaload, 1) := by decide +kernel
theorem dX11_push_47 : decode cX11_push 47 = .ok (.bipush 48, 2) := by decide +kernel
theorem dX11_push_49 : decode cX11_push 49 = .ok (.isub, 1) := by decide +kernel
theorem dX11_push_50 : decode cX11_push 50 = .ok (.istore 4, 2) := by decide +kernel
theorem dX11_push_52 : decode cX11_push 52 = .ok (.iinc 2 2, 3) := by decide +kernel
theorem dX11_push_55 : decode cX11_push 55 = .ok (.aload_n 0, 1) := by decide +kernel
theorem dX11_push_56 : decode cX11_push 56 = .ok (.dup, 1) := by decide +kernel
theorem dX11_push_57 : decode cX11_push 57 = .ok (.getfield 112, 3) := by decide +kernel
theorem dX11_push_60 : decode cX11_push 60 = .ok (.iconst 1, 1) := by decide +kernel
theorem dX11_push_61 : decode cX11_push 61 = .ok (.iadd, 1) := by decide +kernel
theorem dX11_push_62 : decode cX11_push 62 = .ok (.putfield 112, 3) := by decide +kernel
theorem dX11_push_65 : decode cX11_push 65 = .ok (.iload_n 3, 1) := by decide +kernel
theorem dX11_push_66 : decode cX11_push 66 = .ok (.bipush 46, 2) := by decide +kernel
theorem dX11_push_68 : decode cX11_push 68 = .ok (.if_icmp .ne 11, 3) := by decide +kernel
theorem dX11_push_71 : decode cX11_push 71 = .ok (.iload_n 1, 1) := by decide +kernel
theorem dX11_push_72 : decode cX11_push 72 = .ok (.iload 4, 2) := by decide +kernel
theorem dX11_push_74 : decode cX11_push 74 = .ok (.iadd, 1) := by decide +kernel
theorem dX11_push_75 : decode cX11_push 75 = .ok (.istore_n 1, 1) := by decide +kernel
theorem dX11_push_76 : decode cX11_push 76 = .ok (.goto 86, 3) := by decide +kernel
theorem dX11_push_79 : decode cX11_push 79 = .ok (.iload_n 2, 1) := by decide +kernel
theorem dX11_push_80 : decode cX11_push 80 = .ok (.aload_n 0, 1) := by decide +kernel
theorem dX11_push_81 : decode cX11_push 81 = .ok (.getfield 92, 3) := by decide +kernel
theorem dX11_push_84 : decode cX11_push 84 = .ok (.if_icmp .ge 35, 3) := by decide +kernel
theorem dX11_push_87 : decode cX11_push 87 = .ok (.aload_n 0, 1) := by decide +kernel
theorem dX11_push_88 : decode cX11_push 88 = .ok (.getfield 22, 3) := by decide +kernel
theorem dX11_push_91 : decode cX11_push 91 = .ok (.iload_n 2, 1) := by decide +kernel
theorem dX11_push_92 : decode cX11_push 92 = .ok (.iaload, 1) := by decide +kernel
theorem dX11_push_93 : decode cX11_push 93 = .ok (.invokestatic 101, 3) := by decide +kernel
theorem dX11_push_96 : decode cX11_push 96 = .ok (.ifCond .eq 23, 3) := by decide +kernel
theorem dX11_push_99 : decode cX11_push 99 = .ok (.bipush 10, 2) := by decide +kernel
theorem dX11_push_101 : decode cX11_push 101 = .ok (.iload 4, 2) := by decide +kernel
theorem dX11_push_103 : decode cX11_push 103 = .ok (.imul, 1) := by decide +kernel
theorem dX11_push_104 : decode cX11_push 104 = .ok (.aload_n 0, 1) := by decide +kernel
theorem dX11_push_105 : decode cX11_push 105 = .ok (.getfield 22, 3) := by decide +kernel
theorem dX11_push_108 : decode cX11_push 108 = .ok (.iload_n 2, 1) := by decide +kernel
theorem dX11_push_109 : decode cX11_push 109 = .ok (.iaload, 1) := by decide +kernel
theorem dX11_push_110 : decode cX11_push 110 = .ok (.iadd, 1) := by decide +kernel
theorem dX11_push_111 : decode cX11_push 111 = .ok (.bipush 48, 2) := by decide +kernel
theorem dX11_push_113 : decode cX11_push 113 = .ok (.isub, 1) := by decide +kernel
theorem dX11_push_114 : decode cX11_push 114 = .ok (.istore 4, 2) := by decide +kernel
theorem dX11_push_116 : decode cX11_push 116 = .ok (.iinc 2 1, 3) := by decide +kernel
theorem dX11_push_119 : decode cX11_push 119 = .ok (.aload_n 0, 1) := by decide +kernel
theorem dX11_push_120 : decode cX11_push 120 = .ok (.getfield 25, 3) := by decide +kernel
theorem dX11_push_123 : decode cX11_push 123 = .ok (.aload_n 0, 1) := by decide +kernel
theorem dX11_push_124 : decode cX11_push 124 = .ok (.getfield 109, 3) := by decide +kernel
theorem dX11_push_127 : decode cX11_push 127 = .ok (.iload_n 1, 1) := by decide +kernel
theorem dX11_push_128 : decode cX11_push 128 = .ok (.iastore, 1) := by decide +kernel
theorem dX11_push_129 : decode cX11_push 129 = .ok (.aload_n 0, 1) := by decide +kernel
theorem dX11_push_130 : decode cX11_push 130 = .ok (.getfield 28, 3) := by decide +kernel
theorem dX11_push_133 : decode cX11_push 133 = .ok (.aload_n 0, 1) := by decide +kernel
theorem dX11_push_134 : decode cX11_push 134 = .ok (.getfield 109, 3) := by decide +kernel
theorem dX11_push_137 : decode cX11_push 137 = .ok (.iload_n 3, 1) := by decide +kernel
theorem dX11_push_138 : decode cX11_push 138 = .ok (.bipush 43, 2) := by decide +kernel
theorem dX11_push_140 : decode cX11_push 140 = .ok (.if_icmp .ne 8, 3) := by decide +kernel
theorem dX11_push_143 : decode cX11_push 143 = .ok (.iload 4, 2) := by decide +kernel
theorem dX11_push_145 : decode cX11_push 145 = .ok (.goto 6, 3) := by decide +kernel
theorem dX11_push_148 : decode cX11_push 148 = .ok (.iload 4, 2) := by decide +kernel
theorem dX11_push_150 : decode cX11_push 150 = .ok (.ineg, 1) := by decide +kernel
theorem dX11_push_151 : decode cX11_push 151 = .ok (.iastore, 1) := by decide +kernel
theorem dX11_push_152 : decode cX11_push 152 = .ok (.aload_n 0, 1) := by decide +kernel
theorem dX11_push_153 : decode cX11_push 153 = .ok (.dup, 1) := by decide +kernel
theorem dX11_push_154 : decode cX11_push 154 = .ok (.getfield 109, 3) := by decide +kernel
theorem dX11_push_157 : decode cX11_push 157 = .ok (.iconst 1, 1) := by decide +kernel
theorem dX11_push_158 : decode cX11_push 158 = .ok (.iadd, 1) := by decide +kernel
theorem dX11_push_159 : decode cX11_push 159 = .ok (.putfield 109, 3) := by decide +kernel
theorem dX11_push_162 : decode cX11_push 162 = .ok (.goto (-138), 3) := by decide +kernel
theorem dX11_push_165 : decode cX11_push 165 = .ok (.aload_n 0, 1) := by decide +kernel
theorem dX11_push_166 : decode cX11_push 166 = .ok (.iconst 0, 1) := by decide +kernel
theorem dX11_push_167 : decode cX11_push 167 = .ok (.putfield 92, 3) := by decide +kernel
theorem dX11_push_170 : decode cX11_push 170 = .ok (.aload_n 0, 1) := by decide +kernel
theorem dX11_push_171 : decode cX11_push 171 = .ok (.getfield 112, 3) := by decide +kernel
theorem dX11_push_174 : decode cX11_push 174 = .ok (.ireturn, 1) := by decide +kernel
theorem dX11_held_0 : decode cX11_held 0 = .ok (.iload_n 0, 1) := by decide +kernel
theorem dX11_held_1 : decode cX11_held 1 = .ok (.bipush (-99), 2) := by decide +kernel
theorem dX11_held_3 : decode cX11_held 3 = .ok (.if_icmp .ge 8, 3) := by decide +kernel
theorem dX11_held_6 : decode cX11_held 6 = .ok (.bipush (-99), 2) := by decide +kernel
theorem dX11_held_8 : decode cX11_held 8 = .ok (.goto 15, 3) := by decide +kernel
theorem dX11_held_11 : decode cX11_held 11 = .ok (.iload_n 0, 1) := by decide +kernel
theorem dX11_held_12 : decode cX11_held 12 = .ok (.bipush 99, 2) := by decide +kernel
theorem dX11_held_14 : decode cX11_held 14 = .ok (.if_icmp .le 8, 3) := by decide +kernel
theorem dX11_held_17 : decode cX11_held 17 = .ok (.bipush 99, 2) := by decide +kernel
theorem dX11_held_19 : decode cX11_held 19 = .ok (.goto 4, 3) := by decide +kernel
theorem dX11_held_22 : decode cX11_held 22 = .ok (.iload_n 0, 1) := by decide +kernel
theorem dX11_held_23 : decode cX11_held 23 = .ok (.ireturn, 1) := by decide +kernel
theorem dX11_layTurns_0 : decode cX11_layTurns 0 = .ok (.aload_n 0, 1) := by decide +kernel
theorem dX11_layTurns_1 : decode cX11_layTurns 1 = .ok (.getfield 16, 3) := by decide +kernel
theorem dX11_layTurns_4 : decode cX11_layTurns 4 = .ok (.iconst 0, 1) := by decide +kernel
theorem dX11_layTurns_5 : decode cX11_layTurns 5 = .ok (.iconst 0, 1) := by decide +kernel
theorem dX11_layTurns_6 : decode cX11_layTurns 6 = .ok (.iastore, 1) := by decide +kernel
theorem dX11_layTurns_7 : decode cX11_layTurns 7 = .ok (.aload_n 0, 1) := by decide +kernel
theorem dX11_layTurns_8 : decode cX11_layTurns 8 = .ok (.getfield 19, 3) := by decide +kernel
theorem dX11_layTurns_11 : decode cX11_layTurns 11 = .ok (.iconst 0, 1) := by decide +kernel
theorem dX11_layTurns_12 : decode cX11_layTurns 12 = .ok (.aload_n 0, 1) := by decide +kernel
theorem dX11_layTurns_13 : decode cX11_layTurns 13 = .ok (.getfield 13, 3) := by decide +kernel
theorem dX11_layTurns_16 : decode cX11_layTurns 16 = .ok (.iconst 0, 1) := by decide +kernel
theorem dX11_layTurns_17 : decode cX11_layTurns 17 = .ok (.iaload, 1) := by decide +kernel
theorem dX11_layTurns_18 : decode cX11_layTurns 18 = .ok (.iastore, 1) := by decide +kernel
theorem dX11_layTurns_19 : decode cX11_layTurns 19 = .ok (.iconst 0, 1) := by decide +kernel
theorem dX11_layTurns_20 : decode cX11_layTurns 20 = .ok (.istore_n 1, 1) := by decide +kernel
theorem dX11_layTurns_21 : decode cX11_layTurns 21 = .ok (.iload_n 1, 1) := by decide +kernel
theorem dX11_layTurns_22 : decode cX11_layTurns 22 = .ok (.bipush 60, 2) := by decide +kernel
theorem dX11_layTurns_24 : decode cX11_layTurns 24 = .ok (.if_icmp .gt 136, 3) := by decide +kernel
theorem dX11_layTurns_27 : decode cX11_layTurns 27 = .ok (.aload_n 0, 1) := by decide +kernel
theorem dX11_layTurns_28 : decode cX11_layTurns 28 = .ok (.getfield 19, 3) := by decide +kernel
theorem dX11_layTurns_31 : decode cX11_layTurns 31 = .ok (.iload_n 1, 1) := by decide +kernel
theorem dX11_layTurns_32 : decode cX11_layTurns 32 = .ok (.iaload, 1) := by decide +kernel
theorem dX11_layTurns_33 : decode cX11_layTurns 33 = .ok (.istore_n 2, 1) := by decide +kernel
theorem dX11_layTurns_34 : decode cX11_layTurns 34 = .ok (.iconst 0, 1) := by decide +kernel
theorem dX11_layTurns_35 : decode cX11_layTurns 35 = .ok (.istore_n 3, 1) := by decide +kernel
theorem dX11_layTurns_36 : decode cX11_layTurns 36 = .ok (.iload_n 3, 1) := by decide +kernel
theorem dX11_layTurns_37 : decode cX11_layTurns 37 = .ok (.aload_n 0, 1) := by decide +kernel
theorem dX11_layTurns_38 : decode cX11_layTurns 38 = .ok (.getfield 109, 3) := by decide +kernel
theorem dX11_layTurns_41 : decode cX11_layTurns 41 = .ok (.if_icmp .ge 35, 3) := by decide +kernel
theorem dX11_layTurns_44 : decode cX11_layTurns 44 = .ok (.aload_n 0, 1) := by decide +kernel
theorem dX11_layTurns_45 : decode cX11_layTurns 45 = .ok (.getfield 25, 3) := by decide +kernel
theorem dX11_layTurns_48 : decode cX11_layTurns 48 = .ok (.iload_n 3, 1) := by decide +kernel
theorem dX11_layTurns_49 : decode cX11_layTurns 49 = .ok (.iaload, 1) := by decide +kernel
theorem dX11_layTurns_50 : decode cX11_layTurns 50 = .ok (.iload_n 1, 1) := by decide +kernel
theorem dX11_layTurns_51 : decode cX11_layTurns 51 = .ok (.if_icmp .ne 17, 3) := by decide +kernel
theorem dX11_layTurns_54 : decode cX11_layTurns 54 = .ok (.iload_n 2, 1) := by decide +kernel
theorem dX11_layTurns_55 : decode cX11_layTurns 55 = .ok (.aload_n 0, 1) := by decide +kernel
theorem dX11_layTurns_56 : decode cX11_layTurns 56 = .ok (.getfield 28, 3) := by decide +kernel
theorem dX11_layTurns_59 : decode cX11_layTurns 59 = .ok (.iload_n 3, 1) := by decide +kernel
theorem dX11_layTurns_60 : decode cX11_layTurns 60 = .ok (.iaload, 1) := by decide +kernel
theorem dX11_layTurns_61 : decode cX11_layTurns 61 = .ok (.iadd, 1) := by decide +kernel
theorem dX11_layTurns_62 : decode cX11_layTurns 62 = .ok (.invokestatic 115, 3) := by decide +kernel
theorem dX11_layTurns_65 : decode cX11_layTurns 65 = .ok (.goto 4, 3) := by decide +kernel
theorem dX11_layTurns_68 : decode cX11_layTurns 68 = .ok (.iload_n 2, 1) := by decide +kernel
theorem dX11_layTurns_69 : decode cX11_layTurns 69 = .ok (.istore_n 2, 1) := by decide +kernel
theorem dX11_layTurns_70 : decode cX11_layTurns 70 = .ok (.iinc 3 1, 3) := by decide +kernel
theorem dX11_layTurns_73 : decode cX11_layTurns 73 = .ok (.goto (-37), 3) := by decide +kernel
theorem dX11_layTurns_76 : decode cX11_layTurns 76 = .ok (.aload_n 0, 1) := by decide +kernel
theorem dX11_layTurns_77 : decode cX11_layTurns 77 = .ok (.getfield 16, 3) := by decide +kernel
theorem dX11_layTurns_80 : decode cX11_layTurns 80 = .ok (.iload_n 1, 1) := by decide +kernel
theorem dX11_layTurns_81 : decode cX11_layTurns 81 = .ok (.iaload, 1) := by decide +kernel
theorem dX11_layTurns_82 : decode cX11_layTurns 82 = .ok (.iload_n 2, 1) := by decide +kernel
theorem dX11_layTurns_83 : decode cX11_layTurns 83 = .ok (.iadd, 1) := by decide +kernel
theorem dX11_layTurns_84 : decode cX11_layTurns 84 = .ok (.sipush 240, 3) := by decide +kernel
theorem dX11_layTurns_87 : decode cX11_layTurns 87 = .ok (.irem, 1) := by decide +kernel
theorem dX11_layTurns_88 : decode cX11_layTurns 88 = .ok (.istore_n 3, 1) := by decide +kernel
theorem dX11_layTurns_89 : decode cX11_layTurns 89 = .ok (.aload_n 0, 1) := by decide +kernel
theorem dX11_layTurns_90 : decode cX11_layTurns 90 = .ok (.getfield 16, 3) := by decide +kernel
theorem dX11_layTurns_93 : decode cX11_layTurns 93 = .ok (.iload_n 1, 1) := by decide +kernel
theorem dX11_layTurns_94 : decode cX11_layTurns 94 = .ok (.iconst 1, 1) := by decide +kernel
theorem dX11_layTurns_95 : decode cX11_layTurns 95 = .ok (.iadd, 1) := by decide +kernel
theorem dX11_layTurns_96 : decode cX11_layTurns 96 = .ok (.iload_n 3, 1) := by decide +kernel
theorem dX11_layTurns_97 : decode cX11_layTurns 97 = .ok (.ifCond .ge 11, 3) := by decide +kernel
theorem dX11_layTurns_100 : decode cX11_layTurns 100 = .ok (.iload_n 3, 1) := by decide +kernel
theorem dX11_layTurns_101 : decode cX11_layTurns 101 = .ok (.sipush 240, 3) := by decide +kernel
theorem dX11_layTurns_104 : decode cX11_layTurns 104 = .ok (.iadd, 1) := by decide +kernel
theorem dX11_layTurns_105 : decode cX11_layTurns 105 = .ok (.goto 4, 3) := by decide +kernel
theorem dX11_layTurns_108 : decode cX11_layTurns 108 = .ok (.iload_n 3, 1) := by decide +kernel
theorem dX11_layTurns_109 : decode cX11_layTurns 109 = .ok (.iastore, 1) := by decide +kernel
theorem dX11_layTurns_110 : decode cX11_layTurns 110 = .ok (.aload_n 0, 1) := by decide +kernel
theorem dX11_layTurns_111 : decode cX11_layTurns 111 = .ok (.getfield 13, 3) := by decide +kernel
theorem dX11_layTurns_114 : decode cX11_layTurns 114 = .ok (.iconst 1, 1) := by decide +kernel
theorem dX11_layTurns_115 : decode cX11_layTurns 115 = .ok (.iaload, 1) := by decide +kernel
theorem dX11_layTurns_116 : decode cX11_layTurns 116 = .ok (.istore 4, 2) := by decide +kernel
theorem dX11_layTurns_118 : decode cX11_layTurns 118 = .ok (.aload_n 0, 1) := by decide +kernel
theorem dX11_layTurns_119 : decode cX11_layTurns 119 = .ok (.getfield 19, 3) := by decide +kernel
theorem dX11_layTurns_122 : decode cX11_layTurns 122 = .ok (.iload_n 1, 1) := by decide +kernel
theorem dX11_layTurns_123 : decode cX11_layTurns 123 = .ok (.iconst 1, 1) := by decide +kernel
theorem dX11_layTurns_124 : decode cX11_layTurns 124 = .ok (.iadd, 1) := by decide +kernel
theorem dX11_layTurns_125 : decode cX11_layTurns 125 = .ok (.iload_n 2, 1) := by decide +kernel
theorem dX11_layTurns_126 : decode cX11_layTurns 126 = .ok (.iload 4, 2) := by decide +kernel
theorem dX11_layTurns_128 : decode cX11_layTurns 128 = .ok (.if_icmp .le 10, 3) := by decide +kernel
theorem dX11_layTurns_131 : decode cX11_layTurns 131 = .ok (.iload_n 2, 1) := by decide +kernel
theorem dX11_layTurns_132 : decode cX11_layTurns 132 = .ok (.iload 4, 2) := by decide +kernel
theorem dX11_layTurns_134 : decode cX11_layTurns 134 = .ok (.isub, 1) := by decide +kernel
theorem dX11_layTurns_135 : decode cX11_layTurns 135 = .ok (.goto 18, 3) := by decide +kernel
theorem dX11_layTurns_138 : decode cX11_layTurns 138 = .ok (.iload_n 2, 1) := by decide +kernel
theorem dX11_layTurns_139 : decode cX11_layTurns 139 = .ok (.iload 4, 2) := by decide +kernel
theorem dX11_layTurns_141 : decode cX11_layTurns 141 = .ok (.ineg, 1) := by decide +kernel
theorem dX11_layTurns_142 : decode cX11_layTurns 142 = .ok (.if_icmp .ge 10, 3) := by decide +kernel
theorem dX11_layTurns_145 : decode cX11_layTurns 145 = .ok (.iload_n 2, 1) := by decide +kernel
theorem dX11_layTurns_146 : decode cX11_layTurns 146 = .ok (.iload 4, 2) := by decide +kernel
theorem dX11_layTurns_148 : decode cX11_layTurns 148 = .ok (.iadd, 1) := by decide +kernel
theorem dX11_layTurns_149 : decode cX11_layTurns 149 = .ok (.goto 4, 3) := by decide +kernel
theorem dX11_layTurns_152 : decode cX11_layTurns 152 = .ok (.iconst 0, 1) := by decide +kernel
theorem dX11_layTurns_153 : decode cX11_layTurns 153 = .ok (.iastore, 1) := by decide +kernel
theorem dX11_layTurns_154 : decode cX11_layTurns 154 = .ok (.iinc 1 1, 3) := by decide +kernel
theorem dX11_layTurns_157 : decode cX11_layTurns 157 = .ok (.goto (-136), 3) := by decide +kernel
theorem dX11_layTurns_160 : decode cX11_layTurns 160 = .ok (.return_, 1) := by decide +kernel
theorem dX11_wayAt_0 : decode cX11_wayAt 0 = .ok (.aload_n 0, 1) := by decide +kernel
theorem dX11_wayAt_1 : decode cX11_wayAt 1 = .ok (.getfield 16, 3) := by decide +kernel
theorem dX11_wayAt_4 : decode cX11_wayAt 4 = .ok (.iload_n 1, 1) := by decide +kernel
theorem dX11_wayAt_5 : decode cX11_wayAt 5 = .ok (.iaload, 1) := by decide +kernel
theorem dX11_wayAt_6 : decode cX11_wayAt 6 = .ok (.bipush 10, 2) := by decide +kernel
theorem dX11_wayAt_8 : decode cX11_wayAt 8 = .ok (.idiv, 1) := by decide +kernel
theorem dX11_wayAt_9 : decode cX11_wayAt 9 = .ok (.ireturn, 1) := by decide +kernel
theorem dX11_turn_0 : decode cX11_turn 0 = .ok (.iload_n 1, 1) := by decide +kernel
theorem dX11_turn_1 : decode cX11_turn 1 = .ok (.invokestatic 118, 3) := by decide +kernel
theorem dX11_turn_4 : decode cX11_turn 4 = .ok (.ifCond .eq 10, 3) := by decide +kernel
theorem dX11_turn_7 : decode cX11_turn 7 = .ok (.iload_n 2, 1) := by decide +kernel
theorem dX11_turn_8 : decode cX11_turn 8 = .ok (.invokestatic 121, 3) := by decide +kernel
theorem dX11_turn_11 : decode cX11_turn 11 = .ok (.ifCond .ne 6, 3) := by decide +kernel
theorem dX11_turn_14 : decode cX11_turn 14 = .ok (.bipush (-2), 2) := by decide +kernel
theorem dX11_turn_16 : decode cX11_turn 16 = .ok (.ireturn, 1) := by decide +kernel
theorem dX11_turn_17 : decode cX11_turn 17 = .ok (.aload_n 0, 1) := by decide +kernel
theorem dX11_turn_18 : decode cX11_turn 18 = .ok (.invokevirtual 124, 3) := by decide +kernel
theorem dX11_turn_21 : decode cX11_turn 21 = .ok (.iload_n 2, 1) := by decide +kernel
theorem dX11_turn_22 : decode cX11_turn 22 = .ok (.ifCond .ne 12, 3) := by decide +kernel
theorem dX11_turn_25 : decode cX11_turn 25 = .ok (.aload_n 0, 1) := by decide +kernel
theorem dX11_turn_26 : decode cX11_turn 26 = .ok (.getfield 16, 3) := by decide +kernel
theorem dX11_turn_29 : decode cX11_turn 29 = .ok (.iload_n 1, 1) := by decide +kernel
theorem dX11_turn_30 : decode cX11_turn 30 = .ok (.iaload, 1) := by decide +kernel
theorem dX11_turn_31 : decode cX11_turn 31 = .ok (.goto 12, 3) := by decide +kernel
theorem dX11_turn_34 : decode cX11_turn 34 = .ok (.aload_n 0, 1) := by decide +kernel
theorem dX11_turn_35 : decode cX11_turn 35 = .ok (.getfield 19, 3) := by decide +kernel
theorem dX11_turn_38 : decode cX11_turn 38 = .ok (.iload_n 1, 1) := by decide +kernel
theorem dX11_turn_39 : decode cX11_turn 39 = .ok (.iaload, 1) := by decide +kernel
theorem dX11_turn_40 : decode cX11_turn 40 = .ok (.bipush 100, 2) := by decide +kernel
theorem dX11_turn_42 : decode cX11_turn 42 = .ok (.iadd, 1) := by decide +kernel
theorem dX11_turn_43 : decode cX11_turn 43 = .ok (.ireturn, 1) := by decide +kernel
theorem dX11_sit_0 : decode cX11_sit 0 = .ok (.iload_n 1, 1) := by decide +kernel
theorem dX11_sit_1 : decode cX11_sit 1 = .ok (.i2l, 1) := by decide +kernel
theorem dX11_sit_2 : decode cX11_sit 2 = .ok (.lconst 0, 1) := by decide +kernel
theorem dX11_sit_3 : decode cX11_sit 3 = .ok (.ldc2_w 127, 3) := by decide +kernel
theorem dX11_sit_6 : decode cX11_sit 6 = .ok (.invokestatic 67, 3) := by decide +kernel
theorem dX11_sit_9 : decode cX11_sit 9 = .ok (.ifCond .eq 10, 3) := by decide +kernel
theorem dX11_sit_12 : decode cX11_sit 12 = .ok (.iload_n 2, 1) := by decide +kernel
theorem dX11_sit_13 : decode cX11_sit 13 = .ok (.invokestatic 129, 3) := by decide +kernel
theorem dX11_sit_16 : decode cX11_sit 16 = .ok (.ifCond .ne 6, 3) := by decide +kernel
theorem dX11_sit_19 : decode cX11_sit 19 = .ok (.bipush (-2), 2) := by decide +kernel
theorem dX11_sit_21 : decode cX11_sit 21 = .ok (.ireturn, 1) := by decide +kernel
theorem dX11_sit_22 : decode cX11_sit 22 = .ok (.aload_n 0, 1) := by decide +kernel
theorem dX11_sit_23 : decode cX11_sit 23 = .ok (.getfield 132, 3) := by decide +kernel
theorem dX11_sit_26 : decode cX11_sit 26 = .ok (.bipush 8, 2) := by decide +kernel
theorem dX11_sit_28 : decode cX11_sit 28 = .ok (.if_icmp .ne 6, 3) := by decide +kernel
theorem dX11_sit_31 : decode cX11_sit 31 = .ok (.bipush (-4), 2) := by decide +kernel
theorem dX11_sit_33 : decode cX11_sit 33 = .ok (.ireturn, 1) := by decide +kernel
theorem dX11_sit_34 : decode cX11_sit 34 = .ok (.aload_n 0, 1) := by decide +kernel
theorem dX11_sit_35 : decode cX11_sit 35 = .ok (.iload_n 1, 1) := by decide +kernel
theorem dX11_sit_36 : decode cX11_sit 36 = .ok (.iconst 0, 1) := by decide +kernel
theorem dX11_sit_37 : decode cX11_sit 37 = .ok (.iload_n 2, 1) := by decide +kernel
theorem dX11_sit_38 : decode cX11_sit 38 = .ok (.invokevirtual 135, 3) := by decide +kernel
theorem dX11_sit_41 : decode cX11_sit 41 = .ok (.aload_n 0, 1) := by decide +kernel
theorem dX11_sit_42 : decode cX11_sit 42 = .ok (.getfield 31, 3) := by decide +kernel
theorem dX11_sit_45 : decode cX11_sit 45 = .ok (.aload_n 0, 1) := by decide +kernel
theorem dX11_sit_46 : decode cX11_sit 46 = .ok (.getfield 132, 3) := by decide +kernel
theorem dX11_sit_49 : decode cX11_sit 49 = .ok (.aload_n 0, 1) := by decide +kernel
theorem dX11_sit_50 : decode cX11_sit 50 = .ok (.getfield 75, 3) := by decide +kernel
theorem dX11_sit_53 : decode cX11_sit 53 = .ok (.iastore, 1) := by decide +kernel
theorem dX11_sit_54 : decode cX11_sit 54 = .ok (.aload_n 0, 1) := by decide +kernel
theorem dX11_sit_55 : decode cX11_sit 55 = .ok (.getfield 34, 3) := by decide +kernel
theorem dX11_sit_58 : decode cX11_sit 58 = .ok (.aload_n 0, 1) := by decide +kernel
theorem dX11_sit_59 : decode cX11_sit 59 = .ok (.getfield 132, 3) := by decide +kernel
theorem dX11_sit_62 : decode cX11_sit 62 = .ok (.aload_n 0, 1) := by decide +kernel
theorem dX11_sit_63 : decode cX11_sit 63 = .ok (.getfield 79, 3) := by decide +kernel
theorem dX11_sit_66 : decode cX11_sit 66 = .ok (.iastore, 1) := by decide +kernel
theorem dX11_sit_67 : decode cX11_sit 67 = .ok (.aload_n 0, 1) := by decide +kernel
theorem dX11_sit_68 : decode cX11_sit 68 = .ok (.dup, 1) := by decide +kernel
theorem dX11_sit_69 : decode cX11_sit 69 = .ok (.getfield 132, 3) := by decide +kernel
theorem dX11_sit_72 : decode cX11_sit 72 = .ok (.iconst 1, 1) := by decide +kernel
theorem dX11_sit_73 : decode cX11_sit 73 = .ok (.iadd, 1) := by decide +kernel
theorem dX11_sit_74 : decode cX11_sit 74 = .ok (.putfield 132, 3) := by decide +kernel
theorem dX11_sit_77 : decode cX11_sit 77 = .ok (.aload_n 0, 1) := by decide +kernel
theorem dX11_sit_78 : decode cX11_sit 78 = .ok (.getfield 132, 3) := by decide +kernel
theorem dX11_sit_81 : decode cX11_sit 81 = .ok (.iconst 1, 1) := by decide +kernel
theorem dX11_sit_82 : decode cX11_sit 82 = .ok (.isub, 1) := by decide +kernel
theorem dX11_sit_83 : decode cX11_sit 83 = .ok (.ireturn, 1) := by decide +kernel
theorem dX11_isOne_0 : decode cX11_isOne 0 = .ok (.iload_n 1, 1) := by decide +kernel
theorem dX11_isOne_1 : decode cX11_isOne 1 = .ok (.i2l, 1) := by decide +kernel
theorem dX11_isOne_2 : decode cX11_isOne 2 = .ok (.lconst 0, 1) := by decide +kernel
theorem dX11_isOne_3 : decode cX11_isOne 3 = .ok (.aload_n 0, 1) := by decide +kernel
theorem dX11_isOne_4 : decode cX11_isOne 4 = .ok (.getfield 132, 3) := by decide +kernel
theorem dX11_isOne_7 : decode cX11_isOne 7 = .ok (.iconst 1, 1) := by decide +kernel
theorem dX11_isOne_8 : decode cX11_isOne 8 = .ok (.isub, 1) := by decide +kernel
theorem dX11_isOne_9 : decode cX11_isOne 9 = .ok (.i2l, 1) := by decide +kernel
theorem dX11_isOne_10 : decode cX11_isOne 10 = .ok (.invokestatic 67, 3) := by decide +kernel
theorem dX11_isOne_13 : decode cX11_isOne 13 = .ok (.ireturn, 1) := by decide +kernel
theorem dX11_layOne_0 : decode cX11_layOne 0 = .ok (.aload_n 0, 1) := by decide +kernel
theorem dX11_layOne_1 : decode cX11_layOne 1 = .ok (.aload_n 0, 1) := by decide +kernel
theorem dX11_layOne_2 : decode cX11_layOne 2 = .ok (.getfield 31, 3) := by decide +kernel
theorem dX11_layOne_5 : decode cX11_layOne 5 = .ok (.iload_n 1, 1) := by decide +kernel
theorem dX11_layOne_6 : decode cX11_layOne 6 = .ok (.iaload, 1) := by decide +kernel
theorem dX11_layOne_7 : decode cX11_layOne 7 = .ok (.aload_n 0, 1) := by decide +kernel
theorem dX11_layOne_8 : decode cX11_layOne 8 = .ok (.getfield 34, 3) := by decide +kernel
theorem dX11_layOne_11 : decode cX11_layOne 11 = .ok (.iload_n 1, 1) := by decide +kernel
theorem dX11_layOne_12 : decode cX11_layOne 12 = .ok (.iaload, 1) := by decide +kernel
theorem dX11_layOne_13 : decode cX11_layOne 13 = .ok (.aload_n 0, 1) := by decide +kernel
theorem dX11_layOne_14 : decode cX11_layOne 14 = .ok (.iload_n 2, 1) := by decide +kernel
theorem dX11_layOne_15 : decode cX11_layOne 15 = .ok (.invokevirtual 139, 3) := by decide +kernel
theorem dX11_layOne_18 : decode cX11_layOne 18 = .ok (.invokevirtual 135, 3) := by decide +kernel
theorem dX11_layOne_21 : decode cX11_layOne 21 = .ok (.return_, 1) := by decide +kernel
theorem dX11_point_0 : decode cX11_point 0 = .ok (.aload_n 0, 1) := by decide +kernel
theorem dX11_point_1 : decode cX11_point 1 = .ok (.iload_n 1, 1) := by decide +kernel
theorem dX11_point_2 : decode cX11_point 2 = .ok (.invokevirtual 142, 3) := by decide +kernel
theorem dX11_point_5 : decode cX11_point 5 = .ok (.ifCond .ne 6, 3) := by decide +kernel
theorem dX11_point_8 : decode cX11_point 8 = .ok (.ldc 145, 2) := by decide +kernel
theorem dX11_point_10 : decode cX11_point 10 = .ok (.ireturn, 1) := by decide +kernel
theorem dX11_point_11 : decode cX11_point 11 = .ok (.iload_n 2, 1) := by decide +kernel
theorem dX11_point_12 : decode cX11_point 12 = .ok (.invokestatic 118, 3) := by decide +kernel
theorem dX11_point_15 : decode cX11_point 15 = .ok (.ifCond .eq 15, 3) := by decide +kernel
theorem dX11_point_18 : decode cX11_point 18 = .ok (.iload_n 3, 1) := by decide +kernel
theorem dX11_point_19 : decode cX11_point 19 = .ok (.i2l, 1) := by decide +kernel
theorem dX11_point_20 : decode cX11_point 20 = .ok (.lconst 0, 1) := by decide +kernel
theorem dX11_point_21 : decode cX11_point 21 = .ok (.ldc2_w 146, 3) := by decide +kernel
theorem dX11_point_24 : decode cX11_point 24 = .ok (.invokestatic 67, 3) := by decide +kernel
theorem dX11_point_27 : decode cX11_point 27 = .ok (.ifCond .ne 6, 3) := by decide +kernel
theorem dX11_point_30 : decode cX11_point 30 = .ok (.ldc 148, 2) := by decide +kernel
theorem dX11_point_32 : decode cX11_point 32 = .ok (.ireturn, 1) := by decide +kernel
theorem dX11_point_33 : decode cX11_point 33 = .ok (.iload_n 3, 1) := by decide +kernel
theorem dX11_point_34 : decode cX11_point 34 = .ok (.iconst 2, 1) := by decide +kernel
theorem dX11_point_35 : decode cX11_point 35 = .ok (.if_icmp .ge 23, 3) := by decide +kernel
theorem dX11_point_38 : decode cX11_point 38 = .ok (.iload_n 3, 1) := by decide +kernel
theorem dX11_point_39 : decode cX11_point 39 = .ok (.ifCond .ne 12, 3) := by decide +kernel
theorem dX11_point_42 : decode cX11_point 42 = .ok (.aload_n 0, 1) := by decide +kernel
theorem dX11_point_43 : decode cX11_point 43 = .ok (.getfield 31, 3) := by decide +kernel
theorem dX11_point_46 : decode cX11_point 46 = .ok (.iload_n 1, 1) := by decide +kernel
theorem dX11_point_47 : decode cX11_point 47 = .ok (.iaload, 1) := by decide +kernel
theorem dX11_point_48 : decode cX11_point 48 = .ok (.goto 9, 3) := by decide +kernel
theorem dX11_point_51 : decode cX11_point 51 = .ok (.aload_n 0, 1) := by decide +kernel
theorem dX11_point_52 : decode cX11_point 52 = .ok (.getfield 34, 3) := by decide +kernel
theorem dX11_point_55 : decode cX11_point 55 = .ok (.iload_n 1, 1) := by decide +kernel
theorem dX11_point_56 : decode cX11_point 56 = .ok (.iaload, 1) := by decide +kernel
theorem dX11_point_57 : decode cX11_point 57 = .ok (.ireturn, 1) := by decide +kernel
theorem dX11_point_58 : decode cX11_point 58 = .ok (.aload_n 0, 1) := by decide +kernel
theorem dX11_point_59 : decode cX11_point 59 = .ok (.invokevirtual 124, 3) := by decide +kernel
theorem dX11_point_62 : decode cX11_point 62 = .ok (.aload_n 0, 1) := by decide +kernel
theorem dX11_point_63 : decode cX11_point 63 = .ok (.iload_n 1, 1) := by decide +kernel
theorem dX11_point_64 : decode cX11_point 64 = .ok (.iload_n 2, 1) := by decide +kernel
theorem dX11_point_65 : decode cX11_point 65 = .ok (.invokevirtual 149, 3) := by decide +kernel
theorem dX11_point_68 : decode cX11_point 68 = .ok (.iload_n 3, 1) := by decide +kernel
theorem dX11_point_69 : decode cX11_point 69 = .ok (.iconst 2, 1) := by decide +kernel
theorem dX11_point_70 : decode cX11_point 70 = .ok (.if_icmp .ne 10, 3) := by decide +kernel
theorem dX11_point_73 : decode cX11_point 73 = .ok (.aload_n 0, 1) := by decide +kernel
theorem dX11_point_74 : decode cX11_point 74 = .ok (.getfield 75, 3) := by decide +kernel
theorem dX11_point_77 : decode cX11_point 77 = .ok (.goto 7, 3) := by decide +kernel
theorem dX11_point_80 : decode cX11_point 80 = .ok (.aload_n 0, 1) := by decide +kernel
theorem dX11_point_81 : decode cX11_point 81 = .ok (.getfield 79, 3) := by decide +kernel
theorem dX11_point_84 : decode cX11_point 84 = .ok (.ireturn, 1) := by decide +kernel
theorem dX11_layThrow_0 : decode cX11_layThrow 0 = .ok (.aload_n 0, 1) := by decide +kernel
theorem dX11_layThrow_1 : decode cX11_layThrow 1 = .ok (.iload_n 1, 1) := by decide +kernel
theorem dX11_layThrow_2 : decode cX11_layThrow 2 = .ok (.iconst 0, 1) := by decide +kernel
theorem dX11_layThrow_3 : decode cX11_layThrow 3 = .ok (.invokevirtual 149, 3) := by decide +kernel
theorem dX11_layThrow_6 : decode cX11_layThrow 6 = .ok (.aload_n 0, 1) := by decide +kernel
theorem dX11_layThrow_7 : decode cX11_layThrow 7 = .ok (.aload_n 0, 1) := by decide +kernel
theorem dX11_layThrow_8 : decode cX11_layThrow 8 = .ok (.getfield 75, 3) := by decide +kernel
theorem dX11_layThrow_11 : decode cX11_layThrow 11 = .ok (.putfield 153, 3) := by decide +kernel
theorem dX11_layThrow_14 : decode cX11_layThrow 14 = .ok (.aload_n 0, 1) := by decide +kernel
theorem dX11_layThrow_15 : decode cX11_layThrow 15 = .ok (.aload_n 0, 1) := by decide +kernel
theorem dX11_layThrow_16 : decode cX11_layThrow 16 = .ok (.getfield 79, 3) := by decide +kernel
theorem dX11_layThrow_19 : decode cX11_layThrow 19 = .ok (.putfield 156, 3) := by decide +kernel
theorem dX11_layThrow_22 : decode cX11_layThrow 22 = .ok (.aload_n 0, 1) := by decide +kernel
theorem dX11_layThrow_23 : decode cX11_layThrow 23 = .ok (.iload_n 1, 1) := by decide +kernel
theorem dX11_layThrow_24 : decode cX11_layThrow 24 = .ok (.iconst 1, 1) := by decide +kernel
theorem dX11_layThrow_25 : decode cX11_layThrow 25 = .ok (.invokevirtual 149, 3) := by decide +kernel
theorem dX11_layThrow_28 : decode cX11_layThrow 28 = .ok (.aload_n 0, 1) := by decide +kernel
theorem dX11_layThrow_29 : decode cX11_layThrow 29 = .ok (.aload_n 0, 1) := by decide +kernel
theorem dX11_layThrow_30 : decode cX11_layThrow 30 = .ok (.getfield 75, 3) := by decide +kernel
theorem dX11_layThrow_33 : decode cX11_layThrow 33 = .ok (.aload_n 0, 1) := by decide +kernel
theorem dX11_layThrow_34 : decode cX11_layThrow 34 = .ok (.getfield 153, 3) := by decide +kernel
theorem dX11_layThrow_37 : decode cX11_layThrow 37 = .ok (.isub, 1) := by decide +kernel
theorem dX11_layThrow_38 : decode cX11_layThrow 38 = .ok (.putfield 159, 3) := by decide +kernel
theorem dX11_layThrow_41 : decode cX11_layThrow 41 = .ok (.aload_n 0, 1) := by decide +kernel
theorem dX11_layThrow_42 : decode cX11_layThrow 42 = .ok (.aload_n 0, 1) := by decide +kernel
theorem dX11_layThrow_43 : decode cX11_layThrow 43 = .ok (.getfield 79, 3) := by decide +kernel
theorem dX11_layThrow_46 : decode cX11_layThrow 46 = .ok (.aload_n 0, 1) := by decide +kernel
theorem dX11_layThrow_47 : decode cX11_layThrow 47 = .ok (.getfield 156, 3) := by decide +kernel
theorem dX11_layThrow_50 : decode cX11_layThrow 50 = .ok (.isub, 1) := by decide +kernel
theorem dX11_layThrow_51 : decode cX11_layThrow 51 = .ok (.putfield 162, 3) := by decide +kernel
theorem dX11_layThrow_54 : decode cX11_layThrow 54 = .ok (.aload_n 0, 1) := by decide +kernel
theorem dX11_layThrow_55 : decode cX11_layThrow 55 = .ok (.iload_n 2, 1) := by decide +kernel
theorem dX11_layThrow_56 : decode cX11_layThrow 56 = .ok (.iconst 0, 1) := by decide +kernel
theorem dX11_layThrow_57 : decode cX11_layThrow 57 = .ok (.iload_n 3, 1) := by decide +kernel
theorem dX11_layThrow_58 : decode cX11_layThrow 58 = .ok (.invokevirtual 135, 3) := by decide +kernel
theorem dX11_layThrow_61 : decode cX11_layThrow 61 = .ok (.aload_n 0, 1) := by decide +kernel
theorem dX11_layThrow_62 : decode cX11_layThrow 62 = .ok (.dup, 1) := by decide +kernel
theorem dX11_layThrow_63 : decode cX11_layThrow 63 = .ok (.getfield 159, 3) := by decide +kernel
theorem dX11_layThrow_66 : decode cX11_layThrow 66 = .ok (.aload_n 0, 1) := by decide +kernel
theorem dX11_layThrow_67 : decode cX11_layThrow 67 = .ok (.getfield 75, 3) := by decide +kernel
theorem dX11_layThrow_70 : decode cX11_layThrow 70 = .ok (.iadd, 1) := by decide +kernel
theorem dX11_layThrow_71 : decode cX11_layThrow 71 = .ok (.putfield 159, 3) := by decide +kernel
theorem dX11_layThrow_74 : decode cX11_layThrow 74 = .ok (.aload_n 0, 1) := by decide +kernel
theorem dX11_layThrow_75 : decode cX11_layThrow 75 = .ok (.dup, 1) := by decide +kernel
theorem dX11_layThrow_76 : decode cX11_layThrow 76 = .ok (.getfield 162, 3) := by decide +kernel
theorem dX11_layThrow_79 : decode cX11_layThrow 79 = .ok (.aload_n 0, 1) := by decide +kernel
theorem dX11_layThrow_80 : decode cX11_layThrow 80 = .ok (.getfield 79, 3) := by decide +kernel
theorem dX11_layThrow_83 : decode cX11_layThrow 83 = .ok (.iadd, 1) := by decide +kernel
theorem dX11_layThrow_84 : decode cX11_layThrow 84 = .ok (.putfield 162, 3) := by decide +kernel
theorem dX11_layThrow_87 : decode cX11_layThrow 87 = .ok (.return_, 1) := by decide +kernel
theorem dX11_ballX_0 : decode cX11_ballX 0 = .ok (.aload_n 0, 1) := by decide +kernel
theorem dX11_ballX_1 : decode cX11_ballX 1 = .ok (.getfield 153, 3) := by decide +kernel
theorem dX11_ballX_4 : decode cX11_ballX 4 = .ok (.iload_n 1, 1) := by decide +kernel
theorem dX11_ballX_5 : decode cX11_ballX 5 = .ok (.aload_n 0, 1) := by decide +kernel
theorem dX11_ballX_6 : decode cX11_ballX 6 = .ok (.getfield 159, 3) := by decide +kernel
theorem dX11_ballX_9 : decode cX11_ballX 9 = .ok (.imul, 1) := by decide +kernel
theorem dX11_ballX_10 : decode cX11_ballX 10 = .ok (.iadd, 1) := by decide +kernel
theorem dX11_ballX_11 : decode cX11_ballX 11 = .ok (.ireturn, 1) := by decide +kernel
theorem dX11_ballY_0 : decode cX11_ballY 0 = .ok (.aload_n 0, 1) := by decide +kernel
theorem dX11_ballY_1 : decode cX11_ballY 1 = .ok (.getfield 156, 3) := by decide +kernel
theorem dX11_ballY_4 : decode cX11_ballY 4 = .ok (.iload_n 1, 1) := by decide +kernel
theorem dX11_ballY_5 : decode cX11_ballY 5 = .ok (.aload_n 0, 1) := by decide +kernel
theorem dX11_ballY_6 : decode cX11_ballY 6 = .ok (.getfield 162, 3) := by decide +kernel
theorem dX11_ballY_9 : decode cX11_ballY 9 = .ok (.imul, 1) := by decide +kernel
theorem dX11_ballY_10 : decode cX11_ballY 10 = .ok (.iadd, 1) := by decide +kernel
theorem dX11_ballY_11 : decode cX11_ballY 11 = .ok (.ireturn, 1) := by decide +kernel
theorem dX11_seeBall_0 : decode cX11_seeBall 0 = .ok (.aload_n 0, 1) := by decide +kernel
theorem dX11_seeBall_1 : decode cX11_seeBall 1 = .ok (.aload_n 0, 1) := by decide +kernel
theorem dX11_seeBall_2 : decode cX11_seeBall 2 = .ok (.iload_n 1, 1) := by decide +kernel
theorem dX11_seeBall_3 : decode cX11_seeBall 3 = .ok (.invokevirtual 165, 3) := by decide +kernel
theorem dX11_seeBall_6 : decode cX11_seeBall 6 = .ok (.aload_n 0, 1) := by decide +kernel
theorem dX11_seeBall_7 : decode cX11_seeBall 7 = .ok (.iload_n 1, 1) := by decide +kernel
theorem dX11_seeBall_8 : decode cX11_seeBall 8 = .ok (.invokevirtual 168, 3) := by decide +kernel
theorem dX11_seeBall_11 : decode cX11_seeBall 11 = .ok (.bipush 24, 2) := by decide +kernel
theorem dX11_seeBall_13 : decode cX11_seeBall 13 = .ok (.aload_n 0, 1) := by decide +kernel
theorem dX11_seeBall_14 : decode cX11_seeBall 14 = .ok (.iload_n 1, 1) := by decide +kernel
theorem dX11_seeBall_15 : decode cX11_seeBall 15 = .ok (.invokevirtual 139, 3) := by decide +kernel
theorem dX11_seeBall_18 : decode cX11_seeBall 18 = .ok (.isub, 1) := by decide +kernel
theorem dX11_seeBall_19 : decode cX11_seeBall 19 = .ok (.bipush 24, 2) := by decide +kernel
theorem dX11_seeBall_21 : decode cX11_seeBall 21 = .ok (.irem, 1) := by decide +kernel
theorem dX11_seeBall_22 : decode cX11_seeBall 22 = .ok (.invokevirtual 135, 3) := by decide +kernel
theorem dX11_seeBall_25 : decode cX11_seeBall 25 = .ok (.return_, 1) := by decide +kernel
theorem dX11_isThrow_0 : decode cX11_isThrow 0 = .ok (.iload_n 0, 1) := by decide +kernel
theorem dX11_isThrow_1 : decode cX11_isThrow 1 = .ok (.i2l, 1) := by decide +kernel
theorem dX11_isThrow_2 : decode cX11_isThrow 2 = .ok (.lconst 0, 1) := by decide +kernel
theorem dX11_isThrow_3 : decode cX11_isThrow 3 = .ok (.ldc2_w 171, 3) := by decide +kernel
theorem dX11_isThrow_6 : decode cX11_isThrow 6 = .ok (.invokestatic 67, 3) := by decide +kernel
theorem dX11_isThrow_9 : decode cX11_isThrow 9 = .ok (.ifCond .eq 14, 3) := by decide +kernel
theorem dX11_isThrow_12 : decode cX11_isThrow 12 = .ok (.iload_n 1, 1) := by decide +kernel
theorem dX11_isThrow_13 : decode cX11_isThrow 13 = .ok (.invokestatic 129, 3) := by decide +kernel
theorem dX11_isThrow_16 : decode cX11_isThrow 16 = .ok (.ifCond .eq 7, 3) := by decide +kernel
theorem dX11_isThrow_19 : decode cX11_isThrow 19 = .ok (.iconst 1, 1) := by decide +kernel
theorem dX11_isThrow_20 : decode cX11_isThrow 20 = .ok (.goto 4, 3) := by decide +kernel
theorem dX11_isThrow_23 : decode cX11_isThrow 23 = .ok (.iconst 0, 1) := by decide +kernel
theorem dX11_isThrow_24 : decode cX11_isThrow 24 = .ok (.ireturn, 1) := by decide +kernel
theorem dX11_ball_0 : decode cX11_ball 0 = .ok (.aload_n 0, 1) := by decide +kernel
theorem dX11_ball_1 : decode cX11_ball 1 = .ok (.iload_n 1, 1) := by decide +kernel
theorem dX11_ball_2 : decode cX11_ball 2 = .ok (.invokevirtual 142, 3) := by decide +kernel
theorem dX11_ball_5 : decode cX11_ball 5 = .ok (.ifCond .ne 6, 3) := by decide +kernel
theorem dX11_ball_8 : decode cX11_ball 8 = .ok (.ldc 145, 2) := by decide +kernel
theorem dX11_ball_10 : decode cX11_ball 10 = .ok (.ireturn, 1) := by decide +kernel
theorem dX11_ball_11 : decode cX11_ball 11 = .ok (.iload_n 2, 1) := by decide +kernel
theorem dX11_ball_12 : decode cX11_ball 12 = .ok (.iload_n 3, 1) := by decide +kernel
theorem dX11_ball_13 : decode cX11_ball 13 = .ok (.invokestatic 173, 3) := by decide +kernel
theorem dX11_ball_16 : decode cX11_ball 16 = .ok (.ifCond .eq 24, 3) := by decide +kernel
theorem dX11_ball_19 : decode cX11_ball 19 = .ok (.iload 4, 2) := by decide +kernel
theorem dX11_ball_21 : decode cX11_ball 21 = .ok (.invokestatic 118, 3) := by decide +kernel
theorem dX11_ball_24 : decode cX11_ball 24 = .ok (.ifCond .eq 16, 3) := by decide +kernel
theorem dX11_ball_27 : decode cX11_ball 27 = .ok (.iload 5, 2) := by decide +kernel
theorem dX11_ball_29 : decode cX11_ball 29 = .ok (.i2l, 1) := by decide +kernel
theorem dX11_ball_30 : decode cX11_ball 30 = .ok (.lconst 0, 1) := by decide +kernel
theorem dX11_ball_31 : decode cX11_ball 31 = .ok (.ldc2_w 146, 3) := by decide +kernel
theorem dX11_ball_34 : decode cX11_ball 34 = .ok (.invokestatic 67, 3) := by decide +kernel
theorem dX11_ball_37 : decode cX11_ball 37 = .ok (.ifCond .ne 6, 3) := by decide +kernel
theorem dX11_ball_40 : decode cX11_ball 40 = .ok (.ldc 148, 2) := by decide +kernel
theorem dX11_ball_42 : decode cX11_ball 42 = .ok (.ireturn, 1) := by decide +kernel
theorem dX11_ball_43 : decode cX11_ball 43 = .ok (.aload_n 0, 1) := by decide +kernel
theorem dX11_ball_44 : decode cX11_ball 44 = .ok (.invokevirtual 124, 3) := by decide +kernel
theorem dX11_ball_47 : decode cX11_ball 47 = .ok (.aload_n 0, 1) := by decide +kernel
theorem dX11_ball_48 : decode cX11_ball 48 = .ok (.iload_n 1, 1) := by decide +kernel
theorem dX11_ball_49 : decode cX11_ball 49 = .ok (.iload_n 2, 1) := by decide +kernel
theorem dX11_ball_50 : decode cX11_ball 50 = .ok (.iload_n 3, 1) := by decide +kernel
theorem dX11_ball_51 : decode cX11_ball 51 = .ok (.invokevirtual 177, 3) := by decide +kernel
theorem dX11_ball_54 : decode cX11_ball 54 = .ok (.iload 5, 2) := by decide +kernel
theorem dX11_ball_56 : decode cX11_ball 56 = .ok (.iconst 2, 1) := by decide +kernel
theorem dX11_ball_57 : decode cX11_ball 57 = .ok (.if_icmp .ge 24, 3) := by decide +kernel
theorem dX11_ball_60 : decode cX11_ball 60 = .ok (.iload 5, 2) := by decide +kernel
theorem dX11_ball_62 : decode cX11_ball 62 = .ok (.ifCond .ne 12, 3) := by decide +kernel
theorem dX11_ball_65 : decode cX11_ball 65 = .ok (.aload_n 0, 1) := by decide +kernel
theorem dX11_ball_66 : decode cX11_ball 66 = .ok (.iload 4, 2) := by decide +kernel
theorem dX11_ball_68 : decode cX11_ball 68 = .ok (.invokevirtual 165, 3) := by decide +kernel
theorem dX11_ball_71 : decode cX11_ball 71 = .ok (.goto 9, 3) := by decide +kernel
theorem dX11_ball_74 : decode cX11_ball 74 = .ok (.aload_n 0, 1) := by decide +kernel
theorem dX11_ball_75 : decode cX11_ball 75 = .ok (.iload 4, 2) := by decide +kernel
theorem dX11_ball_77 : decode cX11_ball 77 = .ok (.invokevirtual 168, 3) := by decide +kernel
theorem dX11_ball_80 : decode cX11_ball 80 = .ok (.ireturn, 1) := by decide +kernel
theorem dX11_ball_81 : decode cX11_ball 81 = .ok (.aload_n 0, 1) := by decide +kernel
theorem dX11_ball_82 : decode cX11_ball 82 = .ok (.iload 4, 2) := by decide +kernel
theorem dX11_ball_84 : decode cX11_ball 84 = .ok (.invokevirtual 180, 3) := by decide +kernel
theorem dX11_ball_87 : decode cX11_ball 87 = .ok (.iload 5, 2) := by decide +kernel
theorem dX11_ball_89 : decode cX11_ball 89 = .ok (.iconst 2, 1) := by decide +kernel
theorem dX11_ball_90 : decode cX11_ball 90 = .ok (.if_icmp .ne 10, 3) := by decide +kernel
theorem dX11_ball_93 : decode cX11_ball 93 = .ok (.aload_n 0, 1) := by decide +kernel
theorem dX11_ball_94 : decode cX11_ball 94 = .ok (.getfield 75, 3) := by decide +kernel
theorem dX11_ball_97 : decode cX11_ball 97 = .ok (.goto 7, 3) := by decide +kernel
theorem dX11_ball_100 : decode cX11_ball 100 = .ok (.aload_n 0, 1) := by decide +kernel
theorem dX11_ball_101 : decode cX11_ball 101 = .ok (.getfield 79, 3) := by decide +kernel
theorem dX11_ball_104 : decode cX11_ball 104 = .ok (.ireturn, 1) := by decide +kernel
theorem dX11_farFrom_0 : decode cX11_farFrom 0 = .ok (.aload_n 0, 1) := by decide +kernel
theorem dX11_farFrom_1 : decode cX11_farFrom 1 = .ok (.iload_n 1, 1) := by decide +kernel
theorem dX11_farFrom_2 : decode cX11_farFrom 2 = .ok (.iload_n 2, 1) := by decide +kernel
theorem dX11_farFrom_3 : decode cX11_farFrom 3 = .ok (.invokevirtual 149, 3) := by decide +kernel
theorem dX11_farFrom_6 : decode cX11_farFrom 6 = .ok (.aload_n 0, 1) := by decide +kernel
theorem dX11_farFrom_7 : decode cX11_farFrom 7 = .ok (.iload_n 2, 1) := by decide +kernel
theorem dX11_farFrom_8 : decode cX11_farFrom 8 = .ok (.invokevirtual 165, 3) := by decide +kernel
theorem dX11_farFrom_11 : decode cX11_farFrom 11 = .ok (.aload_n 0, 1) := by decide +kernel
theorem dX11_farFrom_12 : decode cX11_farFrom 12 = .ok (.getfield 75, 3) := by decide +kernel
theorem dX11_farFrom_15 : decode cX11_farFrom 15 = .ok (.isub, 1) := by decide +kernel
theorem dX11_farFrom_16 : decode cX11_farFrom 16 = .ok (.invokestatic 184, 3) := by decide +kernel
theorem dX11_farFrom_19 : decode cX11_farFrom 19 = .ok (.istore_n 3, 1) := by decide +kernel
theorem dX11_farFrom_20 : decode cX11_farFrom 20 = .ok (.aload_n 0, 1) := by decide +kernel
theorem dX11_farFrom_21 : decode cX11_farFrom 21 = .ok (.iload_n 2, 1) := by decide +kernel
theorem dX11_farFrom_22 : decode cX11_farFrom 22 = .ok (.invokevirtual 168, 3) := by decide +kernel
theorem dX11_farFrom_25 : decode cX11_farFrom 25 = .ok (.aload_n 0, 1) := by decide +kernel
theorem dX11_farFrom_26 : decode cX11_farFrom 26 = .ok (.getfield 79, 3) := by decide +kernel
theorem dX11_farFrom_29 : decode cX11_farFrom 29 = .ok (.isub, 1) := by decide +kernel
theorem dX11_farFrom_30 : decode cX11_farFrom 30 = .ok (.invokestatic 184, 3) := by decide +kernel
theorem dX11_farFrom_33 : decode cX11_farFrom 33 = .ok (.istore 4, 2) := by decide +kernel
theorem dX11_farFrom_35 : decode cX11_farFrom 35 = .ok (.iload_n 3, 1) := by decide +kernel
theorem dX11_farFrom_36 : decode cX11_farFrom 36 = .ok (.iload 4, 2) := by decide +kernel
theorem dX11_farFrom_38 : decode cX11_farFrom 38 = .ok (.if_icmp .le 7, 3) := by decide +kernel
theorem dX11_farFrom_41 : decode cX11_farFrom 41 = .ok (.iload_n 3, 1) := by decide +kernel
theorem dX11_farFrom_42 : decode cX11_farFrom 42 = .ok (.goto 5, 3) := by decide +kernel
theorem dX11_farFrom_45 : decode cX11_farFrom 45 = .ok (.iload 4, 2) := by decide +kernel
theorem dX11_farFrom_47 : decode cX11_farFrom 47 = .ok (.ireturn, 1) := by decide +kernel
theorem dX11_caughtOf_0 : decode cX11_caughtOf 0 = .ok (.aload_n 0, 1) := by decide +kernel
theorem dX11_caughtOf_1 : decode cX11_caughtOf 1 = .ok (.iload_n 1, 1) := by decide +kernel
theorem dX11_caughtOf_2 : decode cX11_caughtOf 2 = .ok (.iload_n 2, 1) := by decide +kernel
theorem dX11_caughtOf_3 : decode cX11_caughtOf 3 = .ok (.iload_n 3, 1) := by decide +kernel
theorem dX11_caughtOf_4 : decode cX11_caughtOf 4 = .ok (.invokevirtual 177, 3) := by decide +kernel
theorem dX11_caughtOf_7 : decode cX11_caughtOf 7 = .ok (.iconst 1, 1) := by decide +kernel
theorem dX11_caughtOf_8 : decode cX11_caughtOf 8 = .ok (.istore 5, 2) := by decide +kernel
theorem dX11_caughtOf_10 : decode cX11_caughtOf 10 = .ok (.iload 5, 2) := by decide +kernel
theorem dX11_caughtOf_12 : decode cX11_caughtOf 12 = .ok (.bipush 60, 2) := by decide +kernel
theorem dX11_caughtOf_14 : decode cX11_caughtOf 14 = .ok (.if_icmp .gt 29, 3) := by decide +kernel
theorem dX11_caughtOf_17 : decode cX11_caughtOf 17 = .ok (.aload_n 0, 1) := by decide +kernel
theorem dX11_caughtOf_18 : decode cX11_caughtOf 18 = .ok (.iload 4, 2) := by decide +kernel
theorem dX11_caughtOf_20 : decode cX11_caughtOf 20 = .ok (.iload 5, 2) := by decide +kernel
theorem dX11_caughtOf_22 : decode cX11_caughtOf 22 = .ok (.invokevirtual 187, 3) := by decide +kernel
theorem dX11_caughtOf_25 : decode cX11_caughtOf 25 = .ok (.aload_n 0, 1) := by decide +kernel
theorem dX11_caughtOf_26 : decode cX11_caughtOf 26 = .ok (.getfield 13, 3) := by decide +kernel
theorem dX11_caughtOf_29 : decode cX11_caughtOf 29 = .ok (.iconst 2, 1) := by decide +kernel
theorem dX11_caughtOf_30 : decode cX11_caughtOf 30 = .ok (.iaload, 1) := by decide +kernel
theorem dX11_caughtOf_31 : decode cX11_caughtOf 31 = .ok (.if_icmp .gt 6, 3) := by decide +kernel
theorem dX11_caughtOf_34 : decode cX11_caughtOf 34 = .ok (.iload 5, 2) := by decide +kernel
theorem dX11_caughtOf_36 : decode cX11_caughtOf 36 = .ok (.ireturn, 1) := by decide +kernel
theorem dX11_caughtOf_37 : decode cX11_caughtOf 37 = .ok (.iinc 5 1, 3) := by decide +kernel
theorem dX11_caughtOf_40 : decode cX11_caughtOf 40 = .ok (.goto (-30), 3) := by decide +kernel
theorem dX11_caughtOf_43 : decode cX11_caughtOf 43 = .ok (.bipush (-6), 2) := by decide +kernel
theorem dX11_caughtOf_45 : decode cX11_caughtOf 45 = .ok (.ireturn, 1) := by decide +kernel
theorem dX11_caught_0 : decode cX11_caught 0 = .ok (.aload_n 0, 1) := by decide +kernel
theorem dX11_caught_1 : decode cX11_caught 1 = .ok (.iload_n 1, 1) := by decide +kernel
theorem dX11_caught_2 : decode cX11_caught 2 = .ok (.invokevirtual 142, 3) := by decide +kernel
theorem dX11_caught_5 : decode cX11_caught 5 = .ok (.ifCond .eq 12, 3) := by decide +kernel
theorem dX11_caught_8 : decode cX11_caught 8 = .ok (.aload_n 0, 1) := by decide +kernel
theorem dX11_caught_9 : decode cX11_caught 9 = .ok (.iload 4, 2) := by decide +kernel
theorem dX11_caught_11 : decode cX11_caught 11 = .ok (.invokevirtual 142, 3) := by decide +kernel
theorem dX11_caught_14 : decode cX11_caught 14 = .ok (.ifCond .ne 5, 3) := by decide +kernel
theorem dX11_caught_17 : decode cX11_caught 17 = .ok (.iconst (-1), 1) := by decide +kernel
theorem dX11_caught_18 : decode cX11_caught 18 = .ok (.ireturn, 1) := by decide +kernel
theorem dX11_caught_19 : decode cX11_caught 19 = .ok (.iload_n 2, 1) := by decide +kernel
theorem dX11_caught_20 : decode cX11_caught 20 = .ok (.iload_n 3, 1) := by decide +kernel
theorem dX11_caught_21 : decode cX11_caught 21 = .ok (.invokestatic 173, 3) := by decide +kernel
theorem dX11_caught_24 : decode cX11_caught 24 = .ok (.ifCond .ne 6, 3) := by decide +kernel
theorem dX11_caught_27 : decode cX11_caught 27 = .ok (.bipush (-2), 2) := by decide +kernel
theorem dX11_caught_29 : decode cX11_caught 29 = .ok (.ireturn, 1) := by decide +kernel
theorem dX11_caught_30 : decode cX11_caught 30 = .ok (.aload_n 0, 1) := by decide +kernel
theorem dX11_caught_31 : decode cX11_caught 31 = .ok (.invokevirtual 124, 3) := by decide +kernel
theorem dX11_caught_34 : decode cX11_caught 34 = .ok (.aload_n 0, 1) := by decide +kernel
theorem dX11_caught_35 : decode cX11_caught 35 = .ok (.iload_n 1, 1) := by decide +kernel
theorem dX11_caught_36 : decode cX11_caught 36 = .ok (.iload_n 2, 1) := by decide +kernel
theorem dX11_caught_37 : decode cX11_caught 37 = .ok (.iload_n 3, 1) := by decide +kernel
theorem dX11_caught_38 : decode cX11_caught 38 = .ok (.iload 4, 2) := by decide +kernel
theorem dX11_caught_40 : decode cX11_caught 40 = .ok (.invokevirtual 191, 3) := by decide +kernel
theorem dX11_caught_43 : decode cX11_caught 43 = .ok (.ireturn, 1) := by decide +kernel
theorem dX11_neighbours_0 : decode cX11_neighbours 0 = .ok (.iconst 0, 1) := by decide +kernel
theorem dX11_neighbours_1 : decode cX11_neighbours 1 = .ok (.istore_n 3, 1) := by decide +kernel
theorem dX11_neighbours_2 : decode cX11_neighbours 2 = .ok (.iload_n 1, 1) := by decide +kernel
theorem dX11_neighbours_3 : decode cX11_neighbours 3 = .ok (.iconst 1, 1) := by decide +kernel
theorem dX11_neighbours_4 : decode cX11_neighbours 4 = .ok (.isub, 1) := by decide +kernel
theorem dX11_neighbours_5 : decode cX11_neighbours 5 = .ok (.istore 4, 2) := by decide +kernel
theorem dX11_neighbours_7 : decode cX11_neighbours 7 = .ok (.iload 4, 2) := by decide +kernel
theorem dX11_neighbours_9 : decode cX11_neighbours 9 = .ok (.iload_n 1, 1) := by decide +kernel
theorem dX11_neighbours_10 : decode cX11_neighbours 10 = .ok (.iconst 1, 1) := by decide +kernel
theorem dX11_neighbours_11 : decode cX11_neighbours 11 = .ok (.iadd, 1) := by decide +kernel
theorem dX11_neighbours_12 : decode cX11_neighbours 12 = .ok (.if_icmp .gt 80, 3) := by decide +kernel
theorem dX11_neighbours_15 : decode cX11_neighbours 15 = .ok (.bipush 23, 2) := by decide +kernel
theorem dX11_neighbours_17 : decode cX11_neighbours 17 = .ok (.istore 5, 2) := by decide +kernel
theorem dX11_neighbours_19 : decode cX11_neighbours 19 = .ok (.iload 5, 2) := by decide +kernel
theorem dX11_neighbours_21 : decode cX11_neighbours 21 = .ok (.bipush 25, 2) := by decide +kernel
theorem dX11_neighbours_23 : decode cX11_neighbours 23 = .ok (.if_icmp .gt 63, 3) := by decide +kernel
theorem dX11_neighbours_26 : decode cX11_neighbours 26 = .ok (.iload 4, 2) := by decide +kernel
theorem dX11_neighbours_28 : decode cX11_neighbours 28 = .ok (.iload_n 1, 1) := by decide +kernel
theorem dX11_neighbours_29 : decode cX11_neighbours 29 = .ok (.if_icmp .ne 14, 3) := by decide +kernel
theorem dX11_neighbours_32 : decode cX11_neighbours 32 = .ok (.iload 5, 2) := by decide +kernel
theorem dX11_neighbours_34 : decode cX11_neighbours 34 = .ok (.bipush 24, 2) := by decide +kernel
theorem dX11_neighbours_36 : decode cX11_neighbours 36 = .ok (.if_icmp .ne 7, 3) := by decide +kernel
theorem dX11_neighbours_39 : decode cX11_neighbours 39 = .ok (.iconst 1, 1) := by decide +kernel
theorem dX11_neighbours_40 : decode cX11_neighbours 40 = .ok (.goto 4, 3) := by decide +kernel
theorem dX11_neighbours_43 : decode cX11_neighbours 43 = .ok (.iconst 0, 1) := by decide +kernel
theorem dX11_neighbours_44 : decode cX11_neighbours 44 = .ok (.istore 6, 2) := by decide +kernel
theorem dX11_neighbours_46 : decode cX11_neighbours 46 = .ok (.iload_n 3, 1) := by decide +kernel
theorem dX11_neighbours_47 : decode cX11_neighbours 47 = .ok (.iload 6, 2) := by decide +kernel
theorem dX11_neighbours_49 : decode cX11_neighbours 49 = .ok (.ifCond .ne 28, 3) := by decide +kernel
theorem dX11_neighbours_52 : decode cX11_neighbours 52 = .ok (.aload_n 0, 1) := by decide +kernel
theorem dX11_neighbours_53 : decode cX11_neighbours 53 = .ok (.getfield 37, 3) := by decide +kernel
theorem dX11_neighbours_56 : decode cX11_neighbours 56 = .ok (.bipush 24, 2) := by decide +kernel
theorem dX11_neighbours_58 : decode cX11_neighbours 58 = .ok (.iload 4, 2) := by decide +kernel
theorem dX11_neighbours_60 : decode cX11_neighbours 60 = .ok (.imul, 1) := by decide +kernel
theorem dX11_neighbours_61 : decode cX11_neighbours 61 = .ok (.iload_n 2, 1) := by decide +kernel
theorem dX11_neighbours_62 : decode cX11_neighbours 62 = .ok (.iload 5, 2) := by decide +kernel
theorem dX11_neighbours_64 : decode cX11_neighbours 64 = .ok (.iadd, 1) := by decide +kernel
theorem dX11_neighbours_65 : decode cX11_neighbours 65 = .ok (.bipush 24, 2) := by decide +kernel
theorem dX11_neighbours_67 : decode cX11_neighbours 67 = .ok (.irem, 1) := by decide +kernel
theorem dX11_neighbours_68 : decode cX11_neighbours 68 = .ok (.iadd, 1) := by decide +kernel
theorem dX11_neighbours_69 : decode cX11_neighbours 69 = .ok (.baload, 1) := by decide +kernel
theorem dX11_neighbours_70 : decode cX11_neighbours 70 = .ok (.ifCond .eq 7, 3) := by decide +kernel
theorem dX11_neighbours_73 : decode cX11_neighbours 73 = .ok (.iconst 1, 1) := by decide +kernel
theorem dX11_neighbours_74 : decode cX11_neighbours 74 = .ok (.goto 4, 3) := by decide +kernel
theorem dX11_neighbours_77 : decode cX11_neighbours 77 = .ok (.iconst 0, 1) := by decide +kernel
theorem dX11_neighbours_78 : decode cX11_neighbours 78 = .ok (.iadd, 1) := by decide +kernel
theorem dX11_neighbours_79 : decode cX11_neighbours 79 = .ok (.istore_n 3, 1) := by decide +kernel
theorem dX11_neighbours_80 : decode cX11_neighbours 80 = .ok (.iinc 5 1, 3) := by decide +kernel
theorem dX11_neighbours_83 : decode cX11_neighbours 83 = .ok (.goto (-64), 3) := by decide +kernel
theorem dX11_neighbours_86 : decode cX11_neighbours 86 = .ok (.iinc 4 1, 3) := by decide +kernel
theorem dX11_neighbours_89 : decode cX11_neighbours 89 = .ok (.goto (-82), 3) := by decide +kernel
theorem dX11_neighbours_92 : decode cX11_neighbours 92 = .ok (.iload_n 3, 1) := by decide +kernel
theorem dX11_neighbours_93 : decode cX11_neighbours 93 = .ok (.ireturn, 1) := by decide +kernel
theorem dX11_all_0 : decode cX11_all 0 = .ok (.aload_n 0, 1) := by decide +kernel
theorem dX11_all_1 : decode cX11_all 1 = .ok (.iload_n 1, 1) := by decide +kernel
theorem dX11_all_2 : decode cX11_all 2 = .ok (.invokevirtual 142, 3) := by decide +kernel
theorem dX11_all_5 : decode cX11_all 5 = .ok (.ifCond .eq 11, 3) := by decide +kernel
theorem dX11_all_8 : decode cX11_all 8 = .ok (.aload_n 0, 1) := by decide +kernel
theorem dX11_all_9 : decode cX11_all 9 = .ok (.iload_n 2, 1) := by decide +kernel
theorem dX11_all_10 : decode cX11_all 10 = .ok (.invokevirtual 142, 3) := by decide +kernel
theorem dX11_all_13 : decode cX11_all 13 = .ok (.ifCond .ne 5, 3) := by decide +kernel
theorem dX11_all_16 : decode cX11_all 16 = .ok (.iconst (-1), 1) := by decide +kernel
theorem dX11_all_17 : decode cX11_all 17 = .ok (.ireturn, 1) := by decide +kernel
theorem dX11_all_18 : decode cX11_all 18 = .ok (.iload_n 3, 1) := by decide +kernel
theorem dX11_all_19 : decode cX11_all 19 = .ok (.i2l, 1) := by decide +kernel
theorem dX11_all_20 : decode cX11_all 20 = .ok (.lconst 0, 1) := by decide +kernel
theorem dX11_all_21 : decode cX11_all 21 = .ok (.ldc2_w 146, 3) := by decide +kernel
theorem dX11_all_24 : decode cX11_all 24 = .ok (.invokestatic 67, 3) := by decide +kernel
theorem dX11_all_27 : decode cX11_all 27 = .ok (.ifCond .ne 6, 3) := by decide +kernel
theorem dX11_all_30 : decode cX11_all 30 = .ok (.bipush (-2), 2) := by decide +kernel
theorem dX11_all_32 : decode cX11_all 32 = .ok (.ireturn, 1) := by decide +kernel
theorem dX11_all_33 : decode cX11_all 33 = .ok (.aload_n 0, 1) := by decide +kernel
theorem dX11_all_34 : decode cX11_all 34 = .ok (.invokevirtual 124, 3) := by decide +kernel
theorem dX11_all_37 : decode cX11_all 37 = .ok (.iconst 0, 1) := by decide +kernel
theorem dX11_all_38 : decode cX11_all 38 = .ok (.istore 4, 2) := by decide +kernel
theorem dX11_all_40 : decode cX11_all 40 = .ok (.iload 4, 2) := by decide +kernel
theorem dX11_all_42 : decode cX11_all 42 = .ok (.bipush 61, 2) := by decide +kernel
theorem dX11_all_44 : decode cX11_all 44 = .ok (.if_icmp .gt 56, 3) := by decide +kernel
theorem dX11_all_47 : decode cX11_all 47 = .ok (.iconst 0, 1) := by decide +kernel
theorem dX11_all_48 : decode cX11_all 48 = .ok (.istore 5, 2) := by decide +kernel
theorem dX11_all_50 : decode cX11_all 50 = .ok (.iload 5, 2) := by decide +kernel
theorem dX11_all_52 : decode cX11_all 52 = .ok (.bipush 24, 2) := by decide +kernel
theorem dX11_all_54 : decode cX11_all 54 = .ok (.if_icmp .ge 40, 3) := by decide +kernel
theorem dX11_all_57 : decode cX11_all 57 = .ok (.aload_n 0, 1) := by decide +kernel
theorem dX11_all_58 : decode cX11_all 58 = .ok (.getfield 37, 3) := by decide +kernel
theorem dX11_all_61 : decode cX11_all 61 = .ok (.bipush 24, 2) := by decide +kernel
theorem dX11_all_63 : decode cX11_all 63 = .ok (.iload 4, 2) := by decide +kernel
theorem dX11_all_65 : decode cX11_all 65 = .ok (.imul, 1) := by decide +kernel
theorem dX11_all_66 : decode cX11_all 66 = .ok (.iload 5, 2) := by decide +kernel
theorem dX11_all_68 : decode cX11_all 68 = .ok (.iadd, 1) := by decide +kernel
theorem dX11_all_69 : decode cX11_all 69 = .ok (.aload_n 0, 1) := by decide +kernel
theorem dX11_all_70 : decode cX11_all 70 = .ok (.iload_n 1, 1) := by decide +kernel
theorem dX11_all_71 : decode cX11_all 71 = .ok (.iload 4, 2) := by decide +kernel
theorem dX11_all_73 : decode cX11_all 73 = .ok (.iload 5, 2) := by decide +kernel
theorem dX11_all_75 : decode cX11_all 75 = .ok (.iload_n 2, 1) := by decide +kernel
theorem dX11_all_76 : decode cX11_all 76 = .ok (.invokevirtual 191, 3) := by decide +kernel
theorem dX11_all_79 : decode cX11_all 79 = .ok (.ifCond .lt 7, 3) := by decide +kernel
theorem dX11_all_82 : decode cX11_all 82 = .ok (.iconst 1, 1) := by decide +kernel
theorem dX11_all_83 : decode cX11_all 83 = .ok (.goto 4, 3) := by decide +kernel
theorem dX11_all_86 : decode cX11_all 86 = .ok (.iconst 0, 1) := by decide +kernel
theorem dX11_all_87 : decode cX11_all 87 = .ok (.bastore, 1) := by decide +kernel
theorem dX11_all_88 : decode cX11_all 88 = .ok (.iinc 5 1, 3) := by decide +kernel
theorem dX11_all_91 : decode cX11_all 91 = .ok (.goto (-41), 3) := by decide +kernel
theorem dX11_all_94 : decode cX11_all 94 = .ok (.iinc 4 1, 3) := by decide +kernel
theorem dX11_all_97 : decode cX11_all 97 = .ok (.goto (-57), 3) := by decide +kernel
theorem dX11_all_100 : decode cX11_all 100 = .ok (.iconst 0, 1) := by decide +kernel
theorem dX11_all_101 : decode cX11_all 101 = .ok (.istore 4, 2) := by decide +kernel
theorem dX11_all_103 : decode cX11_all 103 = .ok (.bipush (-6), 2) := by decide +kernel
theorem dX11_all_105 : decode cX11_all 105 = .ok (.istore 5, 2) := by decide +kernel
theorem dX11_all_107 : decode cX11_all 107 = .ok (.iconst 0, 1) := by decide +kernel
theorem dX11_all_108 : decode cX11_all 108 = .ok (.istore 6, 2) := by decide +kernel
theorem dX11_all_110 : decode cX11_all 110 = .ok (.bipush 24, 2) := by decide +kernel
theorem dX11_all_112 : decode cX11_all 112 = .ok (.istore 7, 2) := by decide +kernel
theorem dX11_all_114 : decode cX11_all 114 = .ok (.iload 7, 2) := by decide +kernel
theorem dX11_all_116 : decode cX11_all 116 = .ok (.sipush 1464, 3) := by decide +kernel
theorem dX11_all_119 : decode cX11_all 119 = .ok (.if_icmp .ge 58, 3) := by decide +kernel
theorem dX11_all_122 : decode cX11_all 122 = .ok (.aload_n 0, 1) := by decide +kernel
theorem dX11_all_123 : decode cX11_all 123 = .ok (.getfield 37, 3) := by decide +kernel
theorem dX11_all_126 : decode cX11_all 126 = .ok (.iload 7, 2) := by decide +kernel
theorem dX11_all_128 : decode cX11_all 128 = .ok (.baload, 1) := by decide +kernel
theorem dX11_all_129 : decode cX11_all 129 = .ok (.ifCond .eq 42, 3) := by decide +kernel
theorem dX11_all_132 : decode cX11_all 132 = .ok (.iinc 4 1, 3) := by decide +kernel
theorem dX11_all_135 : decode cX11_all 135 = .ok (.aload_n 0, 1) := by decide +kernel
theorem dX11_all_136 : decode cX11_all 136 = .ok (.iload 7, 2) := by decide +kernel
theorem dX11_all_138 : decode cX11_all 138 = .ok (.bipush 24, 2) := by decide +kernel
theorem dX11_all_140 : decode cX11_all 140 = .ok (.idiv, 1) := by decide +kernel
theorem dX11_all_141 : decode cX11_all 141 = .ok (.iload 7, 2) := by decide +kernel
theorem dX11_all_143 : decode cX11_all 143 = .ok (.bipush 24, 2) := by decide +kernel
theorem dX11_all_145 : decode cX11_all 145 = .ok (.irem, 1) := by decide +kernel
theorem dX11_all_146 : decode cX11_all 146 = .ok (.invokevirtual 195, 3) := by decide +kernel
theorem dX11_all_149 : decode cX11_all 149 = .ok (.istore 8, 2) := by decide +kernel
theorem dX11_all_151 : decode cX11_all 151 = .ok (.iload 5, 2) := by decide +kernel
theorem dX11_all_153 : decode cX11_all 153 = .ok (.ifCond .lt 10, 3) := by decide +kernel
theorem dX11_all_156 : decode cX11_all 156 = .ok (.iload 8, 2) := by decide +kernel
theorem dX11_all_158 : decode cX11_all 158 = .ok (.iload 6, 2) := by decide +kernel
theorem dX11_all_160 : decode cX11_all 160 = .ok (.if_icmp .le 11, 3) := by decide +kernel
theorem dX11_all_163 : decode cX11_all 163 = .ok (.iload 7, 2) := by decide +kernel
theorem dX11_all_165 : decode cX11_all 165 = .ok (.istore 5, 2) := by decide +kernel
theorem dX11_all_167 : decode cX11_all 167 = .ok (.iload 8, 2) := by decide +kernel
theorem dX11_all_169 : decode cX11_all 169 = .ok (.istore 6, 2) := by decide +kernel
theorem dX11_all_171 : decode cX11_all 171 = .ok (.iinc 7 1, 3) := by decide +kernel
theorem dX11_all_174 : decode cX11_all 174 = .ok (.goto (-60), 3) := by decide +kernel
theorem dX11_all_177 : decode cX11_all 177 = .ok (.iload_n 3, 1) := by decide +kernel
theorem dX11_all_178 : decode cX11_all 178 = .ok (.ifCond .ne 6, 3) := by decide +kernel
theorem dX11_all_181 : decode cX11_all 181 = .ok (.iload 4, 2) := by decide +kernel
theorem dX11_all_183 : decode cX11_all 183 = .ok (.ireturn, 1) := by decide +kernel
theorem dX11_all_184 : decode cX11_all 184 = .ok (.iload 5, 2) := by decide +kernel
theorem dX11_all_186 : decode cX11_all 186 = .ok (.ifCond .ge 8, 3) := by decide +kernel
theorem dX11_all_189 : decode cX11_all 189 = .ok (.bipush (-6), 2) := by decide +kernel
theorem dX11_all_191 : decode cX11_all 191 = .ok (.goto 31, 3) := by decide +kernel
theorem dX11_all_194 : decode cX11_all 194 = .ok (.iload_n 3, 1) := by decide +kernel
theorem dX11_all_195 : decode cX11_all 195 = .ok (.iconst 1, 1) := by decide +kernel
theorem dX11_all_196 : decode cX11_all 196 = .ok (.if_icmp .ne 11, 3) := by decide +kernel
theorem dX11_all_199 : decode cX11_all 199 = .ok (.iload 5, 2) := by decide +kernel
theorem dX11_all_201 : decode cX11_all 201 = .ok (.bipush 24, 2) := by decide +kernel
theorem dX11_all_203 : decode cX11_all 203 = .ok (.idiv, 1) := by decide +kernel
theorem dX11_all_204 : decode cX11_all 204 = .ok (.goto 18, 3) := by decide +kernel
theorem dX11_all_207 : decode cX11_all 207 = .ok (.iload_n 3, 1) := by decide +kernel
theorem dX11_all_208 : decode cX11_all 208 = .ok (.iconst 2, 1) := by decide +kernel
theorem dX11_all_209 : decode cX11_all 209 = .ok (.if_icmp .ne 11, 3) := by decide +kernel
theorem dX11_all_212 : decode cX11_all 212 = .ok (.iload 5, 2) := by decide +kernel
theorem dX11_all_214 : decode cX11_all 214 = .ok (.bipush 24, 2) := by decide +kernel
theorem dX11_all_216 : decode cX11_all 216 = .ok (.irem, 1) := by decide +kernel
theorem dX11_all_217 : decode cX11_all 217 = .ok (.goto 5, 3) := by decide +kernel
theorem dX11_all_220 : decode cX11_all 220 = .ok (.iload 6, 2) := by decide +kernel
theorem dX11_all_222 : decode cX11_all 222 = .ok (.ireturn, 1) := by decide +kernel
theorem dX11_side_0 : decode cX11_side 0 = .ok (.aload_n 0, 1) := by decide +kernel
theorem dX11_side_1 : decode cX11_side 1 = .ok (.getfield 41, 3) := by decide +kernel
theorem dX11_side_4 : decode cX11_side 4 = .ok (.iload_n 2, 1) := by decide +kernel
theorem dX11_side_5 : decode cX11_side 5 = .ok (.iaload, 1) := by decide +kernel
theorem dX11_side_6 : decode cX11_side 6 = .ok (.aload_n 0, 1) := by decide +kernel
theorem dX11_side_7 : decode cX11_side 7 = .ok (.getfield 41, 3) := by decide +kernel
theorem dX11_side_10 : decode cX11_side 10 = .ok (.iload_n 1, 1) := by decide +kernel
theorem dX11_side_11 : decode cX11_side 11 = .ok (.iaload, 1) := by decide +kernel
theorem dX11_side_12 : decode cX11_side 12 = .ok (.isub, 1) := by decide +kernel
theorem dX11_side_13 : decode cX11_side 13 = .ok (.i2l, 1) := by decide +kernel
theorem dX11_side_14 : decode cX11_side 14 = .ok (.aload_n 0, 1) := by decide +kernel
theorem dX11_side_15 : decode cX11_side 15 = .ok (.getfield 44, 3) := by decide +kernel
theorem dX11_side_18 : decode cX11_side 18 = .ok (.iload_n 3, 1) := by decide +kernel
theorem dX11_side_19 : decode cX11_side 19 = .ok (.iaload, 1) := by decide +kernel
theorem dX11_side_20 : decode cX11_side 20 = .ok (.aload_n 0, 1) := by decide +kernel
theorem dX11_side_21 : decode cX11_side 21 = .ok (.getfield 44, 3) := by decide +kernel
theorem dX11_side_24 : decode cX11_side 24 = .ok (.iload_n 1, 1) := by decide +kernel
theorem dX11_side_25 : decode cX11_side 25 = .ok (.iaload, 1) := by decide +kernel
theorem dX11_side_26 : decode cX11_side 26 = .ok (.isub, 1) := by decide +kernel
theorem dX11_side_27 : decode cX11_side 27 = .ok (.i2l, 1) := by decide +kernel
theorem dX11_side_28 : decode cX11_side 28 = .ok (.lmul, 1) := by decide +kernel
theorem dX11_side_29 : decode cX11_side 29 = .ok (.aload_n 0, 1) := by decide +kernel
theorem dX11_side_30 : decode cX11_side 30 = .ok (.getfield 44, 3) := by decide +kernel
theorem dX11_side_33 : decode cX11_side 33 = .ok (.iload_n 2, 1) := by decide +kernel
theorem dX11_side_34 : decode cX11_side 34 = .ok (.iaload, 1) := by decide +kernel
theorem dX11_side_35 : decode cX11_side 35 = .ok (.aload_n 0, 1) := by decide +kernel
theorem dX11_side_36 : decode cX11_side 36 = .ok (.getfield 44, 3) := by decide +kernel
theorem dX11_side_39 : decode cX11_side 39 = .ok (.iload_n 1, 1) := by decide +kernel
theorem dX11_side_40 : decode cX11_side 40 = .ok (.iaload, 1) := by decide +kernel
theorem dX11_side_41 : decode cX11_side 41 = .ok (.isub, 1) := by decide +kernel
theorem dX11_side_42 : decode cX11_side 42 = .ok (.i2l, 1) := by decide +kernel
theorem dX11_side_43 : decode cX11_side 43 = .ok (.aload_n 0, 1) := by decide +kernel
theorem dX11_side_44 : decode cX11_side 44 = .ok (.getfield 41, 3) := by decide +kernel
theorem dX11_side_47 : decode cX11_side 47 = .ok (.iload_n 3, 1) := by decide +kernel
theorem dX11_side_48 : decode cX11_side 48 = .ok (.iaload, 1) := by decide +kernel
theorem dX11_side_49 : decode cX11_side 49 = .ok (.aload_n 0, 1) := by decide +kernel
theorem dX11_side_50 : decode cX11_side 50 = .ok (.getfield 41, 3) := by decide +kernel
theorem dX11_side_53 : decode cX11_side 53 = .ok (.iload_n 1, 1) := by decide +kernel
theorem dX11_side_54 : decode cX11_side 54 = .ok (.iaload, 1) := by decide +kernel
theorem dX11_side_55 : decode cX11_side 55 = .ok (.isub, 1) := by decide +kernel
theorem dX11_side_56 : decode cX11_side 56 = .ok (.i2l, 1) := by decide +kernel
theorem dX11_side_57 : decode cX11_side 57 = .ok (.lmul, 1) := by decide +kernel
theorem dX11_side_58 : decode cX11_side 58 = .ok (.lsub, 1) := by decide +kernel
theorem dX11_side_59 : decode cX11_side 59 = .ok (.lstore 4, 2) := by decide +kernel
theorem dX11_side_61 : decode cX11_side 61 = .ok (.lload 4, 2) := by decide +kernel
theorem dX11_side_63 : decode cX11_side 63 = .ok (.lconst 0, 1) := by decide +kernel
theorem dX11_side_64 : decode cX11_side 64 = .ok (.lcmp, 1) := by decide +kernel
theorem dX11_side_65 : decode cX11_side 65 = .ok (.ifCond .le 7, 3) := by decide +kernel
theorem dX11_side_68 : decode cX11_side 68 = .ok (.iconst 1, 1) := by decide +kernel
theorem dX11_side_69 : decode cX11_side 69 = .ok (.goto 15, 3) := by decide +kernel
theorem dX11_side_72 : decode cX11_side 72 = .ok (.lload 4, 2) := by decide +kernel
theorem dX11_side_74 : decode cX11_side 74 = .ok (.lconst 0, 1) := by decide +kernel
theorem dX11_side_75 : decode cX11_side 75 = .ok (.lcmp, 1) := by decide +kernel
theorem dX11_side_76 : decode cX11_side 76 = .ok (.ifCond .ge 7, 3) := by decide +kernel
theorem dX11_side_79 : decode cX11_side 79 = .ok (.iconst (-1), 1) := by decide +kernel
theorem dX11_side_80 : decode cX11_side 80 = .ok (.goto 4, 3) := by decide +kernel
theorem dX11_side_83 : decode cX11_side 83 = .ok (.iconst 0, 1) := by decide +kernel
theorem dX11_side_84 : decode cX11_side 84 = .ok (.ireturn, 1) := by decide +kernel
theorem dX11_isBetween_0 : decode cX11_isBetween 0 = .ok (.iload_n 1, 1) := by decide +kernel
theorem dX11_isBetween_1 : decode cX11_isBetween 1 = .ok (.iload_n 2, 1) := by decide +kernel
theorem dX11_isBetween_2 : decode cX11_isBetween 2 = .ok (.if_icmp .ge 15, 3) := by decide +kernel
theorem dX11_isBetween_5 : decode cX11_isBetween 5 = .ok (.iload_n 0, 1) := by decide +kernel
theorem dX11_isBetween_6 : decode cX11_isBetween 6 = .ok (.i2l, 1) := by decide +kernel
theorem dX11_isBetween_7 : decode cX11_isBetween 7 = .ok (.iload_n 1, 1) := by decide +kernel
theorem dX11_isBetween_8 : decode cX11_isBetween 8 = .ok (.i2l, 1) := by decide +kernel
theorem dX11_isBetween_9 : decode cX11_isBetween 9 = .ok (.iload_n 2, 1) := by decide +kernel
theorem dX11_isBetween_10 : decode cX11_isBetween 10 = .ok (.i2l, 1) := by decide +kernel
theorem dX11_isBetween_11 : decode cX11_isBetween 11 = .ok (.invokestatic 67, 3) := by decide +kernel
theorem dX11_isBetween_14 : decode cX11_isBetween 14 = .ok (.goto 12, 3) := by decide +kernel
theorem dX11_isBetween_17 : decode cX11_isBetween 17 = .ok (.iload_n 0, 1) := by decide +kernel
theorem dX11_isBetween_18 : decode cX11_isBetween 18 = .ok (.i2l, 1) := by decide +kernel
theorem dX11_isBetween_19 : decode cX11_isBetween 19 = .ok (.iload_n 2, 1) := by decide +kernel
theorem dX11_isBetween_20 : decode cX11_isBetween 20 = .ok (.i2l, 1) := by decide +kernel
theorem dX11_isBetween_21 : decode cX11_isBetween 21 = .ok (.iload_n 1, 1) := by decide +kernel
theorem dX11_isBetween_22 : decode cX11_isBetween 22 = .ok (.i2l, 1) := by decide +kernel
theorem dX11_isBetween_23 : decode cX11_isBetween 23 = .ok (.invokestatic 67, 3) := by decide +kernel
theorem dX11_isBetween_26 : decode cX11_isBetween 26 = .ok (.ireturn, 1) := by decide +kernel
theorem dX11_lies_0 : decode cX11_lies 0 = .ok (.aload_n 0, 1) := by decide +kernel
theorem dX11_lies_1 : decode cX11_lies 1 = .ok (.getfield 41, 3) := by decide +kernel
theorem dX11_lies_4 : decode cX11_lies 4 = .ok (.iload_n 1, 1) := by decide +kernel
theorem dX11_lies_5 : decode cX11_lies 5 = .ok (.iaload, 1) := by decide +kernel
theorem dX11_lies_6 : decode cX11_lies 6 = .ok (.aload_n 0, 1) := by decide +kernel
theorem dX11_lies_7 : decode cX11_lies 7 = .ok (.getfield 41, 3) := by decide +kernel
theorem dX11_lies_10 : decode cX11_lies 10 = .ok (.iload_n 2, 1) := by decide +kernel
theorem dX11_lies_11 : decode cX11_lies 11 = .ok (.iaload, 1) := by decide +kernel
theorem dX11_lies_12 : decode cX11_lies 12 = .ok (.aload_n 0, 1) := by decide +kernel
theorem dX11_lies_13 : decode cX11_lies 13 = .ok (.getfield 41, 3) := by decide +kernel
theorem dX11_lies_16 : decode cX11_lies 16 = .ok (.iload_n 3, 1) := by decide +kernel
theorem dX11_lies_17 : decode cX11_lies 17 = .ok (.iaload, 1) := by decide +kernel
theorem dX11_lies_18 : decode cX11_lies 18 = .ok (.invokestatic 198, 3) := by decide +kernel
theorem dX11_lies_21 : decode cX11_lies 21 = .ok (.ifCond .eq 31, 3) := by decide +kernel
theorem dX11_lies_24 : decode cX11_lies 24 = .ok (.aload_n 0, 1) := by decide +kernel
theorem dX11_lies_25 : decode cX11_lies 25 = .ok (.getfield 44, 3) := by decide +kernel
theorem dX11_lies_28 : decode cX11_lies 28 = .ok (.iload_n 1, 1) := by decide +kernel
theorem dX11_lies_29 : decode cX11_lies 29 = .ok (.iaload, 1) := by decide +kernel
theorem dX11_lies_30 : decode cX11_lies 30 = .ok (.aload_n 0, 1) := by decide +kernel
theorem dX11_lies_31 : decode cX11_lies 31 = .ok (.getfield 44, 3) := by decide +kernel
theorem dX11_lies_34 : decode cX11_lies 34 = .ok (.iload_n 2, 1) := by decide +kernel
theorem dX11_lies_35 : decode cX11_lies 35 = .ok (.iaload, 1) := by decide +kernel
theorem dX11_lies_36 : decode cX11_lies 36 = .ok (.aload_n 0, 1) := by decide +kernel
theorem dX11_lies_37 : decode cX11_lies 37 = .ok (.getfield 44, 3) := by decide +kernel
theorem dX11_lies_40 : decode cX11_lies 40 = .ok (.iload_n 3, 1) := by decide +kernel
theorem dX11_lies_41 : decode cX11_lies 41 = .ok (.iaload, 1) := by decide +kernel
theorem dX11_lies_42 : decode cX11_lies 42 = .ok (.invokestatic 198, 3) := by decide +kernel
theorem dX11_lies_45 : decode cX11_lies 45 = .ok (.ifCond .eq 7, 3) := by decide +kernel
theorem dX11_lies_48 : decode cX11_lies 48 = .ok (.iconst 1, 1) := by decide +kernel
theorem dX11_lies_49 : decode cX11_lies 49 = .ok (.goto 4, 3) := by decide +kernel
theorem dX11_lies_52 : decode cX11_lies 52 = .ok (.iconst 0, 1) := by decide +kernel
theorem dX11_lies_53 : decode cX11_lies 53 = .ok (.ireturn, 1) := by decide +kernel
theorem dX11_meet_0 : decode cX11_meet 0 = .ok (.iload_n 1, 1) := by decide +kernel
theorem dX11_meet_1 : decode cX11_meet 1 = .ok (.iconst 1, 1) := by decide +kernel
theorem dX11_meet_2 : decode cX11_meet 2 = .ok (.iadd, 1) := by decide +kernel
theorem dX11_meet_3 : decode cX11_meet 3 = .ok (.istore_n 3, 1) := by decide +kernel
theorem dX11_meet_4 : decode cX11_meet 4 = .ok (.iload_n 2, 1) := by decide +kernel
theorem dX11_meet_5 : decode cX11_meet 5 = .ok (.iconst 1, 1) := by decide +kernel
theorem dX11_meet_6 : decode cX11_meet 6 = .ok (.iadd, 1) := by decide +kernel
theorem dX11_meet_7 : decode cX11_meet 7 = .ok (.istore 4, 2) := by decide +kernel
theorem dX11_meet_9 : decode cX11_meet 9 = .ok (.aload_n 0, 1) := by decide +kernel
theorem dX11_meet_10 : decode cX11_meet 10 = .ok (.iload_n 1, 1) := by decide +kernel
theorem dX11_meet_11 : decode cX11_meet 11 = .ok (.iload_n 3, 1) := by decide +kernel
theorem dX11_meet_12 : decode cX11_meet 12 = .ok (.iload_n 2, 1) := by decide +kernel
theorem dX11_meet_13 : decode cX11_meet 13 = .ok (.invokevirtual 202, 3) := by decide +kernel
theorem dX11_meet_16 : decode cX11_meet 16 = .ok (.istore 5, 2) := by decide +kernel
theorem dX11_meet_18 : decode cX11_meet 18 = .ok (.aload_n 0, 1) := by decide +kernel
theorem dX11_meet_19 : decode cX11_meet 19 = .ok (.iload_n 1, 1) := by decide +kernel
theorem dX11_meet_20 : decode cX11_meet 20 = .ok (.iload_n 3, 1) := by decide +kernel
theorem dX11_meet_21 : decode cX11_meet 21 = .ok (.iload 4, 2) := by decide +kernel
theorem dX11_meet_23 : decode cX11_meet 23 = .ok (.invokevirtual 202, 3) := by decide +kernel
theorem dX11_meet_26 : decode cX11_meet 26 = .ok (.istore 6, 2) := by decide +kernel
theorem dX11_meet_28 : decode cX11_meet 28 = .ok (.aload_n 0, 1) := by decide +kernel
theorem dX11_meet_29 : decode cX11_meet 29 = .ok (.iload_n 2, 1) := by decide +kernel
theorem dX11_meet_30 : decode cX11_meet 30 = .ok (.iload 4, 2) := by decide +kernel
theorem dX11_meet_32 : decode cX11_meet 32 = .ok (.iload_n 1, 1) := by decide +kernel
theorem dX11_meet_33 : decode cX11_meet 33 = .ok (.invokevirtual 202, 3) := by decide +kernel
theorem dX11_meet_36 : decode cX11_meet 36 = .ok (.istore 7, 2) := by decide +kernel
theorem dX11_meet_38 : decode cX11_meet 38 = .ok (.aload_n 0, 1) := by decide +kernel
theorem dX11_meet_39 : decode cX11_meet 39 = .ok (.iload_n 2, 1) := by decide +kernel
theorem dX11_meet_40 : decode cX11_meet 40 = .ok (.iload 4, 2) := by decide +kernel
theorem dX11_meet_42 : decode cX11_meet 42 = .ok (.iload_n 3, 1) := by decide +kernel
theorem dX11_meet_43 : decode cX11_meet 43 = .ok (.invokevirtual 202, 3) := by decide +kernel
theorem dX11_meet_46 : decode cX11_meet 46 = .ok (.istore 8, 2) := by decide +kernel
theorem dX11_meet_48 : decode cX11_meet 48 = .ok (.iload 5, 2) := by decide +kernel
theorem dX11_meet_50 : decode cX11_meet 50 = .ok (.iload 6, 2) := by decide +kernel
theorem dX11_meet_52 : decode cX11_meet 52 = .ok (.if_icmp .eq 12, 3) := by decide +kernel
theorem dX11_meet_55 : decode cX11_meet 55 = .ok (.iload 7, 2) := by decide +kernel
theorem dX11_meet_57 : decode cX11_meet 57 = .ok (.iload 8, 2) := by decide +kernel
theorem dX11_meet_59 : decode cX11_meet 59 = .ok (.if_icmp .eq 5, 3) := by decide +kernel
theorem dX11_meet_62 : decode cX11_meet 62 = .ok (.iconst 1, 1) := by decide +kernel
theorem dX11_meet_63 : decode cX11_meet 63 = .ok (.ireturn, 1) := by decide +kernel
theorem dX11_meet_64 : decode cX11_meet 64 = .ok (.iload 5, 2) := by decide +kernel
theorem dX11_meet_66 : decode cX11_meet 66 = .ok (.ifCond .ne 13, 3) := by decide +kernel
theorem dX11_meet_69 : decode cX11_meet 69 = .ok (.aload_n 0, 1) := by decide +kernel
theorem dX11_meet_70 : decode cX11_meet 70 = .ok (.iload_n 2, 1) := by decide +kernel
theorem dX11_meet_71 : decode cX11_meet 71 = .ok (.iload_n 1, 1) := by decide +kernel
theorem dX11_meet_72 : decode cX11_meet 72 = .ok (.iload_n 3, 1) := by decide +kernel
theorem dX11_meet_73 : decode cX11_meet 73 = .ok (.invokevirtual 206, 3) := by decide +kernel
theorem dX11_meet_76 : decode cX11_meet 76 = .ok (.ifCond .ne 51, 3) := by decide +kernel
theorem dX11_meet_79 : decode cX11_meet 79 = .ok (.iload 6, 2) := by decide +kernel
theorem dX11_meet_81 : decode cX11_meet 81 = .ok (.ifCond .ne 14, 3) := by decide +kernel
theorem dX11_meet_84 : decode cX11_meet 84 = .ok (.aload_n 0, 1) := by decide +kernel
theorem dX11_meet_85 : decode cX11_meet 85 = .ok (.iload 4, 2) := by decide +kernel
theorem dX11_meet_87 : decode cX11_meet 87 = .ok (.iload_n 1, 1) := by decide +kernel
theorem dX11_meet_88 : decode cX11_meet 88 = .ok (.iload_n 3, 1) := by decide +kernel
theorem dX11_meet_89 : decode cX11_meet 89 = .ok (.invokevirtual 206, 3) := by decide +kernel
theorem dX11_meet_92 : decode cX11_meet 92 = .ok (.ifCond .ne 35, 3) := by decide +kernel
theorem dX11_meet_95 : decode cX11_meet 95 = .ok (.iload 7, 2) := by decide +kernel
theorem dX11_meet_97 : decode cX11_meet 97 = .ok (.ifCond .ne 14, 3) := by decide +kernel
theorem dX11_meet_100 : decode cX11_meet 100 = .ok (.aload_n 0, 1) := by decide +kernel
theorem dX11_meet_101 : decode cX11_meet 101 = .ok (.iload_n 1, 1) := by decide +kernel
theorem dX11_meet_102 : decode cX11_meet 102 = .ok (.iload_n 2, 1) := by decide +kernel
theorem dX11_meet_103 : decode cX11_meet 103 = .ok (.iload 4, 2) := by decide +kernel
theorem dX11_meet_105 : decode cX11_meet 105 = .ok (.invokevirtual 206, 3) := by decide +kernel
theorem dX11_meet_108 : decode cX11_meet 108 = .ok (.ifCond .ne 19, 3) := by decide +kernel
theorem dX11_meet_111 : decode cX11_meet 111 = .ok (.iload 8, 2) := by decide +kernel
theorem dX11_meet_113 : decode cX11_meet 113 = .ok (.ifCond .ne 18, 3) := by decide +kernel
theorem dX11_meet_116 : decode cX11_meet 116 = .ok (.aload_n 0, 1) := by decide +kernel
theorem dX11_meet_117 : decode cX11_meet 117 = .ok (.iload_n 3, 1) := by decide +kernel
theorem dX11_meet_118 : decode cX11_meet 118 = .ok (.iload_n 2, 1) := by decide +kernel
theorem dX11_meet_119 : decode cX11_meet 119 = .ok (.iload 4, 2) := by decide +kernel
theorem dX11_meet_121 : decode cX11_meet 121 = .ok (.invokevirtual 206, 3) := by decide +kernel
theorem dX11_meet_124 : decode cX11_meet 124 = .ok (.ifCond .eq 7, 3) := by decide +kernel
theorem dX11_meet_127 : decode cX11_meet 127 = .ok (.iconst 1, 1) := by decide +kernel
theorem dX11_meet_128 : decode cX11_meet 128 = .ok (.goto 4, 3) := by decide +kernel
theorem dX11_meet_131 : decode cX11_meet 131 = .ok (.iconst 0, 1) := by decide +kernel
theorem dX11_meet_132 : decode cX11_meet 132 = .ok (.ireturn, 1) := by decide +kernel
theorem dX11_loops_0 : decode cX11_loops 0 = .ok (.aload_n 0, 1) := by decide +kernel
theorem dX11_loops_1 : decode cX11_loops 1 = .ok (.iload_n 1, 1) := by decide +kernel
theorem dX11_loops_2 : decode cX11_loops 2 = .ok (.invokevirtual 142, 3) := by decide +kernel
theorem dX11_loops_5 : decode cX11_loops 5 = .ok (.ifCond .ne 5, 3) := by decide +kernel
theorem dX11_loops_8 : decode cX11_loops 8 = .ok (.iconst (-1), 1) := by decide +kernel
theorem dX11_loops_9 : decode cX11_loops 9 = .ok (.ireturn, 1) := by decide +kernel
theorem dX11_loops_10 : decode cX11_loops 10 = .ok (.iload_n 2, 1) := by decide +kernel
theorem dX11_loops_11 : decode cX11_loops 11 = .ok (.iload_n 3, 1) := by decide +kernel
theorem dX11_loops_12 : decode cX11_loops 12 = .ok (.invokestatic 173, 3) := by decide +kernel
theorem dX11_loops_15 : decode cX11_loops 15 = .ok (.ifCond .ne 6, 3) := by decide +kernel
theorem dX11_loops_18 : decode cX11_loops 18 = .ok (.bipush (-2), 2) := by decide +kernel
theorem dX11_loops_20 : decode cX11_loops 20 = .ok (.ireturn, 1) := by decide +kernel
