theorem dX0_init_0 : decode cX0_init 0 = .ok (.aload_n 0, 1) := by decide +kernel
theorem dX0_init_1 : decode cX0_init 1 = .ok (.invokespecial 3, 3) := by decide +kernel
theorem dX0_init_4 : decode cX0_init 4 = .ok (.return_, 1) := by decide +kernel
theorem dX0_launch_0 : decode cX0_launch 0 = .ok (.aload 5, 2) := by decide +kernel
theorem dX0_launch_2 : decode cX0_launch 2 = .ok (.iconst 1, 1) := by decide +kernel
theorem dX0_launch_3 : decode cX0_launch 3 = .ok (.invokevirtual 9, 3) := by decide +kernel
theorem dX0_launch_6 : decode cX0_launch 6 = .ok (.istore 6, 2) := by decide +kernel
theorem dX0_launch_8 : decode cX0_launch 8 = .ok (.aload_n 0, 1) := by decide +kernel
theorem dX0_launch_9 : decode cX0_launch 9 = .ok (.iload_n 1, 1) := by decide +kernel
theorem dX0_launch_10 : decode cX0_launch 10 = .ok (.i2l, 1) := by decide +kernel
theorem dX0_launch_11 : decode cX0_launch 11 = .ok (.putfield 15, 3) := by decide +kernel
theorem dX0_launch_14 : decode cX0_launch 14 = .ok (.aload_n 0, 1) := by decide +kernel
theorem dX0_launch_15 : decode cX0_launch 15 = .ok (.iload_n 2, 1) := by decide +kernel
theorem dX0_launch_16 : decode cX0_launch 16 = .ok (.i2l, 1) := by decide +kernel
theorem dX0_launch_17 : decode cX0_launch 17 = .ok (.putfield 21, 3) := by decide +kernel
theorem dX0_launch_20 : decode cX0_launch 20 = .ok (.aload_n 0, 1) := by decide +kernel
theorem dX0_launch_21 : decode cX0_launch 21 = .ok (.aload_n 0, 1) := by decide +kernel
theorem dX0_launch_22 : decode cX0_launch 22 = .ok (.getfield 15, 3) := by decide +kernel
theorem dX0_launch_25 : decode cX0_launch 25 = .ok (.aload_n 0, 1) := by decide +kernel
theorem dX0_launch_26 : decode cX0_launch 26 = .ok (.getfield 21, 3) := by decide +kernel
theorem dX0_launch_29 : decode cX0_launch 29 = .ok (.iload 6, 2) := by decide +kernel
theorem dX0_launch_31 : decode cX0_launch 31 = .ok (.invokestatic 24, 3) := by decide +kernel
theorem dX0_launch_34 : decode cX0_launch 34 = .ok (.aload_n 0, 1) := by decide +kernel
theorem dX0_launch_35 : decode cX0_launch 35 = .ok (.getfield 15, 3) := by decide +kernel
theorem dX0_launch_38 : decode cX0_launch 38 = .ok (.lsub, 1) := by decide +kernel
theorem dX0_launch_39 : decode cX0_launch 39 = .ok (.putfield 30, 3) := by decide +kernel
theorem dX0_launch_42 : decode cX0_launch 42 = .ok (.aload_n 0, 1) := by decide +kernel
theorem dX0_launch_43 : decode cX0_launch 43 = .ok (.aload_n 0, 1) := by decide +kernel
theorem dX0_launch_44 : decode cX0_launch 44 = .ok (.getfield 15, 3) := by decide +kernel
theorem dX0_launch_47 : decode cX0_launch 47 = .ok (.aload_n 0, 1) := by decide +kernel
theorem dX0_launch_48 : decode cX0_launch 48 = .ok (.getfield 21, 3) := by decide +kernel
theorem dX0_launch_51 : decode cX0_launch 51 = .ok (.iload 6, 2) := by decide +kernel
theorem dX0_launch_53 : decode cX0_launch 53 = .ok (.invokestatic 33, 3) := by decide +kernel
theorem dX0_launch_56 : decode cX0_launch 56 = .ok (.aload_n 0, 1) := by decide +kernel
theorem dX0_launch_57 : decode cX0_launch 57 = .ok (.getfield 21, 3) := by decide +kernel
theorem dX0_launch_60 : decode cX0_launch 60 = .ok (.lsub, 1) := by decide +kernel
theorem dX0_launch_61 : decode cX0_launch 61 = .ok (.putfield 36, 3) := by decide +kernel
theorem dX0_launch_64 : decode cX0_launch 64 = .ok (.aload_n 0, 1) := by decide +kernel
theorem dX0_launch_65 : decode cX0_launch 65 = .ok (.iload_n 3, 1) := by decide +kernel
theorem dX0_launch_66 : decode cX0_launch 66 = .ok (.iload 4, 2) := by decide +kernel
theorem dX0_launch_68 : decode cX0_launch 68 = .ok (.invokevirtual 39, 3) := by decide +kernel
theorem dX0_launch_71 : decode cX0_launch 71 = .ok (.return_, 1) := by decide +kernel
theorem dX0_throwAnew_0 : decode cX0_throwAnew 0 = .ok (.aload_n 0, 1) := by decide +kernel
theorem dX0_throwAnew_1 : decode cX0_throwAnew 1 = .ok (.iload_n 1, 1) := by decide +kernel
theorem dX0_throwAnew_2 : decode cX0_throwAnew 2 = .ok (.i2l, 1) := by decide +kernel
theorem dX0_throwAnew_3 : decode cX0_throwAnew 3 = .ok (.lconst 0, 1) := by decide +kernel
theorem dX0_throwAnew_4 : decode cX0_throwAnew 4 = .ok (.iload_n 2, 1) := by decide +kernel
theorem dX0_throwAnew_5 : decode cX0_throwAnew 5 = .ok (.invokestatic 24, 3) := by decide +kernel
theorem dX0_throwAnew_8 : decode cX0_throwAnew 8 = .ok (.aload_n 0, 1) := by decide +kernel
theorem dX0_throwAnew_9 : decode cX0_throwAnew 9 = .ok (.getfield 30, 3) := by decide +kernel
theorem dX0_throwAnew_12 : decode cX0_throwAnew 12 = .ok (.ladd, 1) := by decide +kernel
theorem dX0_throwAnew_13 : decode cX0_throwAnew 13 = .ok (.putfield 43, 3) := by decide +kernel
theorem dX0_throwAnew_16 : decode cX0_throwAnew 16 = .ok (.aload_n 0, 1) := by decide +kernel
theorem dX0_throwAnew_17 : decode cX0_throwAnew 17 = .ok (.iload_n 1, 1) := by decide +kernel
theorem dX0_throwAnew_18 : decode cX0_throwAnew 18 = .ok (.i2l, 1) := by decide +kernel
theorem dX0_throwAnew_19 : decode cX0_throwAnew 19 = .ok (.lconst 0, 1) := by decide +kernel
theorem dX0_throwAnew_20 : decode cX0_throwAnew 20 = .ok (.iload_n 2, 1) := by decide +kernel
theorem dX0_throwAnew_21 : decode cX0_throwAnew 21 = .ok (.invokestatic 33, 3) := by decide +kernel
theorem dX0_throwAnew_24 : decode cX0_throwAnew 24 = .ok (.aload_n 0, 1) := by decide +kernel
theorem dX0_throwAnew_25 : decode cX0_throwAnew 25 = .ok (.getfield 36, 3) := by decide +kernel
theorem dX0_throwAnew_28 : decode cX0_throwAnew 28 = .ok (.ladd, 1) := by decide +kernel
theorem dX0_throwAnew_29 : decode cX0_throwAnew 29 = .ok (.putfield 46, 3) := by decide +kernel
theorem dX0_throwAnew_32 : decode cX0_throwAnew 32 = .ok (.return_, 1) := by decide +kernel
theorem dX0_xBehind_0 : decode cX0_xBehind 0 = .ok (.aload_n 0, 1) := by decide +kernel
theorem dX0_xBehind_1 : decode cX0_xBehind 1 = .ok (.getfield 15, 3) := by decide +kernel
theorem dX0_xBehind_4 : decode cX0_xBehind 4 = .ok (.iload_n 1, 1) := by decide +kernel
theorem dX0_xBehind_5 : decode cX0_xBehind 5 = .ok (.i2l, 1) := by decide +kernel
theorem dX0_xBehind_6 : decode cX0_xBehind 6 = .ok (.aload_n 0, 1) := by decide +kernel
theorem dX0_xBehind_7 : decode cX0_xBehind 7 = .ok (.getfield 43, 3) := by decide +kernel
theorem dX0_xBehind_10 : decode cX0_xBehind 10 = .ok (.lmul, 1) := by decide +kernel
theorem dX0_xBehind_11 : decode cX0_xBehind 11 = .ok (.ladd, 1) := by decide +kernel
theorem dX0_xBehind_12 : decode cX0_xBehind 12 = .ok (.lreturn, 1) := by decide +kernel
theorem dX0_yBehind_0 : decode cX0_yBehind 0 = .ok (.aload_n 0, 1) := by decide +kernel
theorem dX0_yBehind_1 : decode cX0_yBehind 1 = .ok (.getfield 21, 3) := by decide +kernel
theorem dX0_yBehind_4 : decode cX0_yBehind 4 = .ok (.iload_n 1, 1) := by decide +kernel
theorem dX0_yBehind_5 : decode cX0_yBehind 5 = .ok (.i2l, 1) := by decide +kernel
theorem dX0_yBehind_6 : decode cX0_yBehind 6 = .ok (.aload_n 0, 1) := by decide +kernel
theorem dX0_yBehind_7 : decode cX0_yBehind 7 = .ok (.getfield 46, 3) := by decide +kernel
theorem dX0_yBehind_10 : decode cX0_yBehind 10 = .ok (.lmul, 1) := by decide +kernel
theorem dX0_yBehind_11 : decode cX0_yBehind 11 = .ok (.ladd, 1) := by decide +kernel
theorem dX0_yBehind_12 : decode cX0_yBehind 12 = .ok (.lreturn, 1) := by decide +kernel
theorem dX0_gap_0 : decode cX0_gap 0 = .ok (.aload_n 0, 1) := by decide +kernel
theorem dX0_gap_1 : decode cX0_gap 1 = .ok (.iload_n 2, 1) := by decide +kernel
theorem dX0_gap_2 : decode cX0_gap 2 = .ok (.invokevirtual 49, 3) := by decide +kernel
theorem dX0_gap_5 : decode cX0_gap 5 = .ok (.aload_n 1, 1) := by decide +kernel
theorem dX0_gap_6 : decode cX0_gap 6 = .ok (.getfield 53, 3) := by decide +kernel
theorem dX0_gap_9 : decode cX0_gap 9 = .ok (.iload_n 2, 1) := by decide +kernel
theorem dX0_gap_10 : decode cX0_gap 10 = .ok (.laload, 1) := by decide +kernel
theorem dX0_gap_11 : decode cX0_gap 11 = .ok (.lsub, 1) := by decide +kernel
theorem dX0_gap_12 : decode cX0_gap 12 = .ok (.invokestatic 59, 3) := by decide +kernel
theorem dX0_gap_15 : decode cX0_gap 15 = .ok (.aload_n 0, 1) := by decide +kernel
theorem dX0_gap_16 : decode cX0_gap 16 = .ok (.iload_n 2, 1) := by decide +kernel
theorem dX0_gap_17 : decode cX0_gap 17 = .ok (.invokevirtual 65, 3) := by decide +kernel
theorem dX0_gap_20 : decode cX0_gap 20 = .ok (.aload_n 1, 1) := by decide +kernel
theorem dX0_gap_21 : decode cX0_gap 21 = .ok (.getfield 68, 3) := by decide +kernel
theorem dX0_gap_24 : decode cX0_gap 24 = .ok (.iload_n 2, 1) := by decide +kernel
theorem dX0_gap_25 : decode cX0_gap 25 = .ok (.laload, 1) := by decide +kernel
theorem dX0_gap_26 : decode cX0_gap 26 = .ok (.lsub, 1) := by decide +kernel
theorem dX0_gap_27 : decode cX0_gap 27 = .ok (.invokestatic 59, 3) := by decide +kernel
theorem dX0_gap_30 : decode cX0_gap 30 = .ok (.invokestatic 71, 3) := by decide +kernel
theorem dX0_gap_33 : decode cX0_gap 33 = .ok (.lreturn, 1) := by decide +kernel
theorem dX0_tickCaught_0 : decode cX0_tickCaught 0 = .ok (.iconst 1, 1) := by decide +kernel
theorem dX0_tickCaught_1 : decode cX0_tickCaught 1 = .ok (.istore_n 3, 1) := by decide +kernel
theorem dX0_tickCaught_2 : decode cX0_tickCaught 2 = .ok (.iload_n 3, 1) := by decide +kernel
theorem dX0_tickCaught_3 : decode cX0_tickCaught 3 = .ok (.bipush 60, 2) := by decide +kernel
theorem dX0_tickCaught_5 : decode cX0_tickCaught 5 = .ok (.if_icmp .gt 23, 3) := by decide +kernel
theorem dX0_tickCaught_8 : decode cX0_tickCaught 8 = .ok (.aload_n 0, 1) := by decide +kernel
theorem dX0_tickCaught_9 : decode cX0_tickCaught 9 = .ok (.aload_n 1, 1) := by decide +kernel
theorem dX0_tickCaught_10 : decode cX0_tickCaught 10 = .ok (.iload_n 3, 1) := by decide +kernel
theorem dX0_tickCaught_11 : decode cX0_tickCaught 11 = .ok (.invokevirtual 75, 3) := by decide +kernel
theorem dX0_tickCaught_14 : decode cX0_tickCaught 14 = .ok (.iload_n 2, 1) := by decide +kernel
theorem dX0_tickCaught_15 : decode cX0_tickCaught 15 = .ok (.i2l, 1) := by decide +kernel
theorem dX0_tickCaught_16 : decode cX0_tickCaught 16 = .ok (.lcmp, 1) := by decide +kernel
theorem dX0_tickCaught_17 : decode cX0_tickCaught 17 = .ok (.ifCond .gt 5, 3) := by decide +kernel
theorem dX0_tickCaught_20 : decode cX0_tickCaught 20 = .ok (.iload_n 3, 1) := by decide +kernel
theorem dX0_tickCaught_21 : decode cX0_tickCaught 21 = .ok (.ireturn, 1) := by decide +kernel
theorem dX0_tickCaught_22 : decode cX0_tickCaught 22 = .ok (.iinc 3 1, 3) := by decide +kernel
theorem dX0_tickCaught_25 : decode cX0_tickCaught 25 = .ok (.goto (-23), 3) := by decide +kernel
theorem dX0_tickCaught_28 : decode cX0_tickCaught 28 = .ok (.bipush (-6), 2) := by decide +kernel
theorem dX0_tickCaught_30 : decode cX0_tickCaught 30 = .ok (.ireturn, 1) := by decide +kernel
theorem dX0_tickNearest_0 : decode cX0_tickNearest 0 = .ok (.iconst 1, 1) := by decide +kernel
theorem dX0_tickNearest_1 : decode cX0_tickNearest 1 = .ok (.istore_n 2, 1) := by decide +kernel
theorem dX0_tickNearest_2 : decode cX0_tickNearest 2 = .ok (.aload_n 0, 1) := by decide +kernel
theorem dX0_tickNearest_3 : decode cX0_tickNearest 3 = .ok (.aload_n 1, 1) := by decide +kernel
theorem dX0_tickNearest_4 : decode cX0_tickNearest 4 = .ok (.iconst 1, 1) := by decide +kernel
theorem dX0_tickNearest_5 : decode cX0_tickNearest 5 = .ok (.invokevirtual 75, 3) := by decide +kernel
theorem dX0_tickNearest_8 : decode cX0_tickNearest 8 = .ok (.lstore_n 3, 1) := by decide +kernel
theorem dX0_tickNearest_9 : decode cX0_tickNearest 9 = .ok (.iconst 2, 1) := by decide +kernel
theorem dX0_tickNearest_10 : decode cX0_tickNearest 10 = .ok (.istore 5, 2) := by decide +kernel
theorem dX0_tickNearest_12 : decode cX0_tickNearest 12 = .ok (.iload 5, 2) := by decide +kernel
theorem dX0_tickNearest_14 : decode cX0_tickNearest 14 = .ok (.bipush 60, 2) := by decide +kernel
theorem dX0_tickNearest_16 : decode cX0_tickNearest 16 = .ok (.if_icmp .gt 31, 3) := by decide +kernel
theorem dX0_tickNearest_19 : decode cX0_tickNearest 19 = .ok (.aload_n 0, 1) := by decide +kernel
theorem dX0_tickNearest_20 : decode cX0_tickNearest 20 = .ok (.aload_n 1, 1) := by decide +kernel
theorem dX0_tickNearest_21 : decode cX0_tickNearest 21 = .ok (.iload 5, 2) := by decide +kernel
theorem dX0_tickNearest_23 : decode cX0_tickNearest 23 = .ok (.invokevirtual 75, 3) := by decide +kernel
theorem dX0_tickNearest_26 : decode cX0_tickNearest 26 = .ok (.lstore 6, 2) := by decide +kernel
theorem dX0_tickNearest_28 : decode cX0_tickNearest 28 = .ok (.lload 6, 2) := by decide +kernel
theorem dX0_tickNearest_30 : decode cX0_tickNearest 30 = .ok (.lload_n 3, 1) := by decide +kernel
theorem dX0_tickNearest_31 : decode cX0_tickNearest 31 = .ok (.lcmp, 1) := by decide +kernel
theorem dX0_tickNearest_32 : decode cX0_tickNearest 32 = .ok (.ifCond .ge 9, 3) := by decide +kernel
theorem dX0_tickNearest_35 : decode cX0_tickNearest 35 = .ok (.lload 6, 2) := by decide +kernel
theorem dX0_tickNearest_37 : decode cX0_tickNearest 37 = .ok (.lstore_n 3, 1) := by decide +kernel
theorem dX0_tickNearest_38 : decode cX0_tickNearest 38 = .ok (.iload 5, 2) := by decide +kernel
theorem dX0_tickNearest_40 : decode cX0_tickNearest 40 = .ok (.istore_n 2, 1) := by decide +kernel
theorem dX0_tickNearest_41 : decode cX0_tickNearest 41 = .ok (.iinc 5 1, 3) := by decide +kernel
theorem dX0_tickNearest_44 : decode cX0_tickNearest 44 = .ok (.goto (-32), 3) := by decide +kernel
theorem dX0_tickNearest_47 : decode cX0_tickNearest 47 = .ok (.iload_n 2, 1) := by decide +kernel
theorem dX0_tickNearest_48 : decode cX0_tickNearest 48 = .ok (.ireturn, 1) := by decide +kernel
theorem dX0_isRightOf_0 : decode cX0_isRightOf 0 = .ok (.aload_n 1, 1) := by decide +kernel
theorem dX0_isRightOf_1 : decode cX0_isRightOf 1 = .ok (.getfield 53, 3) := by decide +kernel
theorem dX0_isRightOf_4 : decode cX0_isRightOf 4 = .ok (.iload_n 2, 1) := by decide +kernel
theorem dX0_isRightOf_5 : decode cX0_isRightOf 5 = .ok (.laload, 1) := by decide +kernel
theorem dX0_isRightOf_6 : decode cX0_isRightOf 6 = .ok (.aload_n 0, 1) := by decide +kernel
theorem dX0_isRightOf_7 : decode cX0_isRightOf 7 = .ok (.iload_n 2, 1) := by decide +kernel
theorem dX0_isRightOf_8 : decode cX0_isRightOf 8 = .ok (.invokevirtual 65, 3) := by decide +kernel
theorem dX0_isRightOf_11 : decode cX0_isRightOf 11 = .ok (.lmul, 1) := by decide +kernel
theorem dX0_isRightOf_12 : decode cX0_isRightOf 12 = .ok (.aload_n 1, 1) := by decide +kernel
theorem dX0_isRightOf_13 : decode cX0_isRightOf 13 = .ok (.getfield 68, 3) := by decide +kernel
theorem dX0_isRightOf_16 : decode cX0_isRightOf 16 = .ok (.iload_n 2, 1) := by decide +kernel
theorem dX0_isRightOf_17 : decode cX0_isRightOf 17 = .ok (.laload, 1) := by decide +kernel
theorem dX0_isRightOf_18 : decode cX0_isRightOf 18 = .ok (.aload_n 0, 1) := by decide +kernel
theorem dX0_isRightOf_19 : decode cX0_isRightOf 19 = .ok (.iload_n 2, 1) := by decide +kernel
theorem dX0_isRightOf_20 : decode cX0_isRightOf 20 = .ok (.invokevirtual 49, 3) := by decide +kernel
theorem dX0_isRightOf_23 : decode cX0_isRightOf 23 = .ok (.lmul, 1) := by decide +kernel
theorem dX0_isRightOf_24 : decode cX0_isRightOf 24 = .ok (.lsub, 1) := by decide +kernel
theorem dX0_isRightOf_25 : decode cX0_isRightOf 25 = .ok (.lconst 0, 1) := by decide +kernel
theorem dX0_isRightOf_26 : decode cX0_isRightOf 26 = .ok (.lcmp, 1) := by decide +kernel
theorem dX0_isRightOf_27 : decode cX0_isRightOf 27 = .ok (.ifCond .ge 7, 3) := by decide +kernel
theorem dX0_isRightOf_30 : decode cX0_isRightOf 30 = .ok (.iconst 1, 1) := by decide +kernel
theorem dX0_isRightOf_31 : decode cX0_isRightOf 31 = .ok (.goto 4, 3) := by decide +kernel
theorem dX0_isRightOf_34 : decode cX0_isRightOf 34 = .ok (.iconst 0, 1) := by decide +kernel
theorem dX0_isRightOf_35 : decode cX0_isRightOf 35 = .ok (.ireturn, 1) := by decide +kernel
theorem dX0_rollOn_0 : decode cX0_rollOn 0 = .ok (.aload_n 3, 1) := by decide +kernel
theorem dX0_rollOn_1 : decode cX0_rollOn 1 = .ok (.iload_n 1, 1) := by decide +kernel
theorem dX0_rollOn_2 : decode cX0_rollOn 2 = .ok (.invokevirtual 79, 3) := by decide +kernel
theorem dX0_rollOn_5 : decode cX0_rollOn 5 = .ok (.istore 4, 2) := by decide +kernel
theorem dX0_rollOn_7 : decode cX0_rollOn 7 = .ok (.aload_n 0, 1) := by decide +kernel
theorem dX0_rollOn_8 : decode cX0_rollOn 8 = .ok (.getfield 15, 3) := by decide +kernel
theorem dX0_rollOn_11 : decode cX0_rollOn 11 = .ok (.aload_n 0, 1) := by decide +kernel
theorem dX0_rollOn_12 : decode cX0_rollOn 12 = .ok (.getfield 21, 3) := by decide +kernel
theorem dX0_rollOn_15 : decode cX0_rollOn 15 = .ok (.iload 4, 2) := by decide +kernel
theorem dX0_rollOn_17 : decode cX0_rollOn 17 = .ok (.invokestatic 24, 3) := by decide +kernel
theorem dX0_rollOn_20 : decode cX0_rollOn 20 = .ok (.lstore 5, 2) := by decide +kernel
theorem dX0_rollOn_22 : decode cX0_rollOn 22 = .ok (.aload_n 0, 1) := by decide +kernel
theorem dX0_rollOn_23 : decode cX0_rollOn 23 = .ok (.getfield 15, 3) := by decide +kernel
theorem dX0_rollOn_26 : decode cX0_rollOn 26 = .ok (.aload_n 0, 1) := by decide +kernel
theorem dX0_rollOn_27 : decode cX0_rollOn 27 = .ok (.getfield 21, 3) := by decide +kernel
theorem dX0_rollOn_30 : decode cX0_rollOn 30 = .ok (.iload 4, 2) := by decide +kernel
theorem dX0_rollOn_32 : decode cX0_rollOn 32 = .ok (.invokestatic 33, 3) := by decide +kernel
theorem dX0_rollOn_35 : decode cX0_rollOn 35 = .ok (.lstore 7, 2) := by decide +kernel
theorem dX0_rollOn_37 : decode cX0_rollOn 37 = .ok (.aload_n 3, 1) := by decide +kernel
theorem dX0_rollOn_38 : decode cX0_rollOn 38 = .ok (.iload_n 1, 1) := by decide +kernel
theorem dX0_rollOn_39 : decode cX0_rollOn 39 = .ok (.invokevirtual 9, 3) := by decide +kernel
theorem dX0_rollOn_42 : decode cX0_rollOn 42 = .ok (.istore 9, 2) := by decide +kernel
theorem dX0_rollOn_44 : decode cX0_rollOn 44 = .ok (.aload_n 3, 1) := by decide +kernel
theorem dX0_rollOn_45 : decode cX0_rollOn 45 = .ok (.iload_n 1, 1) := by decide +kernel
theorem dX0_rollOn_46 : decode cX0_rollOn 46 = .ok (.iconst 1, 1) := by decide +kernel
theorem dX0_rollOn_47 : decode cX0_rollOn 47 = .ok (.iadd, 1) := by decide +kernel
theorem dX0_rollOn_48 : decode cX0_rollOn 48 = .ok (.invokevirtual 9, 3) := by decide +kernel
theorem dX0_rollOn_51 : decode cX0_rollOn 51 = .ok (.istore 10, 2) := by decide +kernel
theorem dX0_rollOn_53 : decode cX0_rollOn 53 = .ok (.lload 5, 2) := by decide +kernel
theorem dX0_rollOn_55 : decode cX0_rollOn 55 = .ok (.lload 7, 2) := by decide +kernel
theorem dX0_rollOn_57 : decode cX0_rollOn 57 = .ok (.iload 10, 2) := by decide +kernel
theorem dX0_rollOn_59 : decode cX0_rollOn 59 = .ok (.invokestatic 24, 3) := by decide +kernel
theorem dX0_rollOn_62 : decode cX0_rollOn 62 = .ok (.lload 5, 2) := by decide +kernel
theorem dX0_rollOn_64 : decode cX0_rollOn 64 = .ok (.lload 7, 2) := by decide +kernel
theorem dX0_rollOn_66 : decode cX0_rollOn 66 = .ok (.iload 9, 2) := by decide +kernel
theorem dX0_rollOn_68 : decode cX0_rollOn 68 = .ok (.invokestatic 24, 3) := by decide +kernel
theorem dX0_rollOn_71 : decode cX0_rollOn 71 = .ok (.lsub, 1) := by decide +kernel
theorem dX0_rollOn_72 : decode cX0_rollOn 72 = .ok (.lstore 11, 2) := by decide +kernel
theorem dX0_rollOn_74 : decode cX0_rollOn 74 = .ok (.lload 5, 2) := by decide +kernel
theorem dX0_rollOn_76 : decode cX0_rollOn 76 = .ok (.lload 7, 2) := by decide +kernel
theorem dX0_rollOn_78 : decode cX0_rollOn 78 = .ok (.iload 10, 2) := by decide +kernel
theorem dX0_rollOn_80 : decode cX0_rollOn 80 = .ok (.invokestatic 33, 3) := by decide +kernel
theorem dX0_rollOn_83 : decode cX0_rollOn 83 = .ok (.lload 5, 2) := by decide +kernel
theorem dX0_rollOn_85 : decode cX0_rollOn 85 = .ok (.lload 7, 2) := by decide +kernel
theorem dX0_rollOn_87 : decode cX0_rollOn 87 = .ok (.iload 9, 2) := by decide +kernel
theorem dX0_rollOn_89 : decode cX0_rollOn 89 = .ok (.invokestatic 33, 3) := by decide +kernel
theorem dX0_rollOn_92 : decode cX0_rollOn 92 = .ok (.lsub, 1) := by decide +kernel
theorem dX0_rollOn_93 : decode cX0_rollOn 93 = .ok (.lstore 13, 2) := by decide +kernel
theorem dX0_rollOn_95 : decode cX0_rollOn 95 = .ok (.aload_n 0, 1) := by decide +kernel
theorem dX0_rollOn_96 : decode cX0_rollOn 96 = .ok (.dup, 1) := by decide +kernel
theorem dX0_rollOn_97 : decode cX0_rollOn 97 = .ok (.getfield 43, 3) := by decide +kernel
theorem dX0_rollOn_100 : decode cX0_rollOn 100 = .ok (.lload 11, 2) := by decide +kernel
theorem dX0_rollOn_102 : decode cX0_rollOn 102 = .ok (.aload_n 0, 1) := by decide +kernel
theorem dX0_rollOn_103 : decode cX0_rollOn 103 = .ok (.getfield 43, 3) := by decide +kernel
theorem dX0_rollOn_106 : decode cX0_rollOn 106 = .ok (.lsub, 1) := by decide +kernel
theorem dX0_rollOn_107 : decode cX0_rollOn 107 = .ok (.iload_n 2, 1) := by decide +kernel
theorem dX0_rollOn_108 : decode cX0_rollOn 108 = .ok (.i2l, 1) := by decide +kernel
theorem dX0_rollOn_109 : decode cX0_rollOn 109 = .ok (.lmul, 1) := by decide +kernel
theorem dX0_rollOn_110 : decode cX0_rollOn 110 = .ok (.ldc2_w 82, 3) := by decide +kernel
theorem dX0_rollOn_113 : decode cX0_rollOn 113 = .ok (.ldiv, 1) := by decide +kernel
theorem dX0_rollOn_114 : decode cX0_rollOn 114 = .ok (.ladd, 1) := by decide +kernel
theorem dX0_rollOn_115 : decode cX0_rollOn 115 = .ok (.putfield 43, 3) := by decide +kernel
theorem dX0_rollOn_118 : decode cX0_rollOn 118 = .ok (.aload_n 0, 1) := by decide +kernel
theorem dX0_rollOn_119 : decode cX0_rollOn 119 = .ok (.dup, 1) := by decide +kernel
theorem dX0_rollOn_120 : decode cX0_rollOn 120 = .ok (.getfield 46, 3) := by decide +kernel
theorem dX0_rollOn_123 : decode cX0_rollOn 123 = .ok (.lload 13, 2) := by decide +kernel
theorem dX0_rollOn_125 : decode cX0_rollOn 125 = .ok (.aload_n 0, 1) := by decide +kernel
theorem dX0_rollOn_126 : decode cX0_rollOn 126 = .ok (.getfield 46, 3) := by decide +kernel
theorem dX0_rollOn_129 : decode cX0_rollOn 129 = .ok (.lsub, 1) := by decide +kernel
theorem dX0_rollOn_130 : decode cX0_rollOn 130 = .ok (.iload_n 2, 1) := by decide +kernel
theorem dX0_rollOn_131 : decode cX0_rollOn 131 = .ok (.i2l, 1) := by decide +kernel
theorem dX0_rollOn_132 : decode cX0_rollOn 132 = .ok (.lmul, 1) := by decide +kernel
theorem dX0_rollOn_133 : decode cX0_rollOn 133 = .ok (.ldc2_w 82, 3) := by decide +kernel
theorem dX0_rollOn_136 : decode cX0_rollOn 136 = .ok (.ldiv, 1) := by decide +kernel
theorem dX0_rollOn_137 : decode cX0_rollOn 137 = .ok (.ladd, 1) := by decide +kernel
theorem dX0_rollOn_138 : decode cX0_rollOn 138 = .ok (.putfield 46, 3) := by decide +kernel
theorem dX0_rollOn_141 : decode cX0_rollOn 141 = .ok (.aload_n 0, 1) := by decide +kernel
theorem dX0_rollOn_142 : decode cX0_rollOn 142 = .ok (.dup, 1) := by decide +kernel
theorem dX0_rollOn_143 : decode cX0_rollOn 143 = .ok (.getfield 15, 3) := by decide +kernel
theorem dX0_rollOn_146 : decode cX0_rollOn 146 = .ok (.aload_n 0, 1) := by decide +kernel
theorem dX0_rollOn_147 : decode cX0_rollOn 147 = .ok (.getfield 43, 3) := by decide +kernel
theorem dX0_rollOn_150 : decode cX0_rollOn 150 = .ok (.ladd, 1) := by decide +kernel
theorem dX0_rollOn_151 : decode cX0_rollOn 151 = .ok (.putfield 15, 3) := by decide +kernel
theorem dX0_rollOn_154 : decode cX0_rollOn 154 = .ok (.aload_n 0, 1) := by decide +kernel
theorem dX0_rollOn_155 : decode cX0_rollOn 155 = .ok (.dup, 1) := by decide +kernel
theorem dX0_rollOn_156 : decode cX0_rollOn 156 = .ok (.getfield 21, 3) := by decide +kernel
theorem dX0_rollOn_159 : decode cX0_rollOn 159 = .ok (.aload_n 0, 1) := by decide +kernel
theorem dX0_rollOn_160 : decode cX0_rollOn 160 = .ok (.getfield 46, 3) := by decide +kernel
theorem dX0_rollOn_163 : decode cX0_rollOn 163 = .ok (.ladd, 1) := by decide +kernel
theorem dX0_rollOn_164 : decode cX0_rollOn 164 = .ok (.putfield 21, 3) := by decide +kernel
theorem dX0_rollOn_167 : decode cX0_rollOn 167 = .ok (.return_, 1) := by decide +kernel
theorem dX0_isBeyond_0 : decode cX0_isBeyond 0 = .ok (.aload_n 0, 1) := by decide +kernel
theorem dX0_isBeyond_1 : decode cX0_isBeyond 1 = .ok (.getfield 15, 3) := by decide +kernel
theorem dX0_isBeyond_4 : decode cX0_isBeyond 4 = .ok (.aload_n 0, 1) := by decide +kernel
theorem dX0_isBeyond_5 : decode cX0_isBeyond 5 = .ok (.getfield 15, 3) := by decide +kernel
theorem dX0_isBeyond_8 : decode cX0_isBeyond 8 = .ok (.lmul, 1) := by decide +kernel
theorem dX0_isBeyond_9 : decode cX0_isBeyond 9 = .ok (.aload_n 0, 1) := by decide +kernel
theorem dX0_isBeyond_10 : decode cX0_isBeyond 10 = .ok (.getfield 21, 3) := by decide +kernel
theorem dX0_isBeyond_13 : decode cX0_isBeyond 13 = .ok (.aload_n 0, 1) := by decide +kernel
theorem dX0_isBeyond_14 : decode cX0_isBeyond 14 = .ok (.getfield 21, 3) := by decide +kernel
theorem dX0_isBeyond_17 : decode cX0_isBeyond 17 = .ok (.lmul, 1) := by decide +kernel
theorem dX0_isBeyond_18 : decode cX0_isBeyond 18 = .ok (.ladd, 1) := by decide +kernel
theorem dX0_isBeyond_19 : decode cX0_isBeyond 19 = .ok (.lload_n 1, 1) := by decide +kernel
theorem dX0_isBeyond_20 : decode cX0_isBeyond 20 = .ok (.lload_n 1, 1) := by decide +kernel
theorem dX0_isBeyond_21 : decode cX0_isBeyond 21 = .ok (.lmul, 1) := by decide +kernel
theorem dX0_isBeyond_22 : decode cX0_isBeyond 22 = .ok (.lcmp, 1) := by decide +kernel
theorem dX0_isBeyond_23 : decode cX0_isBeyond 23 = .ok (.ifCond .le 7, 3) := by decide +kernel
theorem dX0_isBeyond_26 : decode cX0_isBeyond 26 = .ok (.iconst 1, 1) := by decide +kernel
theorem dX0_isBeyond_27 : decode cX0_isBeyond 27 = .ok (.goto 4, 3) := by decide +kernel
theorem dX0_isBeyond_30 : decode cX0_isBeyond 30 = .ok (.iconst 0, 1) := by decide +kernel
theorem dX0_isBeyond_31 : decode cX0_isBeyond 31 = .ok (.ireturn, 1) := by decide +kernel
theorem dX1_init_0 : decode cX1_init 0 = .ok (.aload_n 0, 1) := by decide +kernel
theorem dX1_init_1 : decode cX1_init 1 = .ok (.invokespecial 3, 3) := by decide +kernel
theorem dX1_init_4 : decode cX1_init 4 = .ok (.aload_n 0, 1) := by decide +kernel
theorem dX1_init_5 : decode cX1_init 5 = .ok (.bipush 62, 2) := by decide +kernel
theorem dX1_init_7 : decode cX1_init 7 = .ok (.newarray .int, 2) := by decide +kernel
theorem dX1_init_9 : decode cX1_init 9 = .ok (.putfield 11, 3) := by decide +kernel
theorem dX1_init_12 : decode cX1_init 12 = .ok (.return_, 1) := by decide +kernel
theorem dX1_fill_0 : decode cX1_fill 0 = .ok (.iconst 0, 1) := by decide +kernel
theorem dX1_fill_1 : decode cX1_fill 1 = .ok (.istore 4, 2) := by decide +kernel
theorem dX1_fill_3 : decode cX1_fill 3 = .ok (.iload 4, 2) := by decide +kernel
theorem dX1_fill_5 : decode cX1_fill 5 = .ok (.aload_n 0, 1) := by decide +kernel
theorem dX1_fill_6 : decode cX1_fill 6 = .ok (.getfield 11, 3) := by decide +kernel
theorem dX1_fill_9 : decode cX1_fill 9 = .ok (.arraylength, 1) := by decide +kernel
theorem dX1_fill_10 : decode cX1_fill 10 = .ok (.if_icmp .ge 65, 3) := by decide +kernel
theorem dX1_fill_13 : decode cX1_fill 13 = .ok (.iconst 0, 1) := by decide +kernel
theorem dX1_fill_14 : decode cX1_fill 14 = .ok (.istore 5, 2) := by decide +kernel
theorem dX1_fill_16 : decode cX1_fill 16 = .ok (.iconst 0, 1) := by decide +kernel
theorem dX1_fill_17 : decode cX1_fill 17 = .ok (.istore 6, 2) := by decide +kernel
theorem dX1_fill_19 : decode cX1_fill 19 = .ok (.iload 6, 2) := by decide +kernel
theorem dX1_fill_21 : decode cX1_fill 21 = .ok (.bipush 24, 2) := by decide +kernel
theorem dX1_fill_23 : decode cX1_fill 23 = .ok (.if_icmp .ge 37, 3) := by decide +kernel
theorem dX1_fill_26 : decode cX1_fill 26 = .ok (.aload_n 1, 1) := by decide +kernel
theorem dX1_fill_27 : decode cX1_fill 27 = .ok (.iload 4, 2) := by decide +kernel
theorem dX1_fill_29 : decode cX1_fill 29 = .ok (.iload 6, 2) := by decide +kernel
theorem dX1_fill_31 : decode cX1_fill 31 = .ok (.invokevirtual 15, 3) := by decide +kernel
theorem dX1_fill_34 : decode cX1_fill 34 = .ok (.aload_n 1, 1) := by decide +kernel
theorem dX1_fill_35 : decode cX1_fill 35 = .ok (.aload_n 2, 1) := by decide +kernel
theorem dX1_fill_36 : decode cX1_fill 36 = .ok (.iload_n 3, 1) := by decide +kernel
theorem dX1_fill_37 : decode cX1_fill 37 = .ok (.invokevirtual 21, 3) := by decide +kernel
theorem dX1_fill_40 : decode cX1_fill 40 = .ok (.bipush (-6), 2) := by decide +kernel
theorem dX1_fill_42 : decode cX1_fill 42 = .ok (.if_icmp .eq 12, 3) := by decide +kernel
theorem dX1_fill_45 : decode cX1_fill 45 = .ok (.iload 5, 2) := by decide +kernel
theorem dX1_fill_47 : decode cX1_fill 47 = .ok (.iconst 1, 1) := by decide +kernel
theorem dX1_fill_48 : decode cX1_fill 48 = .ok (.iload 6, 2) := by decide +kernel
theorem dX1_fill_50 : decode cX1_fill 50 = .ok (.ishl, 1) := by decide +kernel
theorem dX1_fill_51 : decode cX1_fill 51 = .ok (.ior, 1) := by decide +kernel
theorem dX1_fill_52 : decode cX1_fill 52 = .ok (.istore 5, 2) := by decide +kernel
theorem dX1_fill_54 : decode cX1_fill 54 = .ok (.iinc 6 1, 3) := by decide +kernel
theorem dX1_fill_57 : decode cX1_fill 57 = .ok (.goto (-38), 3) := by decide +kernel
theorem dX1_fill_60 : decode cX1_fill 60 = .ok (.aload_n 0, 1) := by decide +kernel
theorem dX1_fill_61 : decode cX1_fill 61 = .ok (.getfield 11, 3) := by decide +kernel
theorem dX1_fill_64 : decode cX1_fill 64 = .ok (.iload 4, 2) := by decide +kernel
theorem dX1_fill_66 : decode cX1_fill 66 = .ok (.iload 5, 2) := by decide +kernel
theorem dX1_fill_68 : decode cX1_fill 68 = .ok (.iastore, 1) := by decide +kernel
theorem dX1_fill_69 : decode cX1_fill 69 = .ok (.iinc 4 1, 3) := by decide +kernel
theorem dX1_fill_72 : decode cX1_fill 72 = .ok (.goto (-69), 3) := by decide +kernel
theorem dX1_fill_75 : decode cX1_fill 75 = .ok (.return_, 1) := by decide +kernel
theorem dX1_howMany_0 : decode cX1_howMany 0 = .ok (.iconst 0, 1) := by decide +kernel
theorem dX1_howMany_1 : decode cX1_howMany 1 = .ok (.istore_n 1, 1) := by decide +kernel
theorem dX1_howMany_2 : decode cX1_howMany 2 = .ok (.iconst 1, 1) := by decide +kernel
theorem dX1_howMany_3 : decode cX1_howMany 3 = .ok (.istore_n 2, 1) := by decide +kernel
theorem dX1_howMany_4 : decode cX1_howMany 4 = .ok (.iload_n 2, 1) := by decide +kernel
theorem dX1_howMany_5 : decode cX1_howMany 5 = .ok (.bipush 60, 2) := by decide +kernel
theorem dX1_howMany_7 : decode cX1_howMany 7 = .ok (.if_icmp .gt 21, 3) := by decide +kernel
theorem dX1_howMany_10 : decode cX1_howMany 10 = .ok (.iload_n 1, 1) := by decide +kernel
theorem dX1_howMany_11 : decode cX1_howMany 11 = .ok (.aload_n 0, 1) := by decide +kernel
theorem dX1_howMany_12 : decode cX1_howMany 12 = .ok (.getfield 11, 3) := by decide +kernel
theorem dX1_howMany_15 : decode cX1_howMany 15 = .ok (.iload_n 2, 1) := by decide +kernel
theorem dX1_howMany_16 : decode cX1_howMany 16 = .ok (.iaload, 1) := by decide +kernel
theorem dX1_howMany_17 : decode cX1_howMany 17 = .ok (.invokestatic 25, 3) := by decide +kernel
theorem dX1_howMany_20 : decode cX1_howMany 20 = .ok (.iadd, 1) := by decide +kernel
theorem dX1_howMany_21 : decode cX1_howMany 21 = .ok (.istore_n 1, 1) := by decide +kernel
theorem dX1_howMany_22 : decode cX1_howMany 22 = .ok (.iinc 2 1, 3) := by decide +kernel
theorem dX1_howMany_25 : decode cX1_howMany 25 = .ok (.goto (-21), 3) := by decide +kernel
theorem dX1_howMany_28 : decode cX1_howMany 28 = .ok (.iload_n 1, 1) := by decide +kernel
theorem dX1_howMany_29 : decode cX1_howMany 29 = .ok (.ireturn, 1) := by decide +kernel
theorem dX1_findSafe_0 : decode cX1_findSafe 0 = .ok (.aload_n 0, 1) := by decide +kernel
theorem dX1_findSafe_1 : decode cX1_findSafe 1 = .ok (.bipush (-6), 2) := by decide +kernel
theorem dX1_findSafe_3 : decode cX1_findSafe 3 = .ok (.putfield 31, 3) := by decide +kernel
theorem dX1_findSafe_6 : decode cX1_findSafe 6 = .ok (.aload_n 0, 1) := by decide +kernel
theorem dX1_findSafe_7 : decode cX1_findSafe 7 = .ok (.bipush (-6), 2) := by decide +kernel
theorem dX1_findSafe_9 : decode cX1_findSafe 9 = .ok (.putfield 35, 3) := by decide +kernel
theorem dX1_findSafe_12 : decode cX1_findSafe 12 = .ok (.aload_n 0, 1) := by decide +kernel
theorem dX1_findSafe_13 : decode cX1_findSafe 13 = .ok (.bipush (-6), 2) := by decide +kernel
theorem dX1_findSafe_15 : decode cX1_findSafe 15 = .ok (.putfield 38, 3) := by decide +kernel
theorem dX1_findSafe_18 : decode cX1_findSafe 18 = .ok (.iconst 1, 1) := by decide +kernel
theorem dX1_findSafe_19 : decode cX1_findSafe 19 = .ok (.istore_n 1, 1) := by decide +kernel
theorem dX1_findSafe_20 : decode cX1_findSafe 20 = .ok (.iload_n 1, 1) := by decide +kernel
theorem dX1_findSafe_21 : decode cX1_findSafe 21 = .ok (.bipush 60, 2) := by decide +kernel
theorem dX1_findSafe_23 : decode cX1_findSafe 23 = .ok (.if_icmp .gt 66, 3) := by decide +kernel
theorem dX1_findSafe_26 : decode cX1_findSafe 26 = .ok (.iconst 0, 1) := by decide +kernel
theorem dX1_findSafe_27 : decode cX1_findSafe 27 = .ok (.istore_n 2, 1) := by decide +kernel
theorem dX1_findSafe_28 : decode cX1_findSafe 28 = .ok (.iload_n 2, 1) := by decide +kernel
theorem dX1_findSafe_29 : decode cX1_findSafe 29 = .ok (.bipush 24, 2) := by decide +kernel
theorem dX1_findSafe_31 : decode cX1_findSafe 31 = .ok (.if_icmp .ge 52, 3) := by decide +kernel
theorem dX1_findSafe_34 : decode cX1_findSafe 34 = .ok (.aload_n 0, 1) := by decide +kernel
theorem dX1_findSafe_35 : decode cX1_findSafe 35 = .ok (.iload_n 1, 1) := by decide +kernel
theorem dX1_findSafe_36 : decode cX1_findSafe 36 = .ok (.iload_n 2, 1) := by decide +kernel
theorem dX1_findSafe_37 : decode cX1_findSafe 37 = .ok (.invokevirtual 41, 3) := by decide +kernel
theorem dX1_findSafe_40 : decode cX1_findSafe 40 = .ok (.iconst 1, 1) := by decide +kernel
theorem dX1_findSafe_41 : decode cX1_findSafe 41 = .ok (.if_icmp .ne 36, 3) := by decide +kernel
theorem dX1_findSafe_44 : decode cX1_findSafe 44 = .ok (.aload_n 0, 1) := by decide +kernel
theorem dX1_findSafe_45 : decode cX1_findSafe 45 = .ok (.iload_n 1, 1) := by decide +kernel
theorem dX1_findSafe_46 : decode cX1_findSafe 46 = .ok (.iload_n 2, 1) := by decide +kernel
theorem dX1_findSafe_47 : decode cX1_findSafe 47 = .ok (.invokevirtual 45, 3) := by decide +kernel
theorem dX1_findSafe_50 : decode cX1_findSafe 50 = .ok (.aload_n 0, 1) := by decide +kernel
theorem dX1_findSafe_51 : decode cX1_findSafe 51 = .ok (.getfield 38, 3) := by decide +kernel
theorem dX1_findSafe_54 : decode cX1_findSafe 54 = .ok (.if_icmp .le 23, 3) := by decide +kernel
theorem dX1_findSafe_57 : decode cX1_findSafe 57 = .ok (.aload_n 0, 1) := by decide +kernel
theorem dX1_findSafe_58 : decode cX1_findSafe 58 = .ok (.iload_n 1, 1) := by decide +kernel
theorem dX1_findSafe_59 : decode cX1_findSafe 59 = .ok (.putfield 31, 3) := by decide +kernel
theorem dX1_findSafe_62 : decode cX1_findSafe 62 = .ok (.aload_n 0, 1) := by decide +kernel
theorem dX1_findSafe_63 : decode cX1_findSafe 63 = .ok (.iload_n 2, 1) := by decide +kernel
theorem dX1_findSafe_64 : decode cX1_findSafe 64 = .ok (.putfield 35, 3) := by decide +kernel
theorem dX1_findSafe_67 : decode cX1_findSafe 67 = .ok (.aload_n 0, 1) := by decide +kernel
theorem dX1_findSafe_68 : decode cX1_findSafe 68 = .ok (.aload_n 0, 1) := by decide +kernel
theorem dX1_findSafe_69 : decode cX1_findSafe 69 = .ok (.iload_n 1, 1) := by decide +kernel
theorem dX1_findSafe_70 : decode cX1_findSafe 70 = .ok (.iload_n 2, 1) := by decide +kernel
theorem dX1_findSafe_71 : decode cX1_findSafe 71 = .ok (.invokevirtual 45, 3) := by decide +kernel
theorem dX1_findSafe_74 : decode cX1_findSafe 74 = .ok (.putfield 38, 3) := by decide +kernel
theorem dX1_findSafe_77 : decode cX1_findSafe 77 = .ok (.iinc 2 1, 3) := by decide +kernel
theorem dX1_findSafe_80 : decode cX1_findSafe 80 = .ok (.goto (-52), 3) := by decide +kernel
theorem dX1_findSafe_83 : decode cX1_findSafe 83 = .ok (.iinc 1 1, 3) := by decide +kernel
theorem dX1_findSafe_86 : decode cX1_findSafe 86 = .ok (.goto (-66), 3) := by decide +kernel
theorem dX1_findSafe_89 : decode cX1_findSafe 89 = .ok (.return_, 1) := by decide +kernel
theorem dX1_neighbours_0 : decode cX1_neighbours 0 = .ok (.aload_n 0, 1) := by decide +kernel
theorem dX1_neighbours_1 : decode cX1_neighbours 1 = .ok (.iload_n 1, 1) := by decide +kernel
theorem dX1_neighbours_2 : decode cX1_neighbours 2 = .ok (.iload_n 2, 1) := by decide +kernel
theorem dX1_neighbours_3 : decode cX1_neighbours 3 = .ok (.invokevirtual 41, 3) := by decide +kernel
theorem dX1_neighbours_6 : decode cX1_neighbours 6 = .ok (.ineg, 1) := by decide +kernel
theorem dX1_neighbours_7 : decode cX1_neighbours 7 = .ok (.istore_n 3, 1) := by decide +kernel
theorem dX1_neighbours_8 : decode cX1_neighbours 8 = .ok (.iload_n 1, 1) := by decide +kernel
theorem dX1_neighbours_9 : decode cX1_neighbours 9 = .ok (.iconst 1, 1) := by decide +kernel
theorem dX1_neighbours_10 : decode cX1_neighbours 10 = .ok (.isub, 1) := by decide +kernel
theorem dX1_neighbours_11 : decode cX1_neighbours 11 = .ok (.istore 4, 2) := by decide +kernel
theorem dX1_neighbours_13 : decode cX1_neighbours 13 = .ok (.iload 4, 2) := by decide +kernel
theorem dX1_neighbours_15 : decode cX1_neighbours 15 = .ok (.iload_n 1, 1) := by decide +kernel
theorem dX1_neighbours_16 : decode cX1_neighbours 16 = .ok (.iconst 1, 1) := by decide +kernel
theorem dX1_neighbours_17 : decode cX1_neighbours 17 = .ok (.iadd, 1) := by decide +kernel
theorem dX1_neighbours_18 : decode cX1_neighbours 18 = .ok (.if_icmp .gt 39, 3) := by decide +kernel
theorem dX1_neighbours_21 : decode cX1_neighbours 21 = .ok (.iload_n 3, 1) := by decide +kernel
theorem dX1_neighbours_22 : decode cX1_neighbours 22 = .ok (.aload_n 0, 1) := by decide +kernel
theorem dX1_neighbours_23 : decode cX1_neighbours 23 = .ok (.iload 4, 2) := by decide +kernel
theorem dX1_neighbours_25 : decode cX1_neighbours 25 = .ok (.iload_n 2, 1) := by decide +kernel
theorem dX1_neighbours_26 : decode cX1_neighbours 26 = .ok (.iconst 1, 1) := by decide +kernel
theorem dX1_neighbours_27 : decode cX1_neighbours 27 = .ok (.isub, 1) := by decide +kernel
theorem dX1_neighbours_28 : decode cX1_neighbours 28 = .ok (.invokevirtual 41, 3) := by decide +kernel
theorem dX1_neighbours_31 : decode cX1_neighbours 31 = .ok (.aload_n 0, 1) := by decide +kernel
theorem dX1_neighbours_32 : decode cX1_neighbours 32 = .ok (.iload 4, 2) := by decide +kernel
theorem dX1_neighbours_34 : decode cX1_neighbours 34 = .ok (.iload_n 2, 1) := by decide +kernel
theorem dX1_neighbours_35 : decode cX1_neighbours 35 = .ok (.invokevirtual 41, 3) := by decide +kernel
theorem dX1_neighbours_38 : decode cX1_neighbours 38 = .ok (.iadd, 1) := by decide +kernel
theorem dX1_neighbours_39 : decode cX1_neighbours 39 = .ok (.aload_n 0, 1) := by decide +kernel
theorem dX1_neighbours_40 : decode cX1_neighbours 40 = .ok (.iload 4, 2) := by decide +kernel
theorem dX1_neighbours_42 : decode cX1_neighbours 42 = .ok (.iload_n 2, 1) := by decide +kernel
theorem dX1_neighbours_43 : decode cX1_neighbours 43 = .ok (.iconst 1, 1) := by decide +kernel
theorem dX1_neighbours_44 : decode cX1_neighbours 44 = .ok (.iadd, 1) := by decide +kernel
theorem dX1_neighbours_45 : decode cX1_neighbours 45 = .ok (.invokevirtual 41, 3) := by decide +kernel
theorem dX1_neighbours_48 : decode cX1_neighbours 48 = .ok (.iadd, 1) := by decide +kernel
theorem dX1_neighbours_49 : decode cX1_neighbours 49 = .ok (.iadd, 1) := by decide +kernel
theorem dX1_neighbours_50 : decode cX1_neighbours 50 = .ok (.istore_n 3, 1) := by decide +kernel
theorem dX1_neighbours_51 : decode cX1_neighbours 51 = .ok (.iinc 4 1, 3) := by decide +kernel
theorem dX1_neighbours_54 : decode cX1_neighbours 54 = .ok (.goto (-41), 3) := by decide +kernel
theorem dX1_neighbours_57 : decode cX1_neighbours 57 = .ok (.iload_n 3, 1) := by decide +kernel
theorem dX1_neighbours_58 : decode cX1_neighbours 58 = .ok (.ireturn, 1) := by decide +kernel
theorem dX1_bit_0 : decode cX1_bit 0 = .ok (.aload_n 0, 1) := by decide +kernel
theorem dX1_bit_1 : decode cX1_bit 1 = .ok (.getfield 11, 3) := by decide +kernel
theorem dX1_bit_4 : decode cX1_bit 4 = .ok (.iload_n 1, 1) := by decide +kernel
theorem dX1_bit_5 : decode cX1_bit 5 = .ok (.iaload, 1) := by decide +kernel
theorem dX1_bit_6 : decode cX1_bit 6 = .ok (.iload_n 2, 1) := by decide +kernel
theorem dX1_bit_7 : decode cX1_bit 7 = .ok (.bipush 24, 2) := by decide +kernel
theorem dX1_bit_9 : decode cX1_bit 9 = .ok (.invokestatic 48, 3) := by decide +kernel
theorem dX1_bit_12 : decode cX1_bit 12 = .ok (.ishr, 1) := by decide +kernel
theorem dX1_bit_13 : decode cX1_bit 13 = .ok (.iconst 1, 1) := by decide +kernel
theorem dX1_bit_14 : decode cX1_bit 14 = .ok (.iand, 1) := by decide +kernel
theorem dX1_bit_15 : decode cX1_bit 15 = .ok (.ireturn, 1) := by decide +kernel
theorem dX2_init_0 : decode cX2_init 0 = .ok (.aload_n 0, 1) := by decide +kernel
theorem dX2_init_1 : decode cX2_init 1 = .ok (.invokespecial 1, 3) := by decide +kernel
theorem dX2_init_4 : decode cX2_init 4 = .ok (.aload_n 0, 1) := by decide +kernel
theorem dX2_init_5 : decode cX2_init 5 = .ok (.bipush 24, 2) := by decide +kernel
theorem dX2_init_7 : decode cX2_init 7 = .ok (.newarray .int, 2) := by decide +kernel
theorem dX2_init_9 : decode cX2_init 9 = .ok (.putfield 9, 3) := by decide +kernel
theorem dX2_init_12 : decode cX2_init 12 = .ok (.aload_n 0, 1) := by decide +kernel
theorem dX2_init_13 : decode cX2_init 13 = .ok (.bipush 24, 2) := by decide +kernel
theorem dX2_init_15 : decode cX2_init 15 = .ok (.newarray .int, 2) := by decide +kernel
theorem dX2_init_17 : decode cX2_init 17 = .ok (.putfield 13, 3) := by decide +kernel
theorem dX2_init_20 : decode cX2_init 20 = .ok (.return_, 1) := by decide +kernel
theorem dX2_add_0 : decode cX2_add 0 = .ok (.aload_n 0, 1) := by decide +kernel
theorem dX2_add_1 : decode cX2_add 1 = .ok (.getfield 16, 3) := by decide +kernel
theorem dX2_add_4 : decode cX2_add 4 = .ok (.bipush 24, 2) := by decide +kernel
theorem dX2_add_6 : decode cX2_add 6 = .ok (.if_icmp .lt 5, 3) := by decide +kernel
theorem dX2_add_9 : decode cX2_add 9 = .ok (.iconst 0, 1) := by decide +kernel
theorem dX2_add_10 : decode cX2_add 10 = .ok (.ireturn, 1) := by decide +kernel
theorem dX2_add_11 : decode cX2_add 11 = .ok (.aload_n 0, 1) := by decide +kernel
theorem dX2_add_12 : decode cX2_add 12 = .ok (.getfield 9, 3) := by decide +kernel
theorem dX2_add_15 : decode cX2_add 15 = .ok (.aload_n 0, 1) := by decide +kernel
theorem dX2_add_16 : decode cX2_add 16 = .ok (.getfield 16, 3) := by decide +kernel
theorem dX2_add_19 : decode cX2_add 19 = .ok (.iload_n 1, 1) := by decide +kernel
theorem dX2_add_20 : decode cX2_add 20 = .ok (.iastore, 1) := by decide +kernel
theorem dX2_add_21 : decode cX2_add 21 = .ok (.aload_n 0, 1) := by decide +kernel
theorem dX2_add_22 : decode cX2_add 22 = .ok (.getfield 13, 3) := by decide +kernel
theorem dX2_add_25 : decode cX2_add 25 = .ok (.aload_n 0, 1) := by decide +kernel
theorem dX2_add_26 : decode cX2_add 26 = .ok (.getfield 16, 3) := by decide +kernel
theorem dX2_add_29 : decode cX2_add 29 = .ok (.iload_n 2, 1) := by decide +kernel
theorem dX2_add_30 : decode cX2_add 30 = .ok (.iastore, 1) := by decide +kernel
theorem dX2_add_31 : decode cX2_add 31 = .ok (.aload_n 0, 1) := by decide +kernel
theorem dX2_add_32 : decode cX2_add 32 = .ok (.dup, 1) := by decide +kernel
theorem dX2_add_33 : decode cX2_add 33 = .ok (.getfield 16, 3) := by decide +kernel
theorem dX2_add_36 : decode cX2_add 36 = .ok (.iconst 1, 1) := by decide +kernel
theorem dX2_add_37 : decode cX2_add 37 = .ok (.iadd, 1) := by decide +kernel
theorem dX2_add_38 : decode cX2_add 38 = .ok (.putfield 16, 3) := by decide +kernel
theorem dX2_add_41 : decode cX2_add 41 = .ok (.iconst 1, 1) := by decide +kernel
theorem dX2_add_42 : decode cX2_add 42 = .ok (.ireturn, 1) := by decide +kernel
theorem dX2_tells_0 : decode cX2_tells 0 = .ok (.aload_n 0, 1) := by decide +kernel
theorem dX2_tells_1 : decode cX2_tells 1 = .ok (.getfield 16, 3) := by decide +kernel
theorem dX2_tells_4 : decode cX2_tells 4 = .ok (.iconst 3, 1) := by decide +kernel
theorem dX2_tells_5 : decode cX2_tells 5 = .ok (.if_icmp .lt 7, 3) := by decide +kernel
theorem dX2_tells_8 : decode cX2_tells 8 = .ok (.iconst 1, 1) := by decide +kernel
theorem dX2_tells_9 : decode cX2_tells 9 = .ok (.goto 4, 3) := by decide +kernel
theorem dX2_tells_12 : decode cX2_tells 12 = .ok (.iconst 0, 1) := by decide +kernel
theorem dX2_tells_13 : decode cX2_tells 13 = .ok (.ireturn, 1) := by decide +kernel
theorem dX2_bend_0 : decode cX2_bend 0 = .ok (.lconst 0, 1) := by decide +kernel
theorem dX2_bend_1 : decode cX2_bend 1 = .ok (.lstore_n 2, 1) := by decide +kernel
theorem dX2_bend_2 : decode cX2_bend 2 = .ok (.iconst 2, 1) := by decide +kernel
theorem dX2_bend_3 : decode cX2_bend 3 = .ok (.istore 4, 2) := by decide +kernel
theorem dX2_bend_5 : decode cX2_bend 5 = .ok (.iload 4, 2) := by decide +kernel
theorem dX2_bend_7 : decode cX2_bend 7 = .ok (.aload_n 0, 1) := by decide +kernel
theorem dX2_bend_8 : decode cX2_bend 8 = .ok (.getfield 16, 3) := by decide +kernel
theorem dX2_bend_11 : decode cX2_bend 11 = .ok (.if_icmp .ge 83, 3) := by decide +kernel
theorem dX2_bend_14 : decode cX2_bend 14 = .ok (.lload_n 2, 1) := by decide +kernel
theorem dX2_bend_15 : decode cX2_bend 15 = .ok (.aload_n 0, 1) := by decide +kernel
theorem dX2_bend_16 : decode cX2_bend 16 = .ok (.iload 4, 2) := by decide +kernel
theorem dX2_bend_18 : decode cX2_bend 18 = .ok (.iconst 2, 1) := by decide +kernel
theorem dX2_bend_19 : decode cX2_bend 19 = .ok (.isub, 1) := by decide +kernel
theorem dX2_bend_20 : decode cX2_bend 20 = .ok (.iload_n 1, 1) := by decide +kernel
theorem dX2_bend_21 : decode cX2_bend 21 = .ok (.invokevirtual 20, 3) := by decide +kernel
theorem dX2_bend_24 : decode cX2_bend 24 = .ok (.ldc2_w 24, 3) := by decide +kernel
theorem dX2_bend_27 : decode cX2_bend 27 = .ok (.aload_n 0, 1) := by decide +kernel
theorem dX2_bend_28 : decode cX2_bend 28 = .ok (.iload 4, 2) := by decide +kernel
theorem dX2_bend_30 : decode cX2_bend 30 = .ok (.iconst 1, 1) := by decide +kernel
theorem dX2_bend_31 : decode cX2_bend 31 = .ok (.isub, 1) := by decide +kernel
theorem dX2_bend_32 : decode cX2_bend 32 = .ok (.iload_n 1, 1) := by decide +kernel
theorem dX2_bend_33 : decode cX2_bend 33 = .ok (.invokevirtual 20, 3) := by decide +kernel
theorem dX2_bend_36 : decode cX2_bend 36 = .ok (.lmul, 1) := by decide +kernel
theorem dX2_bend_37 : decode cX2_bend 37 = .ok (.lsub, 1) := by decide +kernel
theorem dX2_bend_38 : decode cX2_bend 38 = .ok (.aload_n 0, 1) := by decide +kernel
theorem dX2_bend_39 : decode cX2_bend 39 = .ok (.iload 4, 2) := by decide +kernel
theorem dX2_bend_41 : decode cX2_bend 41 = .ok (.iload_n 1, 1) := by decide +kernel
theorem dX2_bend_42 : decode cX2_bend 42 = .ok (.invokevirtual 20, 3) := by decide +kernel
theorem dX2_bend_45 : decode cX2_bend 45 = .ok (.ladd, 1) := by decide +kernel
theorem dX2_bend_46 : decode cX2_bend 46 = .ok (.invokestatic 26, 3) := by decide +kernel
theorem dX2_bend_49 : decode cX2_bend 49 = .ok (.ladd, 1) := by decide +kernel
theorem dX2_bend_50 : decode cX2_bend 50 = .ok (.lstore_n 2, 1) := by decide +kernel
theorem dX2_bend_51 : decode cX2_bend 51 = .ok (.lload_n 2, 1) := by decide +kernel
theorem dX2_bend_52 : decode cX2_bend 52 = .ok (.aload_n 0, 1) := by decide +kernel
theorem dX2_bend_53 : decode cX2_bend 53 = .ok (.iload 4, 2) := by decide +kernel
theorem dX2_bend_55 : decode cX2_bend 55 = .ok (.iconst 2, 1) := by decide +kernel
theorem dX2_bend_56 : decode cX2_bend 56 = .ok (.isub, 1) := by decide +kernel
theorem dX2_bend_57 : decode cX2_bend 57 = .ok (.iload_n 1, 1) := by decide +kernel
theorem dX2_bend_58 : decode cX2_bend 58 = .ok (.invokevirtual 32, 3) := by decide +kernel
theorem dX2_bend_61 : decode cX2_bend 61 = .ok (.ldc2_w 24, 3) := by decide +kernel
theorem dX2_bend_64 : decode cX2_bend 64 = .ok (.aload_n 0, 1) := by decide +kernel
theorem dX2_bend_65 : decode cX2_bend 65 = .ok (.iload 4, 2) := by decide +kernel
theorem dX2_bend_67 : decode cX2_bend 67 = .ok (.iconst 1, 1) := by decide +kernel
theorem dX2_bend_68 : decode cX2_bend 68 = .ok (.isub, 1) := by decide +kernel
theorem dX2_bend_69 : decode cX2_bend 69 = .ok (.iload_n 1, 1) := by decide +kernel
theorem dX2_bend_70 : decode cX2_bend 70 = .ok (.invokevirtual 32, 3) := by decide +kernel
theorem dX2_bend_73 : decode cX2_bend 73 = .ok (.lmul, 1) := by decide +kernel
theorem dX2_bend_74 : decode cX2_bend 74 = .ok (.lsub, 1) := by decide +kernel
theorem dX2_bend_75 : decode cX2_bend 75 = .ok (.aload_n 0, 1) := by decide +kernel
theorem dX2_bend_76 : decode cX2_bend 76 = .ok (.iload 4, 2) := by decide +kernel
theorem dX2_bend_78 : decode cX2_bend 78 = .ok (.iload_n 1, 1) := by decide +kernel
theorem dX2_bend_79 : decode cX2_bend 79 = .ok (.invokevirtual 32, 3) := by decide +kernel
theorem dX2_bend_82 : decode cX2_bend 82 = .ok (.ladd, 1) := by decide +kernel
theorem dX2_bend_83 : decode cX2_bend 83 = .ok (.invokestatic 26, 3) := by decide +kernel
theorem dX2_bend_86 : decode cX2_bend 86 = .ok (.ladd, 1) := by decide +kernel
theorem dX2_bend_87 : decode cX2_bend 87 = .ok (.lstore_n 2, 1) := by decide +kernel
theorem dX2_bend_88 : decode cX2_bend 88 = .ok (.iinc 4 1, 3) := by decide +kernel
theorem dX2_bend_91 : decode cX2_bend 91 = .ok (.goto (-86), 3) := by decide +kernel
theorem dX2_bend_94 : decode cX2_bend 94 = .ok (.lload_n 2, 1) := by decide +kernel
theorem dX2_bend_95 : decode cX2_bend 95 = .ok (.l2i, 1) := by decide +kernel
theorem dX2_bend_96 : decode cX2_bend 96 = .ok (.ireturn, 1) := by decide +kernel
theorem dX2_groundX_0 : decode cX2_groundX 0 = .ok (.aload_n 0, 1) := by decide +kernel
theorem dX2_groundX_1 : decode cX2_groundX 1 = .ok (.getfield 9, 3) := by decide +kernel
theorem dX2_groundX_4 : decode cX2_groundX 4 = .ok (.iload_n 1, 1) := by decide +kernel
theorem dX2_groundX_5 : decode cX2_groundX 5 = .ok (.iaload, 1) := by decide +kernel
theorem dX2_groundX_6 : decode cX2_groundX 6 = .ok (.i2l, 1) := by decide +kernel
theorem dX2_groundX_7 : decode cX2_groundX 7 = .ok (.aload_n 0, 1) := by decide +kernel
theorem dX2_groundX_8 : decode cX2_groundX 8 = .ok (.getfield 13, 3) := by decide +kernel
theorem dX2_groundX_11 : decode cX2_groundX 11 = .ok (.iload_n 1, 1) := by decide +kernel
theorem dX2_groundX_12 : decode cX2_groundX 12 = .ok (.iaload, 1) := by decide +kernel
theorem dX2_groundX_13 : decode cX2_groundX 13 = .ok (.i2l, 1) := by decide +kernel
theorem dX2_groundX_14 : decode cX2_groundX 14 = .ok (.iload_n 1, 1) := by decide +kernel
theorem dX2_groundX_15 : decode cX2_groundX 15 = .ok (.iload_n 2, 1) := by decide +kernel
theorem dX2_groundX_16 : decode cX2_groundX 16 = .ok (.imul, 1) := by decide +kernel
theorem dX2_groundX_17 : decode cX2_groundX 17 = .ok (.invokestatic 35, 3) := by decide +kernel
theorem dX2_groundX_20 : decode cX2_groundX 20 = .ok (.invokestatic 41, 3) := by decide +kernel
theorem dX2_groundX_23 : decode cX2_groundX 23 = .ok (.lreturn, 1) := by decide +kernel
theorem dX2_groundY_0 : decode cX2_groundY 0 = .ok (.aload_n 0, 1) := by decide +kernel
theorem dX2_groundY_1 : decode cX2_groundY 1 = .ok (.getfield 9, 3) := by decide +kernel
theorem dX2_groundY_4 : decode cX2_groundY 4 = .ok (.iload_n 1, 1) := by decide +kernel
theorem dX2_groundY_5 : decode cX2_groundY 5 = .ok (.iaload, 1) := by decide +kernel
theorem dX2_groundY_6 : decode cX2_groundY 6 = .ok (.i2l, 1) := by decide +kernel
theorem dX2_groundY_7 : decode cX2_groundY 7 = .ok (.aload_n 0, 1) := by decide +kernel
theorem dX2_groundY_8 : decode cX2_groundY 8 = .ok (.getfield 13, 3) := by decide +kernel
theorem dX2_groundY_11 : decode cX2_groundY 11 = .ok (.iload_n 1, 1) := by decide +kernel
theorem dX2_groundY_12 : decode cX2_groundY 12 = .ok (.iaload, 1) := by decide +kernel
theorem dX2_groundY_13 : decode cX2_groundY 13 = .ok (.i2l, 1) := by decide +kernel
theorem dX2_groundY_14 : decode cX2_groundY 14 = .ok (.iload_n 1, 1) := by decide +kernel
theorem dX2_groundY_15 : decode cX2_groundY 15 = .ok (.iload_n 2, 1) := by decide +kernel
theorem dX2_groundY_16 : decode cX2_groundY 16 = .ok (.imul, 1) := by decide +kernel
theorem dX2_groundY_17 : decode cX2_groundY 17 = .ok (.invokestatic 35, 3) := by decide +kernel
theorem dX2_groundY_20 : decode cX2_groundY 20 = .ok (.invokestatic 47, 3) := by decide +kernel
theorem dX2_groundY_23 : decode cX2_groundY 23 = .ok (.lreturn, 1) := by decide +kernel
theorem dX2_likeliestPace_0 : decode cX2_likeliestPace 0 = .ok (.iconst 0, 1) := by decide +kernel
theorem dX2_likeliestPace_1 : decode cX2_likeliestPace 1 = .ok (.istore_n 1, 1) := by decide +kernel
theorem dX2_likeliestPace_2 : decode cX2_likeliestPace 2 = .ok (.aload_n 0, 1) := by decide +kernel
theorem dX2_likeliestPace_3 : decode cX2_likeliestPace 3 = .ok (.iconst 0, 1) := by decide +kernel
theorem dX2_likeliestPace_4 : decode cX2_likeliestPace 4 = .ok (.invokevirtual 50, 3) := by decide +kernel
theorem dX2_likeliestPace_7 : decode cX2_likeliestPace 7 = .ok (.istore_n 2, 1) := by decide +kernel
theorem dX2_likeliestPace_8 : decode cX2_likeliestPace 8 = .ok (.iconst 1, 1) := by decide +kernel
theorem dX2_likeliestPace_9 : decode cX2_likeliestPace 9 = .ok (.istore_n 3, 1) := by decide +kernel
theorem dX2_likeliestPace_10 : decode cX2_likeliestPace 10 = .ok (.iload_n 3, 1) := by decide +kernel
theorem dX2_likeliestPace_11 : decode cX2_likeliestPace 11 = .ok (.bipush 60, 2) := by decide +kernel
theorem dX2_likeliestPace_13 : decode cX2_likeliestPace 13 = .ok (.if_icmp .gt 57, 3) := by decide +kernel
theorem dX2_likeliestPace_16 : decode cX2_likeliestPace 16 = .ok (.iconst 0, 1) := by decide +kernel
theorem dX2_likeliestPace_17 : decode cX2_likeliestPace 17 = .ok (.istore 4, 2) := by decide +kernel
theorem dX2_likeliestPace_19 : decode cX2_likeliestPace 19 = .ok (.iload 4, 2) := by decide +kernel
theorem dX2_likeliestPace_21 : decode cX2_likeliestPace 21 = .ok (.iconst 2, 1) := by decide +kernel
theorem dX2_likeliestPace_22 : decode cX2_likeliestPace 22 = .ok (.if_icmp .ge 42, 3) := by decide +kernel
theorem dX2_likeliestPace_25 : decode cX2_likeliestPace 25 = .ok (.iload 4, 2) := by decide +kernel
theorem dX2_likeliestPace_27 : decode cX2_likeliestPace 27 = .ok (.ifCond .ne 7, 3) := by decide +kernel
theorem dX2_likeliestPace_30 : decode cX2_likeliestPace 30 = .ok (.iload_n 3, 1) := by decide +kernel
theorem dX2_likeliestPace_31 : decode cX2_likeliestPace 31 = .ok (.goto 5, 3) := by decide +kernel
theorem dX2_likeliestPace_34 : decode cX2_likeliestPace 34 = .ok (.iload_n 3, 1) := by decide +kernel
theorem dX2_likeliestPace_35 : decode cX2_likeliestPace 35 = .ok (.ineg, 1) := by decide +kernel
theorem dX2_likeliestPace_36 : decode cX2_likeliestPace 36 = .ok (.istore 5, 2) := by decide +kernel
theorem dX2_likeliestPace_38 : decode cX2_likeliestPace 38 = .ok (.aload_n 0, 1) := by decide +kernel
theorem dX2_likeliestPace_39 : decode cX2_likeliestPace 39 = .ok (.iload 5, 2) := by decide +kernel
theorem dX2_likeliestPace_41 : decode cX2_likeliestPace 41 = .ok (.invokevirtual 50, 3) := by decide +kernel
theorem dX2_likeliestPace_44 : decode cX2_likeliestPace 44 = .ok (.istore 6, 2) := by decide +kernel
theorem dX2_likeliestPace_46 : decode cX2_likeliestPace 46 = .ok (.iload 6, 2) := by decide +kernel
theorem dX2_likeliestPace_48 : decode cX2_likeliestPace 48 = .ok (.iload_n 2, 1) := by decide +kernel
theorem dX2_likeliestPace_49 : decode cX2_likeliestPace 49 = .ok (.if_icmp .ge 9, 3) := by decide +kernel
theorem dX2_likeliestPace_52 : decode cX2_likeliestPace 52 = .ok (.iload 6, 2) := by decide +kernel
theorem dX2_likeliestPace_54 : decode cX2_likeliestPace 54 = .ok (.istore_n 2, 1) := by decide +kernel
theorem dX2_likeliestPace_55 : decode cX2_likeliestPace 55 = .ok (.iload 5, 2) := by decide +kernel
theorem dX2_likeliestPace_57 : decode cX2_likeliestPace 57 = .ok (.istore_n 1, 1) := by decide +kernel
theorem dX2_likeliestPace_58 : decode cX2_likeliestPace 58 = .ok (.iinc 4 1, 3) := by decide +kernel
theorem dX2_likeliestPace_61 : decode cX2_likeliestPace 61 = .ok (.goto (-42), 3) := by decide +kernel
theorem dX2_likeliestPace_64 : decode cX2_likeliestPace 64 = .ok (.iinc 3 1, 3) := by decide +kernel
theorem dX2_likeliestPace_67 : decode cX2_likeliestPace 67 = .ok (.goto (-57), 3) := by decide +kernel
theorem dX2_likeliestPace_70 : decode cX2_likeliestPace 70 = .ok (.iload_n 1, 1) := by decide +kernel
theorem dX2_likeliestPace_71 : decode cX2_likeliestPace 71 = .ok (.ireturn, 1) := by decide +kernel
theorem dX2_farthestPace_0 : decode cX2_farthestPace 0 = .ok (.aload_n 0, 1) := by decide +kernel
theorem dX2_farthestPace_1 : decode cX2_farthestPace 1 = .ok (.invokevirtual 53, 3) := by decide +kernel
theorem dX2_farthestPace_4 : decode cX2_farthestPace 4 = .ok (.istore_n 3, 1) := by decide +kernel
theorem dX2_farthestPace_5 : decode cX2_farthestPace 5 = .ok (.aload_n 0, 1) := by decide +kernel
theorem dX2_farthestPace_6 : decode cX2_farthestPace 6 = .ok (.iload_n 3, 1) := by decide +kernel
theorem dX2_farthestPace_7 : decode cX2_farthestPace 7 = .ok (.invokevirtual 50, 3) := by decide +kernel
theorem dX2_farthestPace_10 : decode cX2_farthestPace 10 = .ok (.iload_n 1, 1) := by decide +kernel
theorem dX2_farthestPace_11 : decode cX2_farthestPace 11 = .ok (.iadd, 1) := by decide +kernel
theorem dX2_farthestPace_12 : decode cX2_farthestPace 12 = .ok (.istore 4, 2) := by decide +kernel
theorem dX2_farthestPace_14 : decode cX2_farthestPace 14 = .ok (.bipush 60, 2) := by decide +kernel
theorem dX2_farthestPace_16 : decode cX2_farthestPace 16 = .ok (.istore 5, 2) := by decide +kernel
theorem dX2_farthestPace_18 : decode cX2_farthestPace 18 = .ok (.iload 5, 2) := by decide +kernel
theorem dX2_farthestPace_20 : decode cX2_farthestPace 20 = .ok (.iload_n 2, 1) := by decide +kernel
theorem dX2_farthestPace_21 : decode cX2_farthestPace 21 = .ok (.iload_n 3, 1) := by decide +kernel
theorem dX2_farthestPace_22 : decode cX2_farthestPace 22 = .ok (.imul, 1) := by decide +kernel
theorem dX2_farthestPace_23 : decode cX2_farthestPace 23 = .ok (.if_icmp .le 27, 3) := by decide +kernel
theorem dX2_farthestPace_26 : decode cX2_farthestPace 26 = .ok (.aload_n 0, 1) := by decide +kernel
theorem dX2_farthestPace_27 : decode cX2_farthestPace 27 = .ok (.iload_n 2, 1) := by decide +kernel
theorem dX2_farthestPace_28 : decode cX2_farthestPace 28 = .ok (.iload 5, 2) := by decide +kernel
theorem dX2_farthestPace_30 : decode cX2_farthestPace 30 = .ok (.imul, 1) := by decide +kernel
theorem dX2_farthestPace_31 : decode cX2_farthestPace 31 = .ok (.invokevirtual 50, 3) := by decide +kernel
theorem dX2_farthestPace_34 : decode cX2_farthestPace 34 = .ok (.iload 4, 2) := by decide +kernel
theorem dX2_farthestPace_36 : decode cX2_farthestPace 36 = .ok (.if_icmp .gt 8, 3) := by decide +kernel
theorem dX2_farthestPace_39 : decode cX2_farthestPace 39 = .ok (.iload_n 2, 1) := by decide +kernel
theorem dX2_farthestPace_40 : decode cX2_farthestPace 40 = .ok (.iload 5, 2) := by decide +kernel
theorem dX2_farthestPace_42 : decode cX2_farthestPace 42 = .ok (.imul, 1) := by decide +kernel
theorem dX2_farthestPace_43 : decode cX2_farthestPace 43 = .ok (.ireturn, 1) := by decide +kernel
theorem dX2_farthestPace_44 : decode cX2_farthestPace 44 = .ok (.iinc 5 (-1), 3) := by decide +kernel
theorem dX2_farthestPace_47 : decode cX2_farthestPace 47 = .ok (.goto (-29), 3) := by decide +kernel
theorem dX2_farthestPace_50 : decode cX2_farthestPace 50 = .ok (.iload_n 3, 1) := by decide +kernel
theorem dX2_farthestPace_51 : decode cX2_farthestPace 51 = .ok (.ireturn, 1) := by decide +kernel
theorem dX2_become_0 : decode cX2_become 0 = .ok (.aload_n 1, 1) := by decide +kernel
theorem dX2_become_1 : decode cX2_become 1 = .ok (.getfield 9, 3) := by decide +kernel
theorem dX2_become_4 : decode cX2_become 4 = .ok (.iconst 0, 1) := by decide +kernel
theorem dX2_become_5 : decode cX2_become 5 = .ok (.aload_n 0, 1) := by decide +kernel
theorem dX2_become_6 : decode cX2_become 6 = .ok (.getfield 9, 3) := by decide +kernel
theorem dX2_become_9 : decode cX2_become 9 = .ok (.iconst 0, 1) := by decide +kernel
theorem dX2_become_10 : decode cX2_become 10 = .ok (.bipush 24, 2) := by decide +kernel
theorem dX2_become_12 : decode cX2_become 12 = .ok (.invokestatic 57, 3) := by decide +kernel
theorem dX2_become_15 : decode cX2_become 15 = .ok (.aload_n 1, 1) := by decide +kernel
theorem dX2_become_16 : decode cX2_become 16 = .ok (.getfield 13, 3) := by decide +kernel
theorem dX2_become_19 : decode cX2_become 19 = .ok (.iconst 0, 1) := by decide +kernel
theorem dX2_become_20 : decode cX2_become 20 = .ok (.aload_n 0, 1) := by decide +kernel
theorem dX2_become_21 : decode cX2_become 21 = .ok (.getfield 13, 3) := by decide +kernel
theorem dX2_become_24 : decode cX2_become 24 = .ok (.iconst 0, 1) := by decide +kernel
theorem dX2_become_25 : decode cX2_become 25 = .ok (.bipush 24, 2) := by decide +kernel
theorem dX2_become_27 : decode cX2_become 27 = .ok (.invokestatic 57, 3) := by decide +kernel
theorem dX2_become_30 : decode cX2_become 30 = .ok (.aload_n 0, 1) := by decide +kernel
theorem dX2_become_31 : decode cX2_become 31 = .ok (.aload_n 1, 1) := by decide +kernel
theorem dX2_become_32 : decode cX2_become 32 = .ok (.getfield 16, 3) := by decide +kernel
theorem dX2_become_35 : decode cX2_become 35 = .ok (.putfield 16, 3) := by decide +kernel
theorem dX2_become_38 : decode cX2_become 38 = .ok (.return_, 1) := by decide +kernel
theorem dX3_init_0 : decode cX3_init 0 = .ok (.aload_n 0, 1) := by decide +kernel
theorem dX3_init_1 : decode cX3_init 1 = .ok (.invokespecial 3, 3) := by decide +kernel
theorem dX3_init_4 : decode cX3_init 4 = .ok (.return_, 1) := by decide +kernel
theorem dX3_aim_0 : decode cX3_aim 0 = .ok (.aload_n 0, 1) := by decide +kernel
theorem dX3_aim_1 : decode cX3_aim 1 = .ok (.iconst 0, 1) := by decide +kernel
theorem dX3_aim_2 : decode cX3_aim 2 = .ok (.putfield 9, 3) := by decide +kernel
theorem dX3_aim_5 : decode cX3_aim 5 = .ok (.iconst 1, 1) := by decide +kernel
theorem dX3_aim_6 : decode cX3_aim 6 = .ok (.istore 4, 2) := by decide +kernel
theorem dX3_aim_8 : decode cX3_aim 8 = .ok (.iload 4, 2) := by decide +kernel
theorem dX3_aim_10 : decode cX3_aim 10 = .ok (.bipush 24, 2) := by decide +kernel
theorem dX3_aim_12 : decode cX3_aim 12 = .ok (.if_icmp .ge 37, 3) := by decide +kernel
theorem dX3_aim_15 : decode cX3_aim 15 = .ok (.iload_n 1, 1) := by decide +kernel
theorem dX3_aim_16 : decode cX3_aim 16 = .ok (.iload_n 2, 1) := by decide +kernel
theorem dX3_aim_17 : decode cX3_aim 17 = .ok (.iload_n 3, 1) := by decide +kernel
theorem dX3_aim_18 : decode cX3_aim 18 = .ok (.iload 4, 2) := by decide +kernel
theorem dX3_aim_20 : decode cX3_aim 20 = .ok (.invokestatic 15, 3) := by decide +kernel
theorem dX3_aim_23 : decode cX3_aim 23 = .ok (.iload_n 1, 1) := by decide +kernel
theorem dX3_aim_24 : decode cX3_aim 24 = .ok (.iload_n 2, 1) := by decide +kernel
theorem dX3_aim_25 : decode cX3_aim 25 = .ok (.iload_n 3, 1) := by decide +kernel
theorem dX3_aim_26 : decode cX3_aim 26 = .ok (.aload_n 0, 1) := by decide +kernel
theorem dX3_aim_27 : decode cX3_aim 27 = .ok (.getfield 9, 3) := by decide +kernel
theorem dX3_aim_30 : decode cX3_aim 30 = .ok (.invokestatic 15, 3) := by decide +kernel
theorem dX3_aim_33 : decode cX3_aim 33 = .ok (.lcmp, 1) := by decide +kernel
theorem dX3_aim_34 : decode cX3_aim 34 = .ok (.ifCond .le 9, 3) := by decide +kernel
theorem dX3_aim_37 : decode cX3_aim 37 = .ok (.aload_n 0, 1) := by decide +kernel
theorem dX3_aim_38 : decode cX3_aim 38 = .ok (.iload 4, 2) := by decide +kernel
theorem dX3_aim_40 : decode cX3_aim 40 = .ok (.putfield 9, 3) := by decide +kernel
theorem dX3_aim_43 : decode cX3_aim 43 = .ok (.iinc 4 1, 3) := by decide +kernel
theorem dX3_aim_46 : decode cX3_aim 46 = .ok (.goto (-38), 3) := by decide +kernel
theorem dX3_aim_49 : decode cX3_aim 49 = .ok (.return_, 1) := by decide +kernel
theorem dX3_product_0 : decode cX3_product 0 = .ok (.iload_n 0, 1) := by decide +kernel
theorem dX3_product_1 : decode cX3_product 1 = .ok (.i2l, 1) := by decide +kernel
theorem dX3_product_2 : decode cX3_product 2 = .ok (.iload_n 2, 1) := by decide +kernel
theorem dX3_product_3 : decode cX3_product 3 = .ok (.i2l, 1) := by decide +kernel
theorem dX3_product_4 : decode cX3_product 4 = .ok (.lconst 0, 1) := by decide +kernel
theorem dX3_product_5 : decode cX3_product 5 = .ok (.iload_n 3, 1) := by decide +kernel
theorem dX3_product_6 : decode cX3_product 6 = .ok (.invokestatic 19, 3) := by decide +kernel
theorem dX3_product_9 : decode cX3_product 9 = .ok (.lmul, 1) := by decide +kernel
theorem dX3_product_10 : decode cX3_product 10 = .ok (.iload_n 1, 1) := by decide +kernel
theorem dX3_product_11 : decode cX3_product 11 = .ok (.i2l, 1) := by decide +kernel
theorem dX3_product_12 : decode cX3_product 12 = .ok (.iload_n 2, 1) := by decide +kernel
theorem dX3_product_13 : decode cX3_product 13 = .ok (.i2l, 1) := by decide +kernel
theorem dX3_product_14 : decode cX3_product 14 = .ok (.lconst 0, 1) := by decide +kernel
theorem dX3_product_15 : decode cX3_product 15 = .ok (.iload_n 3, 1) := by decide +kernel
theorem dX3_product_16 : decode cX3_product 16 = .ok (.invokestatic 25, 3) := by decide +kernel
theorem dX3_product_19 : decode cX3_product 19 = .ok (.lmul, 1) := by decide +kernel
theorem dX3_product_20 : decode cX3_product 20 = .ok (.ladd, 1) := by decide +kernel
theorem dX3_product_21 : decode cX3_product 21 = .ok (.lreturn, 1) := by decide +kernel
theorem dX3_practise_0 : decode cX3_practise 0 = .ok (.iconst 1, 1) := by decide +kernel
theorem dX3_practise_1 : decode cX3_practise 1 = .ok (.istore 5, 2) := by decide +kernel
theorem dX3_practise_3 : decode cX3_practise 3 = .ok (.iload 5, 2) := by decide +kernel
theorem dX3_practise_5 : decode cX3_practise 5 = .ok (.bipush 24, 2) := by decide +kernel
theorem dX3_practise_7 : decode cX3_practise 7 = .ok (.if_icmp .gt 74, 3) := by decide +kernel
theorem dX3_practise_10 : decode cX3_practise 10 = .ok (.aload_n 0, 1) := by decide +kernel
theorem dX3_practise_11 : decode cX3_practise 11 = .ok (.iload 5, 2) := by decide +kernel
theorem dX3_practise_13 : decode cX3_practise 13 = .ok (.putfield 28, 3) := by decide +kernel
theorem dX3_practise_16 : decode cX3_practise 16 = .ok (.aload_n 1, 1) := by decide +kernel
theorem dX3_practise_17 : decode cX3_practise 17 = .ok (.iload_n 2, 1) := by decide +kernel
theorem dX3_practise_18 : decode cX3_practise 18 = .ok (.aload_n 0, 1) := by decide +kernel
theorem dX3_practise_19 : decode cX3_practise 19 = .ok (.getfield 9, 3) := by decide +kernel
theorem dX3_practise_22 : decode cX3_practise 22 = .ok (.invokevirtual 31, 3) := by decide +kernel
theorem dX3_practise_25 : decode cX3_practise 25 = .ok (.aload_n 1, 1) := by decide +kernel
theorem dX3_practise_26 : decode cX3_practise 26 = .ok (.aload_n 3, 1) := by decide +kernel
theorem dX3_practise_27 : decode cX3_practise 27 = .ok (.iload 4, 2) := by decide +kernel
theorem dX3_practise_29 : decode cX3_practise 29 = .ok (.invokevirtual 37, 3) := by decide +kernel
theorem dX3_practise_32 : decode cX3_practise 32 = .ok (.bipush (-6), 2) := by decide +kernel
theorem dX3_practise_34 : decode cX3_practise 34 = .ok (.if_icmp .eq 5, 3) := by decide +kernel
theorem dX3_practise_37 : decode cX3_practise 37 = .ok (.iconst 1, 1) := by decide +kernel
theorem dX3_practise_38 : decode cX3_practise 38 = .ok (.ireturn, 1) := by decide +kernel
theorem dX3_practise_39 : decode cX3_practise 39 = .ok (.aload_n 1, 1) := by decide +kernel
theorem dX3_practise_40 : decode cX3_practise 40 = .ok (.aload_n 3, 1) := by decide +kernel
theorem dX3_practise_41 : decode cX3_practise 41 = .ok (.aload_n 1, 1) := by decide +kernel
theorem dX3_practise_42 : decode cX3_practise 42 = .ok (.aload_n 3, 1) := by decide +kernel
theorem dX3_practise_43 : decode cX3_practise 43 = .ok (.invokevirtual 41, 3) := by decide +kernel
theorem dX3_practise_46 : decode cX3_practise 46 = .ok (.invokevirtual 45, 3) := by decide +kernel
theorem dX3_practise_49 : decode cX3_practise 49 = .ok (.ifCond .eq 7, 3) := by decide +kernel
theorem dX3_practise_52 : decode cX3_practise 52 = .ok (.iconst 1, 1) := by decide +kernel
theorem dX3_practise_53 : decode cX3_practise 53 = .ok (.goto 4, 3) := by decide +kernel
theorem dX3_practise_56 : decode cX3_practise 56 = .ok (.iconst (-1), 1) := by decide +kernel
theorem dX3_practise_57 : decode cX3_practise 57 = .ok (.istore 6, 2) := by decide +kernel
theorem dX3_practise_59 : decode cX3_practise 59 = .ok (.aload_n 0, 1) := by decide +kernel
theorem dX3_practise_60 : decode cX3_practise 60 = .ok (.aload_n 0, 1) := by decide +kernel
theorem dX3_practise_61 : decode cX3_practise 61 = .ok (.getfield 9, 3) := by decide +kernel
theorem dX3_practise_64 : decode cX3_practise 64 = .ok (.iload 6, 2) := by decide +kernel
theorem dX3_practise_66 : decode cX3_practise 66 = .ok (.iadd, 1) := by decide +kernel
theorem dX3_practise_67 : decode cX3_practise 67 = .ok (.bipush 24, 2) := by decide +kernel
theorem dX3_practise_69 : decode cX3_practise 69 = .ok (.invokestatic 49, 3) := by decide +kernel
theorem dX3_practise_72 : decode cX3_practise 72 = .ok (.putfield 9, 3) := by decide +kernel
theorem dX3_practise_75 : decode cX3_practise 75 = .ok (.iinc 5 1, 3) := by decide +kernel
theorem dX3_practise_78 : decode cX3_practise 78 = .ok (.goto (-75), 3) := by decide +kernel
theorem dX3_practise_81 : decode cX3_practise 81 = .ok (.iconst 0, 1) := by decide +kernel
theorem dX3_practise_82 : decode cX3_practise 82 = .ok (.ireturn, 1) := by decide +kernel
theorem dX4_init_0 : decode cX4_init 0 = .ok (.aload_n 0, 1) := by decide +kernel
theorem dX4_init_1 : decode cX4_init 1 = .ok (.invokespecial 3, 3) := by decide +kernel
theorem dX4_init_4 : decode cX4_init 4 = .ok (.aload_n 0, 1) := by decide +kernel
theorem dX4_init_5 : decode cX4_init 5 = .ok (.bipush 40, 2) := by decide +kernel
theorem dX4_init_7 : decode cX4_init 7 = .ok (.newarray .int, 2) := by decide +kernel
theorem dX4_init_9 : decode cX4_init 9 = .ok (.putfield 11, 3) := by decide +kernel
theorem dX4_init_12 : decode cX4_init 12 = .ok (.return_, 1) := by decide +kernel
theorem dX4_add_0 : decode cX4_add 0 = .ok (.aload_n 0, 1) := by decide +kernel
theorem dX4_add_1 : decode cX4_add 1 = .ok (.getfield 15, 3) := by decide +kernel
theorem dX4_add_4 : decode cX4_add 4 = .ok (.bipush 40, 2) := by decide +kernel
theorem dX4_add_6 : decode cX4_add 6 = .ok (.if_icmp .lt 5, 3) := by decide +kernel
theorem dX4_add_9 : decode cX4_add 9 = .ok (.iconst 0, 1) := by decide +kernel
theorem dX4_add_10 : decode cX4_add 10 = .ok (.ireturn, 1) := by decide +kernel
theorem dX4_add_11 : decode cX4_add 11 = .ok (.aload_n 0, 1) := by decide +kernel
theorem dX4_add_12 : decode cX4_add 12 = .ok (.getfield 11, 3) := by decide +kernel
theorem dX4_add_15 : decode cX4_add 15 = .ok (.aload_n 0, 1) := by decide +kernel
theorem dX4_add_16 : decode cX4_add 16 = .ok (.getfield 15, 3) := by decide +kernel
theorem dX4_add_19 : decode cX4_add 19 = .ok (.iload_n 1, 1) := by decide +kernel
theorem dX4_add_20 : decode cX4_add 20 = .ok (.iastore, 1) := by decide +kernel
theorem dX4_add_21 : decode cX4_add 21 = .ok (.aload_n 0, 1) := by decide +kernel
theorem dX4_add_22 : decode cX4_add 22 = .ok (.dup, 1) := by decide +kernel
theorem dX4_add_23 : decode cX4_add 23 = .ok (.getfield 15, 3) := by decide +kernel
theorem dX4_add_26 : decode cX4_add 26 = .ok (.iconst 1, 1) := by decide +kernel
theorem dX4_add_27 : decode cX4_add 27 = .ok (.iadd, 1) := by decide +kernel
theorem dX4_add_28 : decode cX4_add 28 = .ok (.putfield 15, 3) := by decide +kernel
theorem dX4_add_31 : decode cX4_add 31 = .ok (.iconst 1, 1) := by decide +kernel
theorem dX4_add_32 : decode cX4_add 32 = .ok (.ireturn, 1) := by decide +kernel
theorem dX4_faultPlace_0 : decode cX4_faultPlace 0 = .ok (.iconst 0, 1) := by decide +kernel
theorem dX4_faultPlace_1 : decode cX4_faultPlace 1 = .ok (.istore_n 1, 1) := by decide +kernel
theorem dX4_faultPlace_2 : decode cX4_faultPlace 2 = .ok (.iconst 0, 1) := by decide +kernel
theorem dX4_faultPlace_3 : decode cX4_faultPlace 3 = .ok (.istore_n 2, 1) := by decide +kernel
theorem dX4_faultPlace_4 : decode cX4_faultPlace 4 = .ok (.iload_n 2, 1) := by decide +kernel
theorem dX4_faultPlace_5 : decode cX4_faultPlace 5 = .ok (.aload_n 0, 1) := by decide +kernel
theorem dX4_faultPlace_6 : decode cX4_faultPlace 6 = .ok (.getfield 15, 3) := by decide +kernel
theorem dX4_faultPlace_9 : decode cX4_faultPlace 9 = .ok (.if_icmp .ge 27, 3) := by decide +kernel
theorem dX4_faultPlace_12 : decode cX4_faultPlace 12 = .ok (.iload_n 1, 1) := by decide +kernel
theorem dX4_faultPlace_13 : decode cX4_faultPlace 13 = .ok (.aload_n 0, 1) := by decide +kernel
theorem dX4_faultPlace_14 : decode cX4_faultPlace 14 = .ok (.getfield 11, 3) := by decide +kernel
theorem dX4_faultPlace_17 : decode cX4_faultPlace 17 = .ok (.iload_n 2, 1) := by decide +kernel
theorem dX4_faultPlace_18 : decode cX4_faultPlace 18 = .ok (.iaload, 1) := by decide +kernel
theorem dX4_faultPlace_19 : decode cX4_faultPlace 19 = .ok (.invokestatic 19, 3) := by decide +kernel
theorem dX4_faultPlace_22 : decode cX4_faultPlace 22 = .ok (.istore_n 1, 1) := by decide +kernel
theorem dX4_faultPlace_23 : decode cX4_faultPlace 23 = .ok (.iload_n 1, 1) := by decide +kernel
theorem dX4_faultPlace_24 : decode cX4_faultPlace 24 = .ok (.iconst (-1), 1) := by decide +kernel
theorem dX4_faultPlace_25 : decode cX4_faultPlace 25 = .ok (.if_icmp .ne 5, 3) := by decide +kernel
theorem dX4_faultPlace_28 : decode cX4_faultPlace 28 = .ok (.iload_n 2, 1) := by decide +kernel
theorem dX4_faultPlace_29 : decode cX4_faultPlace 29 = .ok (.ireturn, 1) := by decide +kernel
theorem dX4_faultPlace_30 : decode cX4_faultPlace 30 = .ok (.iinc 2 1, 3) := by decide +kernel
theorem dX4_faultPlace_33 : decode cX4_faultPlace 33 = .ok (.goto (-29), 3) := by decide +kernel
theorem dX4_faultPlace_36 : decode cX4_faultPlace 36 = .ok (.iload_n 1, 1) := by decide +kernel
theorem dX4_faultPlace_37 : decode cX4_faultPlace 37 = .ok (.iconst 1, 1) := by decide +kernel
theorem dX4_faultPlace_38 : decode cX4_faultPlace 38 = .ok (.if_icmp .eq 8, 3) := by decide +kernel
theorem dX4_faultPlace_41 : decode cX4_faultPlace 41 = .ok (.iload_n 1, 1) := by decide +kernel
theorem dX4_faultPlace_42 : decode cX4_faultPlace 42 = .ok (.iconst 2, 1) := by decide +kernel
theorem dX4_faultPlace_43 : decode cX4_faultPlace 43 = .ok (.if_icmp .ne 10, 3) := by decide +kernel
theorem dX4_faultPlace_46 : decode cX4_faultPlace 46 = .ok (.aload_n 0, 1) := by decide +kernel
theorem dX4_faultPlace_47 : decode cX4_faultPlace 47 = .ok (.getfield 15, 3) := by decide +kernel
theorem dX4_faultPlace_50 : decode cX4_faultPlace 50 = .ok (.goto 5, 3) := by decide +kernel
theorem dX4_faultPlace_53 : decode cX4_faultPlace 53 = .ok (.bipush (-6), 2) := by decide +kernel
theorem dX4_faultPlace_55 : decode cX4_faultPlace 55 = .ok (.ireturn, 1) := by decide +kernel
theorem dX4_behind_0 : decode cX4_behind 0 = .ok (.iload_n 1, 1) := by decide +kernel
theorem dX4_behind_1 : decode cX4_behind 1 = .ok (.invokestatic 23, 3) := by decide +kernel
theorem dX4_behind_4 : decode cX4_behind 4 = .ok (.istore_n 2, 1) := by decide +kernel
theorem dX4_behind_5 : decode cX4_behind 5 = .ok (.iload_n 0, 1) := by decide +kernel
theorem dX4_behind_6 : decode cX4_behind 6 = .ok (.iconst 1, 1) := by decide +kernel
theorem dX4_behind_7 : decode cX4_behind 7 = .ok (.if_icmp .ne 19, 3) := by decide +kernel
theorem dX4_behind_10 : decode cX4_behind 10 = .ok (.iload_n 2, 1) := by decide +kernel
theorem dX4_behind_11 : decode cX4_behind 11 = .ok (.ifCond .eq 13, 3) := by decide +kernel
theorem dX4_behind_14 : decode cX4_behind 14 = .ok (.iload_n 1, 1) := by decide +kernel
theorem dX4_behind_15 : decode cX4_behind 15 = .ok (.bipush 48, 2) := by decide +kernel
theorem dX4_behind_17 : decode cX4_behind 17 = .ok (.if_icmp .eq 7, 3) := by decide +kernel
theorem dX4_behind_20 : decode cX4_behind 20 = .ok (.iconst 0, 1) := by decide +kernel
theorem dX4_behind_21 : decode cX4_behind 21 = .ok (.goto 4, 3) := by decide +kernel
theorem dX4_behind_24 : decode cX4_behind 24 = .ok (.iconst (-1), 1) := by decide +kernel
theorem dX4_behind_25 : decode cX4_behind 25 = .ok (.ireturn, 1) := by decide +kernel
theorem dX4_behind_26 : decode cX4_behind 26 = .ok (.iload_n 0, 1) := by decide +kernel
theorem dX4_behind_27 : decode cX4_behind 27 = .ok (.iconst 2, 1) := by decide +kernel
theorem dX4_behind_28 : decode cX4_behind 28 = .ok (.if_icmp .ne 13, 3) := by decide +kernel
theorem dX4_behind_31 : decode cX4_behind 31 = .ok (.iload_n 2, 1) := by decide +kernel
theorem dX4_behind_32 : decode cX4_behind 32 = .ok (.ifCond .eq 7, 3) := by decide +kernel
theorem dX4_behind_35 : decode cX4_behind 35 = .ok (.iconst 3, 1) := by decide +kernel
theorem dX4_behind_36 : decode cX4_behind 36 = .ok (.goto 4, 3) := by decide +kernel
theorem dX4_behind_39 : decode cX4_behind 39 = .ok (.iconst (-1), 1) := by decide +kernel
theorem dX4_behind_40 : decode cX4_behind 40 = .ok (.ireturn, 1) := by decide +kernel
theorem dX4_behind_41 : decode cX4_behind 41 = .ok (.iload_n 0, 1) := by decide +kernel
theorem dX4_behind_42 : decode cX4_behind 42 = .ok (.iconst 3, 1) := by decide +kernel
theorem dX4_behind_43 : decode cX4_behind 43 = .ok (.if_icmp .ne 9, 3) := by decide +kernel
theorem dX4_behind_46 : decode cX4_behind 46 = .ok (.iload_n 2, 1) := by decide +kernel
theorem dX4_behind_47 : decode cX4_behind 47 = .ok (.ifCond .eq 5, 3) := by decide +kernel
theorem dX4_behind_50 : decode cX4_behind 50 = .ok (.iconst 0, 1) := by decide +kernel
theorem dX4_behind_51 : decode cX4_behind 51 = .ok (.ireturn, 1) := by decide +kernel
theorem dX4_behind_52 : decode cX4_behind 52 = .ok (.iload_n 1, 1) := by decide +kernel
theorem dX4_behind_53 : decode cX4_behind 53 = .ok (.bipush 46, 2) := by decide +kernel
theorem dX4_behind_55 : decode cX4_behind 55 = .ok (.if_icmp .ne 5, 3) := by decide +kernel
theorem dX4_behind_58 : decode cX4_behind 58 = .ok (.iconst 1, 1) := by decide +kernel
theorem dX4_behind_59 : decode cX4_behind 59 = .ok (.ireturn, 1) := by decide +kernel
theorem dX4_behind_60 : decode cX4_behind 60 = .ok (.iload_n 1, 1) := by decide +kernel
theorem dX4_behind_61 : decode cX4_behind 61 = .ok (.bipush 43, 2) := by decide +kernel
theorem dX4_behind_63 : decode cX4_behind 63 = .ok (.if_icmp .eq 9, 3) := by decide +kernel
theorem dX4_behind_66 : decode cX4_behind 66 = .ok (.iload_n 1, 1) := by decide +kernel
theorem dX4_behind_67 : decode cX4_behind 67 = .ok (.bipush 45, 2) := by decide +kernel
theorem dX4_behind_69 : decode cX4_behind 69 = .ok (.if_icmp .ne 7, 3) := by decide +kernel
theorem dX4_behind_72 : decode cX4_behind 72 = .ok (.iconst 2, 1) := by decide +kernel
theorem dX4_behind_73 : decode cX4_behind 73 = .ok (.goto 4, 3) := by decide +kernel
theorem dX4_behind_76 : decode cX4_behind 76 = .ok (.iconst (-1), 1) := by decide +kernel
theorem dX4_behind_77 : decode cX4_behind 77 = .ok (.ireturn, 1) := by decide +kernel
theorem dX4_isDigit_0 : decode cX4_isDigit 0 = .ok (.iload_n 0, 1) := by decide +kernel
theorem dX4_isDigit_1 : decode cX4_isDigit 1 = .ok (.bipush 48, 2) := by decide +kernel
theorem dX4_isDigit_3 : decode cX4_isDigit 3 = .ok (.if_icmp .lt 13, 3) := by decide +kernel
theorem dX4_isDigit_6 : decode cX4_isDigit 6 = .ok (.iload_n 0, 1) := by decide +kernel
theorem dX4_isDigit_7 : decode cX4_isDigit 7 = .ok (.bipush 57, 2) := by decide +kernel
theorem dX4_isDigit_9 : decode cX4_isDigit 9 = .ok (.if_icmp .gt 7, 3) := by decide +kernel
theorem dX4_isDigit_12 : decode cX4_isDigit 12 = .ok (.iconst 1, 1) := by decide +kernel
theorem dX4_isDigit_13 : decode cX4_isDigit 13 = .ok (.goto 4, 3) := by decide +kernel
theorem dX4_isDigit_16 : decode cX4_isDigit 16 = .ok (.iconst 0, 1) := by decide +kernel
theorem dX4_isDigit_17 : decode cX4_isDigit 17 = .ok (.ireturn, 1) := by decide +kernel
theorem dX5_init_0 : decode cX5_init 0 = .ok (.aload_n 0, 1) := by decide +kernel
theorem dX5_init_1 : decode cX5_init 1 = .ok (.invokespecial 3, 3) := by decide +kernel
theorem dX5_init_4 : decode cX5_init 4 = .ok (.aload_n 0, 1) := by decide +kernel
theorem dX5_init_5 : decode cX5_init 5 = .ok (.bipush 61, 2) := by decide +kernel
theorem dX5_init_7 : decode cX5_init 7 = .ok (.newarray .int, 2) := by decide +kernel
theorem dX5_init_9 : decode cX5_init 9 = .ok (.putfield 9, 3) := by decide +kernel
theorem dX5_init_12 : decode cX5_init 12 = .ok (.aload_n 0, 1) := by decide +kernel
theorem dX5_init_13 : decode cX5_init 13 = .ok (.bipush 61, 2) := by decide +kernel
theorem dX5_init_15 : decode cX5_init 15 = .ok (.newarray .int, 2) := by decide +kernel
theorem dX5_init_17 : decode cX5_init 17 = .ok (.putfield 15, 3) := by decide +kernel
theorem dX5_init_20 : decode cX5_init 20 = .ok (.return_, 1) := by decide +kernel
theorem dX5_run_0 : decode cX5_run 0 = .ok (.aload_n 0, 1) := by decide +kernel
theorem dX5_run_1 : decode cX5_run 1 = .ok (.getfield 9, 3) := by decide +kernel
theorem dX5_run_4 : decode cX5_run 4 = .ok (.iconst 0, 1) := by decide +kernel
theorem dX5_run_5 : decode cX5_run 5 = .ok (.iconst 0, 1) := by decide +kernel
theorem dX5_run_6 : decode cX5_run 6 = .ok (.iastore, 1) := by decide +kernel
theorem dX5_run_7 : decode cX5_run 7 = .ok (.aload_n 0, 1) := by decide +kernel
theorem dX5_run_8 : decode cX5_run 8 = .ok (.getfield 15, 3) := by decide +kernel
theorem dX5_run_11 : decode cX5_run 11 = .ok (.iconst 0, 1) := by decide +kernel
theorem dX5_run_12 : decode cX5_run 12 = .ok (.iload_n 2, 1) := by decide +kernel
theorem dX5_run_13 : decode cX5_run 13 = .ok (.iastore, 1) := by decide +kernel
theorem dX5_run_14 : decode cX5_run 14 = .ok (.iconst 0, 1) := by decide +kernel
theorem dX5_run_15 : decode cX5_run 15 = .ok (.istore_n 3, 1) := by decide +kernel
theorem dX5_run_16 : decode cX5_run 16 = .ok (.iload_n 3, 1) := by decide +kernel
theorem dX5_run_17 : decode cX5_run 17 = .ok (.bipush 60, 2) := by decide +kernel
theorem dX5_run_19 : decode cX5_run 19 = .ok (.if_icmp .ge 65, 3) := by decide +kernel
theorem dX5_run_22 : decode cX5_run 22 = .ok (.aload_n 1, 1) := by decide +kernel
theorem dX5_run_23 : decode cX5_run 23 = .ok (.getfield 18, 3) := by decide +kernel
theorem dX5_run_26 : decode cX5_run 26 = .ok (.iload_n 3, 1) := by decide +kernel
theorem dX5_run_27 : decode cX5_run 27 = .ok (.aload_n 0, 1) := by decide +kernel
theorem dX5_run_28 : decode cX5_run 28 = .ok (.getfield 15, 3) := by decide +kernel
theorem dX5_run_31 : decode cX5_run 31 = .ok (.iload_n 3, 1) := by decide +kernel
theorem dX5_run_32 : decode cX5_run 32 = .ok (.iaload, 1) := by decide +kernel
theorem dX5_run_33 : decode cX5_run 33 = .ok (.invokevirtual 24, 3) := by decide +kernel
theorem dX5_run_36 : decode cX5_run 36 = .ok (.istore 4, 2) := by decide +kernel
theorem dX5_run_38 : decode cX5_run 38 = .ok (.aload_n 0, 1) := by decide +kernel
theorem dX5_run_39 : decode cX5_run 39 = .ok (.getfield 9, 3) := by decide +kernel
theorem dX5_run_42 : decode cX5_run 42 = .ok (.iload_n 3, 1) := by decide +kernel
theorem dX5_run_43 : decode cX5_run 43 = .ok (.iconst 1, 1) := by decide +kernel
theorem dX5_run_44 : decode cX5_run 44 = .ok (.iadd, 1) := by decide +kernel
theorem dX5_run_45 : decode cX5_run 45 = .ok (.aload_n 0, 1) := by decide +kernel
theorem dX5_run_46 : decode cX5_run 46 = .ok (.getfield 9, 3) := by decide +kernel
theorem dX5_run_49 : decode cX5_run 49 = .ok (.iload_n 3, 1) := by decide +kernel
theorem dX5_run_50 : decode cX5_run 50 = .ok (.iaload, 1) := by decide +kernel
theorem dX5_run_51 : decode cX5_run 51 = .ok (.iload 4, 2) := by decide +kernel
theorem dX5_run_53 : decode cX5_run 53 = .ok (.iadd, 1) := by decide +kernel
theorem dX5_run_54 : decode cX5_run 54 = .ok (.sipush 240, 3) := by decide +kernel
theorem dX5_run_57 : decode cX5_run 57 = .ok (.invokestatic 30, 3) := by decide +kernel
theorem dX5_run_60 : decode cX5_run 60 = .ok (.iastore, 1) := by decide +kernel
theorem dX5_run_61 : decode cX5_run 61 = .ok (.aload_n 0, 1) := by decide +kernel
theorem dX5_run_62 : decode cX5_run 62 = .ok (.getfield 15, 3) := by decide +kernel
theorem dX5_run_65 : decode cX5_run 65 = .ok (.iload_n 3, 1) := by decide +kernel
theorem dX5_run_66 : decode cX5_run 66 = .ok (.iconst 1, 1) := by decide +kernel
theorem dX5_run_67 : decode cX5_run 67 = .ok (.iadd, 1) := by decide +kernel
theorem dX5_run_68 : decode cX5_run 68 = .ok (.iload 4, 2) := by decide +kernel
theorem dX5_run_70 : decode cX5_run 70 = .ok (.aload_n 1, 1) := by decide +kernel
theorem dX5_run_71 : decode cX5_run 71 = .ok (.invokevirtual 35, 3) := by decide +kernel
theorem dX5_run_74 : decode cX5_run 74 = .ok (.invokestatic 39, 3) := by decide +kernel
theorem dX5_run_77 : decode cX5_run 77 = .ok (.iastore, 1) := by decide +kernel
theorem dX5_run_78 : decode cX5_run 78 = .ok (.iinc 3 1, 3) := by decide +kernel
theorem dX5_run_81 : decode cX5_run 81 = .ok (.goto (-65), 3) := by decide +kernel
theorem dX5_run_84 : decode cX5_run 84 = .ok (.return_, 1) := by decide +kernel
theorem dX5_nearerToZero_0 : decode cX5_nearerToZero 0 = .ok (.iload_n 0, 1) := by decide +kernel
theorem dX5_nearerToZero_1 : decode cX5_nearerToZero 1 = .ok (.ifCond .le 13, 3) := by decide +kernel
theorem dX5_nearerToZero_4 : decode cX5_nearerToZero 4 = .ok (.iconst 0, 1) := by decide +kernel
theorem dX5_nearerToZero_5 : decode cX5_nearerToZero 5 = .ok (.iload_n 0, 1) := by decide +kernel
theorem dX5_nearerToZero_6 : decode cX5_nearerToZero 6 = .ok (.iload_n 1, 1) := by decide +kernel
theorem dX5_nearerToZero_7 : decode cX5_nearerToZero 7 = .ok (.isub, 1) := by decide +kernel
theorem dX5_nearerToZero_8 : decode cX5_nearerToZero 8 = .ok (.invokestatic 42, 3) := by decide +kernel
theorem dX5_nearerToZero_11 : decode cX5_nearerToZero 11 = .ok (.goto 10, 3) := by decide +kernel
theorem dX5_nearerToZero_14 : decode cX5_nearerToZero 14 = .ok (.iconst 0, 1) := by decide +kernel
theorem dX5_nearerToZero_15 : decode cX5_nearerToZero 15 = .ok (.iload_n 0, 1) := by decide +kernel
theorem dX5_nearerToZero_16 : decode cX5_nearerToZero 16 = .ok (.iload_n 1, 1) := by decide +kernel
theorem dX5_nearerToZero_17 : decode cX5_nearerToZero 17 = .ok (.iadd, 1) := by decide +kernel
theorem dX5_nearerToZero_18 : decode cX5_nearerToZero 18 = .ok (.invokestatic 45, 3) := by decide +kernel
theorem dX5_nearerToZero_21 : decode cX5_nearerToZero 21 = .ok (.ireturn, 1) := by decide +kernel
theorem dX5_wayOf_0 : decode cX5_wayOf 0 = .ok (.iload_n 0, 1) := by decide +kernel
theorem dX5_wayOf_1 : decode cX5_wayOf 1 = .ok (.sipush 240, 3) := by decide +kernel
theorem dX5_wayOf_4 : decode cX5_wayOf 4 = .ok (.invokestatic 30, 3) := by decide +kernel
theorem dX5_wayOf_7 : decode cX5_wayOf 7 = .ok (.bipush 10, 2) := by decide +kernel
theorem dX5_wayOf_9 : decode cX5_wayOf 9 = .ok (.idiv, 1) := by decide +kernel
theorem dX5_wayOf_10 : decode cX5_wayOf 10 = .ok (.ireturn, 1) := by decide +kernel
theorem dX5_wayBehind_0 : decode cX5_wayBehind 0 = .ok (.aload_n 0, 1) := by decide +kernel
theorem dX5_wayBehind_1 : decode cX5_wayBehind 1 = .ok (.getfield 9, 3) := by decide +kernel
theorem dX5_wayBehind_4 : decode cX5_wayBehind 4 = .ok (.iload_n 1, 1) := by decide +kernel
theorem dX5_wayBehind_5 : decode cX5_wayBehind 5 = .ok (.iaload, 1) := by decide +kernel
theorem dX5_wayBehind_6 : decode cX5_wayBehind 6 = .ok (.invokestatic 48, 3) := by decide +kernel
theorem dX5_wayBehind_9 : decode cX5_wayBehind 9 = .ok (.ireturn, 1) := by decide +kernel
theorem dX5_wayBack_0 : decode cX5_wayBack 0 = .ok (.bipush 24, 2) := by decide +kernel
theorem dX5_wayBack_2 : decode cX5_wayBack 2 = .ok (.aload_n 0, 1) := by decide +kernel
theorem dX5_wayBack_3 : decode cX5_wayBack 3 = .ok (.iload_n 1, 1) := by decide +kernel
theorem dX5_wayBack_4 : decode cX5_wayBack 4 = .ok (.invokevirtual 52, 3) := by decide +kernel
theorem dX5_wayBack_7 : decode cX5_wayBack 7 = .ok (.isub, 1) := by decide +kernel
theorem dX5_wayBack_8 : decode cX5_wayBack 8 = .ok (.bipush 24, 2) := by decide +kernel
theorem dX5_wayBack_10 : decode cX5_wayBack 10 = .ok (.irem, 1) := by decide +kernel
theorem dX5_wayBack_11 : decode cX5_wayBack 11 = .ok (.ireturn, 1) := by decide +kernel
theorem dX6_init_0 : decode cX6_init 0 = .ok (.aload_n 0, 1) := by decide +kernel
theorem dX6_init_1 : decode cX6_init 1 = .ok (.invokespecial 5, 3) := by decide +kernel
theorem dX6_init_4 : decode cX6_init 4 = .ok (.aload_n 0, 1) := by decide +kernel
theorem dX6_init_5 : decode cX6_init 5 = .ok (.bipush 20, 2) := by decide +kernel
theorem dX6_init_7 : decode cX6_init 7 = .ok (.newarray .int, 2) := by decide +kernel
theorem dX6_init_9 : decode cX6_init 9 = .ok (.putfield 13, 3) := by decide +kernel
theorem dX6_init_12 : decode cX6_init 12 = .ok (.aload_n 0, 1) := by decide +kernel
theorem dX6_init_13 : decode cX6_init 13 = .ok (.bipush 20, 2) := by decide +kernel
theorem dX6_init_15 : decode cX6_init 15 = .ok (.newarray .int, 2) := by decide +kernel
theorem dX6_init_17 : decode cX6_init 17 = .ok (.putfield 17, 3) := by decide +kernel
theorem dX6_init_20 : decode cX6_init 20 = .ok (.return_, 1) := by decide +kernel
theorem dX6_read_0 : decode cX6_read 0 = .ok (.aload_n 0, 1) := by decide +kernel
theorem dX6_read_1 : decode cX6_read 1 = .ok (.iconst 0, 1) := by decide +kernel
theorem dX6_read_2 : decode cX6_read 2 = .ok (.putfield 20, 3) := by decide +kernel
theorem dX6_read_5 : decode cX6_read 5 = .ok (.aload_n 0, 1) := by decide +kernel
theorem dX6_read_6 : decode cX6_read 6 = .ok (.iconst 0, 1) := by decide +kernel
theorem dX6_read_7 : decode cX6_read 7 = .ok (.putfield 24, 3) := by decide +kernel
theorem dX6_read_10 : decode cX6_read 10 = .ok (.iconst 0, 1) := by decide +kernel
theorem dX6_read_11 : decode cX6_read 11 = .ok (.istore_n 2, 1) := by decide +kernel
theorem dX6_read_12 : decode cX6_read 12 = .ok (.iconst 0, 1) := by decide +kernel
theorem dX6_read_13 : decode cX6_read 13 = .ok (.istore_n 3, 1) := by decide +kernel
theorem dX6_read_14 : decode cX6_read 14 = .ok (.iload_n 3, 1) := by decide +kernel
theorem dX6_read_15 : decode cX6_read 15 = .ok (.aload_n 1, 1) := by decide +kernel
theorem dX6_read_16 : decode cX6_read 16 = .ok (.getfield 27, 3) := by decide +kernel
theorem dX6_read_19 : decode cX6_read 19 = .ok (.if_icmp .ge 113, 3) := by decide +kernel
theorem dX6_read_22 : decode cX6_read 22 = .ok (.aload_n 1, 1) := by decide +kernel
theorem dX6_read_23 : decode cX6_read 23 = .ok (.getfield 30, 3) := by decide +kernel
theorem dX6_read_26 : decode cX6_read 26 = .ok (.iload_n 3, 1) := by decide +kernel
theorem dX6_read_27 : decode cX6_read 27 = .ok (.iaload, 1) := by decide +kernel
theorem dX6_read_28 : decode cX6_read 28 = .ok (.istore 4, 2) := by decide +kernel
theorem dX6_read_30 : decode cX6_read 30 = .ok (.iload 4, 2) := by decide +kernel
theorem dX6_read_32 : decode cX6_read 32 = .ok (.invokestatic 33, 3) := by decide +kernel
theorem dX6_read_35 : decode cX6_read 35 = .ok (.ifCond .eq 6, 3) := by decide +kernel
theorem dX6_read_38 : decode cX6_read 38 = .ok (.goto 88, 3) := by decide +kernel
theorem dX6_read_41 : decode cX6_read 41 = .ok (.aload_n 0, 1) := by decide +kernel
theorem dX6_read_42 : decode cX6_read 42 = .ok (.dup, 1) := by decide +kernel
theorem dX6_read_43 : decode cX6_read 43 = .ok (.getfield 24, 3) := by decide +kernel
theorem dX6_read_46 : decode cX6_read 46 = .ok (.iconst 1, 1) := by decide +kernel
theorem dX6_read_47 : decode cX6_read 47 = .ok (.iadd, 1) := by decide +kernel
theorem dX6_read_48 : decode cX6_read 48 = .ok (.putfield 24, 3) := by decide +kernel
theorem dX6_read_51 : decode cX6_read 51 = .ok (.aload_n 1, 1) := by decide +kernel
theorem dX6_read_52 : decode cX6_read 52 = .ok (.iload_n 3, 1) := by decide +kernel
theorem dX6_read_53 : decode cX6_read 53 = .ok (.invokestatic 37, 3) := by decide +kernel
theorem dX6_read_56 : decode cX6_read 56 = .ok (.istore 5, 2) := by decide +kernel
theorem dX6_read_58 : decode cX6_read 58 = .ok (.iload 4, 2) := by decide +kernel
theorem dX6_read_60 : decode cX6_read 60 = .ok (.bipush 46, 2) := by decide +kernel
theorem dX6_read_62 : decode cX6_read 62 = .ok (.if_icmp .ne 11, 3) := by decide +kernel
theorem dX6_read_65 : decode cX6_read 65 = .ok (.iload_n 2, 1) := by decide +kernel
theorem dX6_read_66 : decode cX6_read 66 = .ok (.iload 5, 2) := by decide +kernel
theorem dX6_read_68 : decode cX6_read 68 = .ok (.iadd, 1) := by decide +kernel
theorem dX6_read_69 : decode cX6_read 69 = .ok (.istore_n 2, 1) := by decide +kernel
theorem dX6_read_70 : decode cX6_read 70 = .ok (.goto 56, 3) := by decide +kernel
theorem dX6_read_73 : decode cX6_read 73 = .ok (.aload_n 0, 1) := by decide +kernel
theorem dX6_read_74 : decode cX6_read 74 = .ok (.getfield 20, 3) := by decide +kernel
theorem dX6_read_77 : decode cX6_read 77 = .ok (.bipush 20, 2) := by decide +kernel
theorem dX6_read_79 : decode cX6_read 79 = .ok (.if_icmp .ge 47, 3) := by decide +kernel
theorem dX6_read_82 : decode cX6_read 82 = .ok (.aload_n 0, 1) := by decide +kernel
theorem dX6_read_83 : decode cX6_read 83 = .ok (.getfield 13, 3) := by decide +kernel
theorem dX6_read_86 : decode cX6_read 86 = .ok (.aload_n 0, 1) := by decide +kernel
theorem dX6_read_87 : decode cX6_read 87 = .ok (.getfield 20, 3) := by decide +kernel
theorem dX6_read_90 : decode cX6_read 90 = .ok (.iload_n 2, 1) := by decide +kernel
theorem dX6_read_91 : decode cX6_read 91 = .ok (.iastore, 1) := by decide +kernel
theorem dX6_read_92 : decode cX6_read 92 = .ok (.aload_n 0, 1) := by decide +kernel
theorem dX6_read_93 : decode cX6_read 93 = .ok (.getfield 17, 3) := by decide +kernel
theorem dX6_read_96 : decode cX6_read 96 = .ok (.aload_n 0, 1) := by decide +kernel
theorem dX6_read_97 : decode cX6_read 97 = .ok (.getfield 20, 3) := by decide +kernel
theorem dX6_read_100 : decode cX6_read 100 = .ok (.iload 4, 2) := by decide +kernel
theorem dX6_read_102 : decode cX6_read 102 = .ok (.bipush 43, 2) := by decide +kernel
theorem dX6_read_104 : decode cX6_read 104 = .ok (.if_icmp .ne 8, 3) := by decide +kernel
theorem dX6_read_107 : decode cX6_read 107 = .ok (.iload 5, 2) := by decide +kernel
theorem dX6_read_109 : decode cX6_read 109 = .ok (.goto 6, 3) := by decide +kernel
theorem dX6_read_112 : decode cX6_read 112 = .ok (.iload 5, 2) := by decide +kernel
theorem dX6_read_114 : decode cX6_read 114 = .ok (.ineg, 1) := by decide +kernel
theorem dX6_read_115 : decode cX6_read 115 = .ok (.iastore, 1) := by decide +kernel
theorem dX6_read_116 : decode cX6_read 116 = .ok (.aload_n 0, 1) := by decide +kernel
theorem dX6_read_117 : decode cX6_read 117 = .ok (.dup, 1) := by decide +kernel
theorem dX6_read_118 : decode cX6_read 118 = .ok (.getfield 20, 3) := by decide +kernel
theorem dX6_read_121 : decode cX6_read 121 = .ok (.iconst 1, 1) := by decide +kernel
theorem dX6_read_122 : decode cX6_read 122 = .ok (.iadd, 1) := by decide +kernel
theorem dX6_read_123 : decode cX6_read 123 = .ok (.putfield 20, 3) := by decide +kernel
theorem dX6_read_126 : decode cX6_read 126 = .ok (.iinc 3 1, 3) := by decide +kernel
theorem dX6_read_129 : decode cX6_read 129 = .ok (.goto (-115), 3) := by decide +kernel
theorem dX6_read_132 : decode cX6_read 132 = .ok (.return_, 1) := by decide +kernel
theorem dX6_numberBehind_0 : decode cX6_numberBehind 0 = .ok (.iconst 0, 1) := by decide +kernel
theorem dX6_numberBehind_1 : decode cX6_numberBehind 1 = .ok (.istore_n 2, 1) := by decide +kernel
theorem dX6_numberBehind_2 : decode cX6_numberBehind 2 = .ok (.iload_n 1, 1) := by decide +kernel
theorem dX6_numberBehind_3 : decode cX6_numberBehind 3 = .ok (.iconst 1, 1) := by decide +kernel
theorem dX6_numberBehind_4 : decode cX6_numberBehind 4 = .ok (.iadd, 1) := by decide +kernel
theorem dX6_numberBehind_5 : decode cX6_numberBehind 5 = .ok (.istore_n 3, 1) := by decide +kernel
theorem dX6_numberBehind_6 : decode cX6_numberBehind 6 = .ok (.iload_n 3, 1) := by decide +kernel
theorem dX6_numberBehind_7 : decode cX6_numberBehind 7 = .ok (.aload_n 0, 1) := by decide +kernel
theorem dX6_numberBehind_8 : decode cX6_numberBehind 8 = .ok (.getfield 27, 3) := by decide +kernel
theorem dX6_numberBehind_11 : decode cX6_numberBehind 11 = .ok (.if_icmp .ge 36, 3) := by decide +kernel
theorem dX6_numberBehind_14 : decode cX6_numberBehind 14 = .ok (.aload_n 0, 1) := by decide +kernel
theorem dX6_numberBehind_15 : decode cX6_numberBehind 15 = .ok (.getfield 30, 3) := by decide +kernel
theorem dX6_numberBehind_18 : decode cX6_numberBehind 18 = .ok (.iload_n 3, 1) := by decide +kernel
theorem dX6_numberBehind_19 : decode cX6_numberBehind 19 = .ok (.iaload, 1) := by decide +kernel
theorem dX6_numberBehind_20 : decode cX6_numberBehind 20 = .ok (.invokestatic 33, 3) := by decide +kernel
theorem dX6_numberBehind_23 : decode cX6_numberBehind 23 = .ok (.ifCond .eq 24, 3) := by decide +kernel
theorem dX6_numberBehind_26 : decode cX6_numberBehind 26 = .ok (.iload_n 2, 1) := by decide +kernel
theorem dX6_numberBehind_27 : decode cX6_numberBehind 27 = .ok (.bipush 10, 2) := by decide +kernel
theorem dX6_numberBehind_29 : decode cX6_numberBehind 29 = .ok (.imul, 1) := by decide +kernel
theorem dX6_numberBehind_30 : decode cX6_numberBehind 30 = .ok (.aload_n 0, 1) := by decide +kernel
theorem dX6_numberBehind_31 : decode cX6_numberBehind 31 = .ok (.getfield 30, 3) := by decide +kernel
theorem dX6_numberBehind_34 : decode cX6_numberBehind 34 = .ok (.iload_n 3, 1) := by decide +kernel
theorem dX6_numberBehind_35 : decode cX6_numberBehind 35 = .ok (.iaload, 1) := by decide +kernel
theorem dX6_numberBehind_36 : decode cX6_numberBehind 36 = .ok (.iadd, 1) := by decide +kernel
theorem dX6_numberBehind_37 : decode cX6_numberBehind 37 = .ok (.bipush 48, 2) := by decide +kernel
theorem dX6_numberBehind_39 : decode cX6_numberBehind 39 = .ok (.isub, 1) := by decide +kernel
theorem dX6_numberBehind_40 : decode cX6_numberBehind 40 = .ok (.istore_n 2, 1) := by decide +kernel
theorem dX6_numberBehind_41 : decode cX6_numberBehind 41 = .ok (.iinc 3 1, 3) := by decide +kernel
theorem dX6_numberBehind_44 : decode cX6_numberBehind 44 = .ok (.goto (-38), 3) := by decide +kernel
theorem dX6_numberBehind_47 : decode cX6_numberBehind 47 = .ok (.iload_n 2, 1) := by decide +kernel
theorem dX6_numberBehind_48 : decode cX6_numberBehind 48 = .ok (.ireturn, 1) := by decide +kernel
theorem dX6_paceAt_0 : decode cX6_paceAt 0 = .ok (.iload_n 2, 1) := by decide +kernel
theorem dX6_paceAt_1 : decode cX6_paceAt 1 = .ok (.istore_n 3, 1) := by decide +kernel
theorem dX6_paceAt_2 : decode cX6_paceAt 2 = .ok (.iconst 0, 1) := by decide +kernel
theorem dX6_paceAt_3 : decode cX6_paceAt 3 = .ok (.istore 4, 2) := by decide +kernel
theorem dX6_paceAt_5 : decode cX6_paceAt 5 = .ok (.iload 4, 2) := by decide +kernel
theorem dX6_paceAt_7 : decode cX6_paceAt 7 = .ok (.aload_n 0, 1) := by decide +kernel
theorem dX6_paceAt_8 : decode cX6_paceAt 8 = .ok (.getfield 20, 3) := by decide +kernel
theorem dX6_paceAt_11 : decode cX6_paceAt 11 = .ok (.if_icmp .ge 40, 3) := by decide +kernel
theorem dX6_paceAt_14 : decode cX6_paceAt 14 = .ok (.aload_n 0, 1) := by decide +kernel
theorem dX6_paceAt_15 : decode cX6_paceAt 15 = .ok (.getfield 13, 3) := by decide +kernel
theorem dX6_paceAt_18 : decode cX6_paceAt 18 = .ok (.iload 4, 2) := by decide +kernel
theorem dX6_paceAt_20 : decode cX6_paceAt 20 = .ok (.iaload, 1) := by decide +kernel
theorem dX6_paceAt_21 : decode cX6_paceAt 21 = .ok (.iload_n 1, 1) := by decide +kernel
theorem dX6_paceAt_22 : decode cX6_paceAt 22 = .ok (.if_icmp .ne 23, 3) := by decide +kernel
theorem dX6_paceAt_25 : decode cX6_paceAt 25 = .ok (.bipush (-99), 2) := by decide +kernel
theorem dX6_paceAt_27 : decode cX6_paceAt 27 = .ok (.bipush 99, 2) := by decide +kernel
theorem dX6_paceAt_29 : decode cX6_paceAt 29 = .ok (.iload_n 3, 1) := by decide +kernel
theorem dX6_paceAt_30 : decode cX6_paceAt 30 = .ok (.aload_n 0, 1) := by decide +kernel
theorem dX6_paceAt_31 : decode cX6_paceAt 31 = .ok (.getfield 17, 3) := by decide +kernel
theorem dX6_paceAt_34 : decode cX6_paceAt 34 = .ok (.iload 4, 2) := by decide +kernel
theorem dX6_paceAt_36 : decode cX6_paceAt 36 = .ok (.iaload, 1) := by decide +kernel
theorem dX6_paceAt_37 : decode cX6_paceAt 37 = .ok (.iadd, 1) := by decide +kernel
theorem dX6_paceAt_38 : decode cX6_paceAt 38 = .ok (.invokestatic 41, 3) := by decide +kernel
theorem dX6_paceAt_41 : decode cX6_paceAt 41 = .ok (.invokestatic 47, 3) := by decide +kernel
theorem dX6_paceAt_44 : decode cX6_paceAt 44 = .ok (.istore_n 3, 1) := by decide +kernel
theorem dX6_paceAt_45 : decode cX6_paceAt 45 = .ok (.iinc 4 1, 3) := by decide +kernel
theorem dX6_paceAt_48 : decode cX6_paceAt 48 = .ok (.goto (-43), 3) := by decide +kernel
theorem dX6_paceAt_51 : decode cX6_paceAt 51 = .ok (.iload_n 3, 1) := by decide +kernel
theorem dX6_paceAt_52 : decode cX6_paceAt 52 = .ok (.ireturn, 1) := by decide +kernel
theorem dX6_become_0 : decode cX6_become 0 = .ok (.aload_n 1, 1) := by decide +kernel
theorem dX6_become_1 : decode cX6_become 1 = .ok (.getfield 13, 3) := by decide +kernel
theorem dX6_become_4 : decode cX6_become 4 = .ok (.iconst 0, 1) := by decide +kernel
theorem dX6_become_5 : decode cX6_become 5 = .ok (.aload_n 0, 1) := by decide +kernel
theorem dX6_become_6 : decode cX6_become 6 = .ok (.getfield 13, 3) := by decide +kernel
theorem dX6_become_9 : decode cX6_become 9 = .ok (.iconst 0, 1) := by decide +kernel
theorem dX6_become_10 : decode cX6_become 10 = .ok (.bipush 20, 2) := by decide +kernel
theorem dX6_become_12 : decode cX6_become 12 = .ok (.invokestatic 50, 3) := by decide +kernel
theorem dX6_become_15 : decode cX6_become 15 = .ok (.aload_n 1, 1) := by decide +kernel
theorem dX6_become_16 : decode cX6_become 16 = .ok (.getfield 17, 3) := by decide +kernel
theorem dX6_become_19 : decode cX6_become 19 = .ok (.iconst 0, 1) := by decide +kernel
theorem dX6_become_20 : decode cX6_become 20 = .ok (.aload_n 0, 1) := by decide +kernel
theorem dX6_become_21 : decode cX6_become 21 = .ok (.getfield 17, 3) := by decide +kernel
theorem dX6_become_24 : decode cX6_become 24 = .ok (.iconst 0, 1) := by decide +kernel
theorem dX6_become_25 : decode cX6_become 25 = .ok (.bipush 20, 2) := by decide +kernel
theorem dX6_become_27 : decode cX6_become 27 = .ok (.invokestatic 50, 3) := by decide +kernel
theorem dX6_become_30 : decode cX6_become 30 = .ok (.aload_n 0, 1) := by decide +kernel
theorem dX6_become_31 : decode cX6_become 31 = .ok (.aload_n 1, 1) := by decide +kernel
theorem dX6_become_32 : decode cX6_become 32 = .ok (.getfield 20, 3) := by decide +kernel
theorem dX6_become_35 : decode cX6_become 35 = .ok (.putfield 20, 3) := by decide +kernel
theorem dX6_become_38 : decode cX6_become 38 = .ok (.aload_n 0, 1) := by decide +kernel
theorem dX6_become_39 : decode cX6_become 39 = .ok (.aload_n 1, 1) := by decide +kernel
theorem dX6_become_40 : decode cX6_become 40 = .ok (.getfield 24, 3) := by decide +kernel
theorem dX6_become_43 : decode cX6_become 43 = .ok (.putfield 24, 3) := by decide +kernel
theorem dX6_become_46 : decode cX6_become 46 = .ok (.return_, 1) := by decide +kernel
theorem dX7_init_0 : decode cX7_init 0 = .ok (.aload_n 0, 1) := by decide +kernel
theorem dX7_init_1 : decode cX7_init 1 = .ok (.invokespecial 1, 3) := by decide +kernel
theorem dX7_init_4 : decode cX7_init 4 = .ok (.aload_n 0, 1) := by decide +kernel
theorem dX7_init_5 : decode cX7_init 5 = .ok (.getstatic 7, 3) := by decide +kernel
theorem dX7_init_8 : decode cX7_init 8 = .ok (.invokevirtual 13, 3) := by decide +kernel
theorem dX7_init_11 : decode cX7_init 11 = .ok (.checkcast 14, 3) := by decide +kernel
theorem dX7_init_14 : decode cX7_init 14 = .ok (.putfield 18, 3) := by decide +kernel
theorem dX7_init_17 : decode cX7_init 17 = .ok (.aload_n 0, 1) := by decide +kernel
theorem dX7_init_18 : decode cX7_init 18 = .ok (.new 21, 3) := by decide +kernel
theorem dX7_init_21 : decode cX7_init 21 = .ok (.dup, 1) := by decide +kernel
theorem dX7_init_22 : decode cX7_init 22 = .ok (.invokespecial 23, 3) := by decide +kernel
theorem dX7_init_25 : decode cX7_init 25 = .ok (.putfield 24, 3) := by decide +kernel
theorem dX7_init_28 : decode cX7_init 28 = .ok (.aload_n 0, 1) := by decide +kernel
theorem dX7_init_29 : decode cX7_init 29 = .ok (.new 28, 3) := by decide +kernel
theorem dX7_init_32 : decode cX7_init 32 = .ok (.dup, 1) := by decide +kernel
theorem dX7_init_33 : decode cX7_init 33 = .ok (.invokespecial 30, 3) := by decide +kernel
theorem dX7_init_36 : decode cX7_init 36 = .ok (.putfield 31, 3) := by decide +kernel
theorem dX7_init_39 : decode cX7_init 39 = .ok (.aload_n 0, 1) := by decide +kernel
theorem dX7_init_40 : decode cX7_init 40 = .ok (.bipush 8, 2) := by decide +kernel
theorem dX7_init_42 : decode cX7_init 42 = .ok (.newarray .int, 2) := by decide +kernel
theorem dX7_init_44 : decode cX7_init 44 = .ok (.putfield 35, 3) := by decide +kernel
theorem dX7_init_47 : decode cX7_init 47 = .ok (.aload_n 0, 1) := by decide +kernel
theorem dX7_init_48 : decode cX7_init 48 = .ok (.bipush 8, 2) := by decide +kernel
theorem dX7_init_50 : decode cX7_init 50 = .ok (.newarray .int, 2) := by decide +kernel
theorem dX7_init_52 : decode cX7_init 52 = .ok (.putfield 38, 3) := by decide +kernel
theorem dX7_init_55 : decode cX7_init 55 = .ok (.return_, 1) := by decide +kernel
theorem dX7_takes_0 : decode cX7_takes 0 = .ok (.iload_n 0, 1) := by decide +kernel
theorem dX7_takes_1 : decode cX7_takes 1 = .ok (.iconst 0, 1) := by decide +kernel
theorem dX7_takes_2 : decode cX7_takes 2 = .ok (.iconst 4, 1) := by decide +kernel
theorem dX7_takes_3 : decode cX7_takes 3 = .ok (.invokestatic 41, 3) := by decide +kernel
theorem dX7_takes_6 : decode cX7_takes 6 = .ok (.ifCond .eq 24, 3) := by decide +kernel
theorem dX7_takes_9 : decode cX7_takes 9 = .ok (.iload_n 1, 1) := by decide +kernel
theorem dX7_takes_10 : decode cX7_takes 10 = .ok (.getstatic 47, 3) := by decide +kernel
theorem dX7_takes_13 : decode cX7_takes 13 = .ok (.iload_n 0, 1) := by decide +kernel
theorem dX7_takes_14 : decode cX7_takes 14 = .ok (.iaload, 1) := by decide +kernel
theorem dX7_takes_15 : decode cX7_takes 15 = .ok (.getstatic 50, 3) := by decide +kernel
theorem dX7_takes_18 : decode cX7_takes 18 = .ok (.iload_n 0, 1) := by decide +kernel
theorem dX7_takes_19 : decode cX7_takes 19 = .ok (.iaload, 1) := by decide +kernel
theorem dX7_takes_20 : decode cX7_takes 20 = .ok (.invokestatic 41, 3) := by decide +kernel
theorem dX7_takes_23 : decode cX7_takes 23 = .ok (.ifCond .eq 7, 3) := by decide +kernel
theorem dX7_takes_26 : decode cX7_takes 26 = .ok (.iconst 1, 1) := by decide +kernel
theorem dX7_takes_27 : decode cX7_takes 27 = .ok (.goto 4, 3) := by decide +kernel
theorem dX7_takes_30 : decode cX7_takes 30 = .ok (.iconst 0, 1) := by decide +kernel
theorem dX7_takes_31 : decode cX7_takes 31 = .ok (.ireturn, 1) := by decide +kernel
theorem dX7_pace_0 : decode cX7_pace 0 = .ok (.aload_n 0, 1) := by decide +kernel
theorem dX7_pace_1 : decode cX7_pace 1 = .ok (.getfield 18, 3) := by decide +kernel
theorem dX7_pace_4 : decode cX7_pace 4 = .ok (.iconst 0, 1) := by decide +kernel
theorem dX7_pace_5 : decode cX7_pace 5 = .ok (.iaload, 1) := by decide +kernel
theorem dX7_pace_6 : decode cX7_pace 6 = .ok (.bipush 100, 2) := by decide +kernel
theorem dX7_pace_8 : decode cX7_pace 8 = .ok (.isub, 1) := by decide +kernel
theorem dX7_pace_9 : decode cX7_pace 9 = .ok (.ireturn, 1) := by decide +kernel
theorem dX7_slows_0 : decode cX7_slows 0 = .ok (.aload_n 0, 1) := by decide +kernel
theorem dX7_slows_1 : decode cX7_slows 1 = .ok (.getfield 18, 3) := by decide +kernel
theorem dX7_slows_4 : decode cX7_slows 4 = .ok (.iconst 1, 1) := by decide +kernel
theorem dX7_slows_5 : decode cX7_slows 5 = .ok (.iaload, 1) := by decide +kernel
theorem dX7_slows_6 : decode cX7_slows 6 = .ok (.ireturn, 1) := by decide +kernel
theorem dX7_reach_0 : decode cX7_reach 0 = .ok (.aload_n 0, 1) := by decide +kernel
theorem dX7_reach_1 : decode cX7_reach 1 = .ok (.getfield 18, 3) := by decide +kernel
theorem dX7_reach_4 : decode cX7_reach 4 = .ok (.iconst 2, 1) := by decide +kernel
theorem dX7_reach_5 : decode cX7_reach 5 = .ok (.iaload, 1) := by decide +kernel
theorem dX7_reach_6 : decode cX7_reach 6 = .ok (.ireturn, 1) := by decide +kernel
theorem dX7_rub_0 : decode cX7_rub 0 = .ok (.aload_n 0, 1) := by decide +kernel
theorem dX7_rub_1 : decode cX7_rub 1 = .ok (.getfield 18, 3) := by decide +kernel
theorem dX7_rub_4 : decode cX7_rub 4 = .ok (.iconst 3, 1) := by decide +kernel
theorem dX7_rub_5 : decode cX7_rub 5 = .ok (.iaload, 1) := by decide +kernel
theorem dX7_rub_6 : decode cX7_rub 6 = .ok (.ireturn, 1) := by decide +kernel
theorem dX7_rim_0 : decode cX7_rim 0 = .ok (.aload_n 0, 1) := by decide +kernel
theorem dX7_rim_1 : decode cX7_rim 1 = .ok (.getfield 18, 3) := by decide +kernel
theorem dX7_rim_4 : decode cX7_rim 4 = .ok (.iconst 4, 1) := by decide +kernel
theorem dX7_rim_5 : decode cX7_rim 5 = .ok (.iaload, 1) := by decide +kernel
theorem dX7_rim_6 : decode cX7_rim 6 = .ok (.ireturn, 1) := by decide +kernel
theorem dX7_hasOne_0 : decode cX7_hasOne 0 = .ok (.iload_n 1, 1) := by decide +kernel
theorem dX7_hasOne_1 : decode cX7_hasOne 1 = .ok (.iconst 0, 1) := by decide +kernel
theorem dX7_hasOne_2 : decode cX7_hasOne 2 = .ok (.aload_n 0, 1) := by decide +kernel
theorem dX7_hasOne_3 : decode cX7_hasOne 3 = .ok (.getfield 53, 3) := by decide +kernel
theorem dX7_hasOne_6 : decode cX7_hasOne 6 = .ok (.iconst 1, 1) := by decide +kernel
theorem dX7_hasOne_7 : decode cX7_hasOne 7 = .ok (.isub, 1) := by decide +kernel
theorem dX7_hasOne_8 : decode cX7_hasOne 8 = .ok (.invokestatic 41, 3) := by decide +kernel
theorem dX7_hasOne_11 : decode cX7_hasOne 11 = .ok (.ireturn, 1) := by decide +kernel
theorem dX7_seat_0 : decode cX7_seat 0 = .ok (.aload_n 0, 1) := by decide +kernel
theorem dX7_seat_1 : decode cX7_seat 1 = .ok (.getfield 53, 3) := by decide +kernel
theorem dX7_seat_4 : decode cX7_seat 4 = .ok (.istore_n 3, 1) := by decide +kernel
theorem dX7_seat_5 : decode cX7_seat 5 = .ok (.iload_n 3, 1) := by decide +kernel
theorem dX7_seat_6 : decode cX7_seat 6 = .ok (.bipush 8, 2) := by decide +kernel
theorem dX7_seat_8 : decode cX7_seat 8 = .ok (.if_icmp .ge 41, 3) := by decide +kernel
theorem dX7_seat_11 : decode cX7_seat 11 = .ok (.aload_n 0, 1) := by decide +kernel
theorem dX7_seat_12 : decode cX7_seat 12 = .ok (.getfield 35, 3) := by decide +kernel
theorem dX7_seat_15 : decode cX7_seat 15 = .ok (.iload_n 3, 1) := by decide +kernel
theorem dX7_seat_16 : decode cX7_seat 16 = .ok (.iload_n 1, 1) := by decide +kernel
theorem dX7_seat_17 : decode cX7_seat 17 = .ok (.i2l, 1) := by decide +kernel
theorem dX7_seat_18 : decode cX7_seat 18 = .ok (.lconst 0, 1) := by decide +kernel
theorem dX7_seat_19 : decode cX7_seat 19 = .ok (.iload_n 2, 1) := by decide +kernel
theorem dX7_seat_20 : decode cX7_seat 20 = .ok (.invokestatic 57, 3) := by decide +kernel
theorem dX7_seat_23 : decode cX7_seat 23 = .ok (.l2i, 1) := by decide +kernel
theorem dX7_seat_24 : decode cX7_seat 24 = .ok (.iastore, 1) := by decide +kernel
theorem dX7_seat_25 : decode cX7_seat 25 = .ok (.aload_n 0, 1) := by decide +kernel
theorem dX7_seat_26 : decode cX7_seat 26 = .ok (.getfield 38, 3) := by decide +kernel
theorem dX7_seat_29 : decode cX7_seat 29 = .ok (.iload_n 3, 1) := by decide +kernel
theorem dX7_seat_30 : decode cX7_seat 30 = .ok (.iload_n 1, 1) := by decide +kernel
theorem dX7_seat_31 : decode cX7_seat 31 = .ok (.i2l, 1) := by decide +kernel
theorem dX7_seat_32 : decode cX7_seat 32 = .ok (.lconst 0, 1) := by decide +kernel
theorem dX7_seat_33 : decode cX7_seat 33 = .ok (.iload_n 2, 1) := by decide +kernel
theorem dX7_seat_34 : decode cX7_seat 34 = .ok (.invokestatic 63, 3) := by decide +kernel
theorem dX7_seat_37 : decode cX7_seat 37 = .ok (.l2i, 1) := by decide +kernel
theorem dX7_seat_38 : decode cX7_seat 38 = .ok (.iastore, 1) := by decide +kernel
theorem dX7_seat_39 : decode cX7_seat 39 = .ok (.aload_n 0, 1) := by decide +kernel
theorem dX7_seat_40 : decode cX7_seat 40 = .ok (.dup, 1) := by decide +kernel
theorem dX7_seat_41 : decode cX7_seat 41 = .ok (.getfield 53, 3) := by decide +kernel
theorem dX7_seat_44 : decode cX7_seat 44 = .ok (.iconst 1, 1) := by decide +kernel
theorem dX7_seat_45 : decode cX7_seat 45 = .ok (.iadd, 1) := by decide +kernel
theorem dX7_seat_46 : decode cX7_seat 46 = .ok (.putfield 53, 3) := by decide +kernel
theorem dX7_seat_49 : decode cX7_seat 49 = .ok (.iload_n 3, 1) := by decide +kernel
theorem dX7_seat_50 : decode cX7_seat 50 = .ok (.ireturn, 1) := by decide +kernel
theorem dX7_become_0 : decode cX7_become 0 = .ok (.aload_n 1, 1) := by decide +kernel
theorem dX7_become_1 : decode cX7_become 1 = .ok (.getfield 18, 3) := by decide +kernel
theorem dX7_become_4 : decode cX7_become 4 = .ok (.iconst 0, 1) := by decide +kernel
theorem dX7_become_5 : decode cX7_become 5 = .ok (.aload_n 0, 1) := by decide +kernel
theorem dX7_become_6 : decode cX7_become 6 = .ok (.getfield 18, 3) := by decide +kernel
theorem dX7_become_9 : decode cX7_become 9 = .ok (.iconst 0, 1) := by decide +kernel
theorem dX7_become_10 : decode cX7_become 10 = .ok (.iconst 5, 1) := by decide +kernel
theorem dX7_become_11 : decode cX7_become 11 = .ok (.invokestatic 66, 3) := by decide +kernel
theorem dX7_become_14 : decode cX7_become 14 = .ok (.aload_n 1, 1) := by decide +kernel
theorem dX7_become_15 : decode cX7_become 15 = .ok (.getfield 35, 3) := by decide +kernel
theorem dX7_become_18 : decode cX7_become 18 = .ok (.iconst 0, 1) := by decide +kernel
theorem dX7_become_19 : decode cX7_become 19 = .ok (.aload_n 0, 1) := by decide +kernel
theorem dX7_become_20 : decode cX7_become 20 = .ok (.getfield 35, 3) := by decide +kernel
theorem dX7_become_23 : decode cX7_become 23 = .ok (.iconst 0, 1) := by decide +kernel
theorem dX7_become_24 : decode cX7_become 24 = .ok (.bipush 8, 2) := by decide +kernel
theorem dX7_become_26 : decode cX7_become 26 = .ok (.invokestatic 66, 3) := by decide +kernel
theorem dX7_become_29 : decode cX7_become 29 = .ok (.aload_n 1, 1) := by decide +kernel
theorem dX7_become_30 : decode cX7_become 30 = .ok (.getfield 38, 3) := by decide +kernel
theorem dX7_become_33 : decode cX7_become 33 = .ok (.iconst 0, 1) := by decide +kernel
theorem dX7_become_34 : decode cX7_become 34 = .ok (.aload_n 0, 1) := by decide +kernel
theorem dX7_become_35 : decode cX7_become 35 = .ok (.getfield 38, 3) := by decide +kernel
theorem dX7_become_38 : decode cX7_become 38 = .ok (.iconst 0, 1) := by decide +kernel
theorem dX7_become_39 : decode cX7_become 39 = .ok (.bipush 8, 2) := by decide +kernel
theorem dX7_become_41 : decode cX7_become 41 = .ok (.invokestatic 66, 3) := by decide +kernel
theorem dX7_become_44 : decode cX7_become 44 = .ok (.aload_n 0, 1) := by decide +kernel
theorem dX7_become_45 : decode cX7_become 45 = .ok (.aload_n 1, 1) := by decide +kernel
theorem dX7_become_46 : decode cX7_become 46 = .ok (.getfield 53, 3) := by decide +kernel
theorem dX7_become_49 : decode cX7_become 49 = .ok (.putfield 53, 3) := by decide +kernel
theorem dX7_become_52 : decode cX7_become 52 = .ok (.aload_n 0, 1) := by decide +kernel
theorem dX7_become_53 : decode cX7_become 53 = .ok (.getfield 24, 3) := by decide +kernel
theorem dX7_become_56 : decode cX7_become 56 = .ok (.aload_n 1, 1) := by decide +kernel
theorem dX7_become_57 : decode cX7_become 57 = .ok (.getfield 24, 3) := by decide +kernel
theorem dX7_become_60 : decode cX7_become 60 = .ok (.invokevirtual 72, 3) := by decide +kernel
theorem dX7_become_63 : decode cX7_become 63 = .ok (.aload_n 0, 1) := by decide +kernel
theorem dX7_become_64 : decode cX7_become 64 = .ok (.getfield 31, 3) := by decide +kernel
theorem dX7_become_67 : decode cX7_become 67 = .ok (.aload_n 1, 1) := by decide +kernel
theorem dX7_become_68 : decode cX7_become 68 = .ok (.getfield 31, 3) := by decide +kernel
theorem dX7_become_71 : decode cX7_become 71 = .ok (.invokevirtual 76, 3) := by decide +kernel
theorem dX7_become_74 : decode cX7_become 74 = .ok (.return_, 1) := by decide +kernel
theorem dX8_init_0 : decode cX8_init 0 = .ok (.aload_n 0, 1) := by decide +kernel
theorem dX8_init_1 : decode cX8_init 1 = .ok (.invokespecial 3, 3) := by decide +kernel
theorem dX8_init_4 : decode cX8_init 4 = .ok (.aload_n 0, 1) := by decide +kernel
theorem dX8_init_5 : decode cX8_init 5 = .ok (.bipush 61, 2) := by decide +kernel
theorem dX8_init_7 : decode cX8_init 7 = .ok (.newarray .long, 2) := by decide +kernel
theorem dX8_init_9 : decode cX8_init 9 = .ok (.putfield 9, 3) := by decide +kernel
theorem dX8_init_12 : decode cX8_init 12 = .ok (.aload_n 0, 1) := by decide +kernel
theorem dX8_init_13 : decode cX8_init 13 = .ok (.bipush 61, 2) := by decide +kernel
theorem dX8_init_15 : decode cX8_init 15 = .ok (.newarray .long, 2) := by decide +kernel
theorem dX8_init_17 : decode cX8_init 17 = .ok (.putfield 15, 3) := by decide +kernel
theorem dX8_init_20 : decode cX8_init 20 = .ok (.return_, 1) := by decide +kernel
theorem dX8_followSeat_0 : decode cX8_followSeat 0 = .ok (.iconst 0, 1) := by decide +kernel
theorem dX8_followSeat_1 : decode cX8_followSeat 1 = .ok (.istore 4, 2) := by decide +kernel
theorem dX8_followSeat_3 : decode cX8_followSeat 3 = .ok (.iload 4, 2) := by decide +kernel
theorem dX8_followSeat_5 : decode cX8_followSeat 5 = .ok (.bipush 60, 2) := by decide +kernel
theorem dX8_followSeat_7 : decode cX8_followSeat 7 = .ok (.if_icmp .gt 49, 3) := by decide +kernel
theorem dX8_followSeat_10 : decode cX8_followSeat 10 = .ok (.aload_n 3, 1) := by decide +kernel
theorem dX8_followSeat_11 : decode cX8_followSeat 11 = .ok (.iload 4, 2) := by decide +kernel
theorem dX8_followSeat_13 : decode cX8_followSeat 13 = .ok (.invokevirtual 18, 3) := by decide +kernel
theorem dX8_followSeat_16 : decode cX8_followSeat 16 = .ok (.istore 5, 2) := by decide +kernel
theorem dX8_followSeat_18 : decode cX8_followSeat 18 = .ok (.aload_n 0, 1) := by decide +kernel
theorem dX8_followSeat_19 : decode cX8_followSeat 19 = .ok (.getfield 9, 3) := by decide +kernel
theorem dX8_followSeat_22 : decode cX8_followSeat 22 = .ok (.iload 4, 2) := by decide +kernel
theorem dX8_followSeat_24 : decode cX8_followSeat 24 = .ok (.iload_n 1, 1) := by decide +kernel
theorem dX8_followSeat_25 : decode cX8_followSeat 25 = .ok (.i2l, 1) := by decide +kernel
theorem dX8_followSeat_26 : decode cX8_followSeat 26 = .ok (.iload_n 2, 1) := by decide +kernel
theorem dX8_followSeat_27 : decode cX8_followSeat 27 = .ok (.i2l, 1) := by decide +kernel
theorem dX8_followSeat_28 : decode cX8_followSeat 28 = .ok (.iload 5, 2) := by decide +kernel
theorem dX8_followSeat_30 : decode cX8_followSeat 30 = .ok (.invokestatic 24, 3) := by decide +kernel
theorem dX8_followSeat_33 : decode cX8_followSeat 33 = .ok (.lastore, 1) := by decide +kernel
theorem dX8_followSeat_34 : decode cX8_followSeat 34 = .ok (.aload_n 0, 1) := by decide +kernel
theorem dX8_followSeat_35 : decode cX8_followSeat 35 = .ok (.getfield 15, 3) := by decide +kernel
theorem dX8_followSeat_38 : decode cX8_followSeat 38 = .ok (.iload 4, 2) := by decide +kernel
theorem dX8_followSeat_40 : decode cX8_followSeat 40 = .ok (.iload_n 1, 1) := by decide +kernel
theorem dX8_followSeat_41 : decode cX8_followSeat 41 = .ok (.i2l, 1) := by decide +kernel
theorem dX8_followSeat_42 : decode cX8_followSeat 42 = .ok (.iload_n 2, 1) := by decide +kernel
theorem dX8_followSeat_43 : decode cX8_followSeat 43 = .ok (.i2l, 1) := by decide +kernel
theorem dX8_followSeat_44 : decode cX8_followSeat 44 = .ok (.iload 5, 2) := by decide +kernel
theorem dX8_followSeat_46 : decode cX8_followSeat 46 = .ok (.invokestatic 30, 3) := by decide +kernel
theorem dX8_followSeat_49 : decode cX8_followSeat 49 = .ok (.lastore, 1) := by decide +kernel
theorem dX8_followSeat_50 : decode cX8_followSeat 50 = .ok (.iinc 4 1, 3) := by decide +kernel
theorem dX8_followSeat_53 : decode cX8_followSeat 53 = .ok (.goto (-50), 3) := by decide +kernel
theorem dX8_followSeat_56 : decode cX8_followSeat 56 = .ok (.return_, 1) := by decide +kernel
theorem dX8_followSeen_0 : decode cX8_followSeen 0 = .ok (.iconst 0, 1) := by decide +kernel
theorem dX8_followSeen_1 : decode cX8_followSeen 1 = .ok (.istore_n 3, 1) := by decide +kernel
theorem dX8_followSeen_2 : decode cX8_followSeen 2 = .ok (.iload_n 3, 1) := by decide +kernel
theorem dX8_followSeen_3 : decode cX8_followSeen 3 = .ok (.bipush 20, 2) := by decide +kernel
theorem dX8_followSeen_5 : decode cX8_followSeen 5 = .ok (.if_icmp .gt 58, 3) := by decide +kernel
theorem dX8_followSeen_8 : decode cX8_followSeen 8 = .ok (.aload_n 2, 1) := by decide +kernel
theorem dX8_followSeen_9 : decode cX8_followSeen 9 = .ok (.iload_n 3, 1) := by decide +kernel
theorem dX8_followSeen_10 : decode cX8_followSeen 10 = .ok (.invokevirtual 33, 3) := by decide +kernel
theorem dX8_followSeen_13 : decode cX8_followSeen 13 = .ok (.istore 4, 2) := by decide +kernel
theorem dX8_followSeen_15 : decode cX8_followSeen 15 = .ok (.aload_n 0, 1) := by decide +kernel
theorem dX8_followSeen_16 : decode cX8_followSeen 16 = .ok (.getfield 9, 3) := by decide +kernel
theorem dX8_followSeen_19 : decode cX8_followSeen 19 = .ok (.iload_n 3, 1) := by decide +kernel
theorem dX8_followSeen_20 : decode cX8_followSeen 20 = .ok (.aload_n 1, 1) := by decide +kernel
theorem dX8_followSeen_21 : decode cX8_followSeen 21 = .ok (.iload_n 3, 1) := by decide +kernel
theorem dX8_followSeen_22 : decode cX8_followSeen 22 = .ok (.invokevirtual 36, 3) := by decide +kernel
theorem dX8_followSeen_25 : decode cX8_followSeen 25 = .ok (.aload_n 1, 1) := by decide +kernel
theorem dX8_followSeen_26 : decode cX8_followSeen 26 = .ok (.iload_n 3, 1) := by decide +kernel
theorem dX8_followSeen_27 : decode cX8_followSeen 27 = .ok (.invokevirtual 42, 3) := by decide +kernel
theorem dX8_followSeen_30 : decode cX8_followSeen 30 = .ok (.iload 4, 2) := by decide +kernel
theorem dX8_followSeen_32 : decode cX8_followSeen 32 = .ok (.invokestatic 24, 3) := by decide +kernel
theorem dX8_followSeen_35 : decode cX8_followSeen 35 = .ok (.lastore, 1) := by decide +kernel
theorem dX8_followSeen_36 : decode cX8_followSeen 36 = .ok (.aload_n 0, 1) := by decide +kernel
theorem dX8_followSeen_37 : decode cX8_followSeen 37 = .ok (.getfield 15, 3) := by decide +kernel
theorem dX8_followSeen_40 : decode cX8_followSeen 40 = .ok (.iload_n 3, 1) := by decide +kernel
theorem dX8_followSeen_41 : decode cX8_followSeen 41 = .ok (.aload_n 1, 1) := by decide +kernel
theorem dX8_followSeen_42 : decode cX8_followSeen 42 = .ok (.iload_n 3, 1) := by decide +kernel
theorem dX8_followSeen_43 : decode cX8_followSeen 43 = .ok (.invokevirtual 36, 3) := by decide +kernel
theorem dX8_followSeen_46 : decode cX8_followSeen 46 = .ok (.aload_n 1, 1) := by decide +kernel
theorem dX8_followSeen_47 : decode cX8_followSeen 47 = .ok (.iload_n 3, 1) := by decide +kernel
theorem dX8_followSeen_48 : decode cX8_followSeen 48 = .ok (.invokevirtual 42, 3) := by decide +kernel
theorem dX8_followSeen_51 : decode cX8_followSeen 51 = .ok (.iload 4, 2) := by decide +kernel
theorem dX8_followSeen_53 : decode cX8_followSeen 53 = .ok (.invokestatic 30, 3) := by decide +kernel
theorem dX8_followSeen_56 : decode cX8_followSeen 56 = .ok (.lastore, 1) := by decide +kernel
theorem dX8_followSeen_57 : decode cX8_followSeen 57 = .ok (.iinc 3 1, 3) := by decide +kernel
theorem dX8_followSeen_60 : decode cX8_followSeen 60 = .ok (.goto (-58), 3) := by decide +kernel
theorem dX8_followSeen_63 : decode cX8_followSeen 63 = .ok (.return_, 1) := by decide +kernel
theorem dX8_crossesItself_0 : decode cX8_crossesItself 0 = .ok (.iconst 0, 1) := by decide +kernel
theorem dX8_crossesItself_1 : decode cX8_crossesItself 1 = .ok (.istore_n 1, 1) := by decide +kernel
theorem dX8_crossesItself_2 : decode cX8_crossesItself 2 = .ok (.iload_n 1, 1) := by decide +kernel
theorem dX8_crossesItself_3 : decode cX8_crossesItself 3 = .ok (.bipush 20, 2) := by decide +kernel
theorem dX8_crossesItself_5 : decode cX8_crossesItself 5 = .ok (.if_icmp .ge 36, 3) := by decide +kernel
theorem dX8_crossesItself_8 : decode cX8_crossesItself 8 = .ok (.iload_n 1, 1) := by decide +kernel
theorem dX8_crossesItself_9 : decode cX8_crossesItself 9 = .ok (.iconst 2, 1) := by decide +kernel
theorem dX8_crossesItself_10 : decode cX8_crossesItself 10 = .ok (.iadd, 1) := by decide +kernel
theorem dX8_crossesItself_11 : decode cX8_crossesItself 11 = .ok (.istore_n 2, 1) := by decide +kernel
theorem dX8_crossesItself_12 : decode cX8_crossesItself 12 = .ok (.iload_n 2, 1) := by decide +kernel
theorem dX8_crossesItself_13 : decode cX8_crossesItself 13 = .ok (.bipush 20, 2) := by decide +kernel
theorem dX8_crossesItself_15 : decode cX8_crossesItself 15 = .ok (.if_icmp .ge 20, 3) := by decide +kernel
theorem dX8_crossesItself_18 : decode cX8_crossesItself 18 = .ok (.aload_n 0, 1) := by decide +kernel
theorem dX8_crossesItself_19 : decode cX8_crossesItself 19 = .ok (.iload_n 1, 1) := by decide +kernel
theorem dX8_crossesItself_20 : decode cX8_crossesItself 20 = .ok (.iload_n 2, 1) := by decide +kernel
theorem dX8_crossesItself_21 : decode cX8_crossesItself 21 = .ok (.invokevirtual 45, 3) := by decide +kernel
theorem dX8_crossesItself_24 : decode cX8_crossesItself 24 = .ok (.ifCond .eq 5, 3) := by decide +kernel
theorem dX8_crossesItself_27 : decode cX8_crossesItself 27 = .ok (.iconst 1, 1) := by decide +kernel
theorem dX8_crossesItself_28 : decode cX8_crossesItself 28 = .ok (.ireturn, 1) := by decide +kernel
theorem dX8_crossesItself_29 : decode cX8_crossesItself 29 = .ok (.iinc 2 1, 3) := by decide +kernel
theorem dX8_crossesItself_32 : decode cX8_crossesItself 32 = .ok (.goto (-20), 3) := by decide +kernel
theorem dX8_crossesItself_35 : decode cX8_crossesItself 35 = .ok (.iinc 1 1, 3) := by decide +kernel
theorem dX8_crossesItself_38 : decode cX8_crossesItself 38 = .ok (.goto (-36), 3) := by decide +kernel
theorem dX8_crossesItself_41 : decode cX8_crossesItself 41 = .ok (.iconst 0, 1) := by decide +kernel
theorem dX8_crossesItself_42 : decode cX8_crossesItself 42 = .ok (.ireturn, 1) := by decide +kernel
theorem dX8_linesMeet_0 : decode cX8_linesMeet 0 = .ok (.aload_n 0, 1) := by decide +kernel
theorem dX8_linesMeet_1 : decode cX8_linesMeet 1 = .ok (.getfield 9, 3) := by decide +kernel
theorem dX8_linesMeet_4 : decode cX8_linesMeet 4 = .ok (.iload_n 1, 1) := by decide +kernel
theorem dX8_linesMeet_5 : decode cX8_linesMeet 5 = .ok (.iload_n 2, 1) := by decide +kernel
theorem dX8_linesMeet_6 : decode cX8_linesMeet 6 = .ok (.invokestatic 49, 3) := by decide +kernel
theorem dX8_linesMeet_9 : decode cX8_linesMeet 9 = .ok (.ifCond .eq 37, 3) := by decide +kernel
theorem dX8_linesMeet_12 : decode cX8_linesMeet 12 = .ok (.aload_n 0, 1) := by decide +kernel
theorem dX8_linesMeet_13 : decode cX8_linesMeet 13 = .ok (.getfield 15, 3) := by decide +kernel
theorem dX8_linesMeet_16 : decode cX8_linesMeet 16 = .ok (.iload_n 1, 1) := by decide +kernel
theorem dX8_linesMeet_17 : decode cX8_linesMeet 17 = .ok (.iload_n 2, 1) := by decide +kernel
theorem dX8_linesMeet_18 : decode cX8_linesMeet 18 = .ok (.invokestatic 49, 3) := by decide +kernel
theorem dX8_linesMeet_21 : decode cX8_linesMeet 21 = .ok (.ifCond .eq 25, 3) := by decide +kernel
theorem dX8_linesMeet_24 : decode cX8_linesMeet 24 = .ok (.aload_n 0, 1) := by decide +kernel
theorem dX8_linesMeet_25 : decode cX8_linesMeet 25 = .ok (.iload_n 1, 1) := by decide +kernel
theorem dX8_linesMeet_26 : decode cX8_linesMeet 26 = .ok (.iload_n 2, 1) := by decide +kernel
theorem dX8_linesMeet_27 : decode cX8_linesMeet 27 = .ok (.invokevirtual 53, 3) := by decide +kernel
theorem dX8_linesMeet_30 : decode cX8_linesMeet 30 = .ok (.ifCond .eq 16, 3) := by decide +kernel
theorem dX8_linesMeet_33 : decode cX8_linesMeet 33 = .ok (.aload_n 0, 1) := by decide +kernel
theorem dX8_linesMeet_34 : decode cX8_linesMeet 34 = .ok (.iload_n 2, 1) := by decide +kernel
theorem dX8_linesMeet_35 : decode cX8_linesMeet 35 = .ok (.iload_n 1, 1) := by decide +kernel
theorem dX8_linesMeet_36 : decode cX8_linesMeet 36 = .ok (.invokevirtual 53, 3) := by decide +kernel
theorem dX8_linesMeet_39 : decode cX8_linesMeet 39 = .ok (.ifCond .eq 7, 3) := by decide +kernel
theorem dX8_linesMeet_42 : decode cX8_linesMeet 42 = .ok (.iconst 1, 1) := by decide +kernel
theorem dX8_linesMeet_43 : decode cX8_linesMeet 43 = .ok (.goto 4, 3) := by decide +kernel
theorem dX8_linesMeet_46 : decode cX8_linesMeet 46 = .ok (.iconst 0, 1) := by decide +kernel
theorem dX8_linesMeet_47 : decode cX8_linesMeet 47 = .ok (.ireturn, 1) := by decide +kernel
theorem dX8_spansMeet_0 : decode cX8_spansMeet 0 = .ok (.aload_n 0, 1) := by decide +kernel
theorem dX8_spansMeet_1 : decode cX8_spansMeet 1 = .ok (.iload_n 1, 1) := by decide +kernel
theorem dX8_spansMeet_2 : decode cX8_spansMeet 2 = .ok (.laload, 1) := by decide +kernel
theorem dX8_spansMeet_3 : decode cX8_spansMeet 3 = .ok (.aload_n 0, 1) := by decide +kernel
theorem dX8_spansMeet_4 : decode cX8_spansMeet 4 = .ok (.iload_n 1, 1) := by decide +kernel
theorem dX8_spansMeet_5 : decode cX8_spansMeet 5 = .ok (.iconst 1, 1) := by decide +kernel
theorem dX8_spansMeet_6 : decode cX8_spansMeet 6 = .ok (.iadd, 1) := by decide +kernel
theorem dX8_spansMeet_7 : decode cX8_spansMeet 7 = .ok (.laload, 1) := by decide +kernel
theorem dX8_spansMeet_8 : decode cX8_spansMeet 8 = .ok (.invokestatic 56, 3) := by decide +kernel
theorem dX8_spansMeet_11 : decode cX8_spansMeet 11 = .ok (.aload_n 0, 1) := by decide +kernel
theorem dX8_spansMeet_12 : decode cX8_spansMeet 12 = .ok (.iload_n 2, 1) := by decide +kernel
theorem dX8_spansMeet_13 : decode cX8_spansMeet 13 = .ok (.laload, 1) := by decide +kernel
theorem dX8_spansMeet_14 : decode cX8_spansMeet 14 = .ok (.aload_n 0, 1) := by decide +kernel
theorem dX8_spansMeet_15 : decode cX8_spansMeet 15 = .ok (.iload_n 2, 1) := by decide +kernel
theorem dX8_spansMeet_16 : decode cX8_spansMeet 16 = .ok (.iconst 1, 1) := by decide +kernel
theorem dX8_spansMeet_17 : decode cX8_spansMeet 17 = .ok (.iadd, 1) := by decide +kernel
theorem dX8_spansMeet_18 : decode cX8_spansMeet 18 = .ok (.laload, 1) := by decide +kernel
theorem dX8_spansMeet_19 : decode cX8_spansMeet 19 = .ok (.invokestatic 62, 3) := by decide +kernel
theorem dX8_spansMeet_22 : decode cX8_spansMeet 22 = .ok (.lcmp, 1) := by decide +kernel
theorem dX8_spansMeet_23 : decode cX8_spansMeet 23 = .ok (.ifCond .gt 33, 3) := by decide +kernel
theorem dX8_spansMeet_26 : decode cX8_spansMeet 26 = .ok (.aload_n 0, 1) := by decide +kernel
theorem dX8_spansMeet_27 : decode cX8_spansMeet 27 = .ok (.iload_n 2, 1) := by decide +kernel
theorem dX8_spansMeet_28 : decode cX8_spansMeet 28 = .ok (.laload, 1) := by decide +kernel
theorem dX8_spansMeet_29 : decode cX8_spansMeet 29 = .ok (.aload_n 0, 1) := by decide +kernel
theorem dX8_spansMeet_30 : decode cX8_spansMeet 30 = .ok (.iload_n 2, 1) := by decide +kernel
theorem dX8_spansMeet_31 : decode cX8_spansMeet 31 = .ok (.iconst 1, 1) := by decide +kernel
theorem dX8_spansMeet_32 : decode cX8_spansMeet 32 = .ok (.iadd, 1) := by decide +kernel
theorem dX8_spansMeet_33 : decode cX8_spansMeet 33 = .ok (.laload, 1) := by decide +kernel
theorem dX8_spansMeet_34 : decode cX8_spansMeet 34 = .ok (.invokestatic 56, 3) := by decide +kernel
theorem dX8_spansMeet_37 : decode cX8_spansMeet 37 = .ok (.aload_n 0, 1) := by decide +kernel
theorem dX8_spansMeet_38 : decode cX8_spansMeet 38 = .ok (.iload_n 1, 1) := by decide +kernel
theorem dX8_spansMeet_39 : decode cX8_spansMeet 39 = .ok (.laload, 1) := by decide +kernel
theorem dX8_spansMeet_40 : decode cX8_spansMeet 40 = .ok (.aload_n 0, 1) := by decide +kernel
theorem dX8_spansMeet_41 : decode cX8_spansMeet 41 = .ok (.iload_n 1, 1) := by decide +kernel
theorem dX8_spansMeet_42 : decode cX8_spansMeet 42 = .ok (.iconst 1, 1) := by decide +kernel
theorem dX8_spansMeet_43 : decode cX8_spansMeet 43 = .ok (.iadd, 1) := by decide +kernel
theorem dX8_spansMeet_44 : decode cX8_spansMeet 44 = .ok (.laload, 1) := by decide +kernel
theorem dX8_spansMeet_45 : decode cX8_spansMeet 45 = .ok (.invokestatic 62, 3) := by decide +kernel
theorem dX8_spansMeet_48 : decode cX8_spansMeet 48 = .ok (.lcmp, 1) := by decide +kernel
theorem dX8_spansMeet_49 : decode cX8_spansMeet 49 = .ok (.ifCond .gt 7, 3) := by decide +kernel
theorem dX8_spansMeet_52 : decode cX8_spansMeet 52 = .ok (.iconst 1, 1) := by decide +kernel
theorem dX8_spansMeet_53 : decode cX8_spansMeet 53 = .ok (.goto 4, 3) := by decide +kernel
theorem dX8_spansMeet_56 : decode cX8_spansMeet 56 = .ok (.iconst 0, 1) := by decide +kernel
theorem dX8_spansMeet_57 : decode cX8_spansMeet 57 = .ok (.ireturn, 1) := by decide +kernel
theorem dX8_isAcross_0 : decode cX8_isAcross 0 = .ok (.aload_n 0, 1) := by decide +kernel
theorem dX8_isAcross_1 : decode cX8_isAcross 1 = .ok (.iload_n 1, 1) := by decide +kernel
theorem dX8_isAcross_2 : decode cX8_isAcross 2 = .ok (.iload_n 2, 1) := by decide +kernel
theorem dX8_isAcross_3 : decode cX8_isAcross 3 = .ok (.invokevirtual 65, 3) := by decide +kernel
theorem dX8_isAcross_6 : decode cX8_isAcross 6 = .ok (.invokestatic 69, 3) := by decide +kernel
theorem dX8_isAcross_9 : decode cX8_isAcross 9 = .ok (.aload_n 0, 1) := by decide +kernel
theorem dX8_isAcross_10 : decode cX8_isAcross 10 = .ok (.iload_n 1, 1) := by decide +kernel
theorem dX8_isAcross_11 : decode cX8_isAcross 11 = .ok (.iload_n 2, 1) := by decide +kernel
theorem dX8_isAcross_12 : decode cX8_isAcross 12 = .ok (.iconst 1, 1) := by decide +kernel
theorem dX8_isAcross_13 : decode cX8_isAcross 13 = .ok (.iadd, 1) := by decide +kernel
theorem dX8_isAcross_14 : decode cX8_isAcross 14 = .ok (.invokevirtual 65, 3) := by decide +kernel
theorem dX8_isAcross_17 : decode cX8_isAcross 17 = .ok (.invokestatic 69, 3) := by decide +kernel
theorem dX8_isAcross_20 : decode cX8_isAcross 20 = .ok (.imul, 1) := by decide +kernel
theorem dX8_isAcross_21 : decode cX8_isAcross 21 = .ok (.ifCond .gt 7, 3) := by decide +kernel
theorem dX8_isAcross_24 : decode cX8_isAcross 24 = .ok (.iconst 1, 1) := by decide +kernel
theorem dX8_isAcross_25 : decode cX8_isAcross 25 = .ok (.goto 4, 3) := by decide +kernel
theorem dX8_isAcross_28 : decode cX8_isAcross 28 = .ok (.iconst 0, 1) := by decide +kernel
theorem dX8_isAcross_29 : decode cX8_isAcross 29 = .ok (.ireturn, 1) := by decide +kernel
theorem dX8_side_0 : decode cX8_side 0 = .ok (.aload_n 0, 1) := by decide +kernel
theorem dX8_side_1 : decode cX8_side 1 = .ok (.getfield 9, 3) := by decide +kernel
theorem dX8_side_4 : decode cX8_side 4 = .ok (.iload_n 1, 1) := by decide +kernel
theorem dX8_side_5 : decode cX8_side 5 = .ok (.iconst 1, 1) := by decide +kernel
theorem dX8_side_6 : decode cX8_side 6 = .ok (.iadd, 1) := by decide +kernel
theorem dX8_side_7 : decode cX8_side 7 = .ok (.laload, 1) := by decide +kernel
theorem dX8_side_8 : decode cX8_side 8 = .ok (.aload_n 0, 1) := by decide +kernel
theorem dX8_side_9 : decode cX8_side 9 = .ok (.getfield 9, 3) := by decide +kernel
theorem dX8_side_12 : decode cX8_side 12 = .ok (.iload_n 1, 1) := by decide +kernel
theorem dX8_side_13 : decode cX8_side 13 = .ok (.laload, 1) := by decide +kernel
theorem dX8_side_14 : decode cX8_side 14 = .ok (.lsub, 1) := by decide +kernel
theorem dX8_side_15 : decode cX8_side 15 = .ok (.aload_n 0, 1) := by decide +kernel
theorem dX8_side_16 : decode cX8_side 16 = .ok (.getfield 15, 3) := by decide +kernel
theorem dX8_side_19 : decode cX8_side 19 = .ok (.iload_n 2, 1) := by decide +kernel
theorem dX8_side_20 : decode cX8_side 20 = .ok (.laload, 1) := by decide +kernel
theorem dX8_side_21 : decode cX8_side 21 = .ok (.aload_n 0, 1) := by decide +kernel
theorem dX8_side_22 : decode cX8_side 22 = .ok (.getfield 15, 3) := by decide +kernel
theorem dX8_side_25 : decode cX8_side 25 = .ok (.iload_n 1, 1) := by decide +kernel
theorem dX8_side_26 : decode cX8_side 26 = .ok (.laload, 1) := by decide +kernel
theorem dX8_side_27 : decode cX8_side 27 = .ok (.lsub, 1) := by decide +kernel
theorem dX8_side_28 : decode cX8_side 28 = .ok (.lmul, 1) := by decide +kernel
theorem dX8_side_29 : decode cX8_side 29 = .ok (.aload_n 0, 1) := by decide +kernel
theorem dX8_side_30 : decode cX8_side 30 = .ok (.getfield 15, 3) := by decide +kernel
theorem dX8_side_33 : decode cX8_side 33 = .ok (.iload_n 1, 1) := by decide +kernel
theorem dX8_side_34 : decode cX8_side 34 = .ok (.iconst 1, 1) := by decide +kernel
theorem dX8_side_35 : decode cX8_side 35 = .ok (.iadd, 1) := by decide +kernel
theorem dX8_side_36 : decode cX8_side 36 = .ok (.laload, 1) := by decide +kernel
theorem dX8_side_37 : decode cX8_side 37 = .ok (.aload_n 0, 1) := by decide +kernel
theorem dX8_side_38 : decode cX8_side 38 = .ok (.getfield 15, 3) := by decide +kernel
theorem dX8_side_41 : decode cX8_side 41 = .ok (.iload_n 1, 1) := by decide +kernel
theorem dX8_side_42 : decode cX8_side 42 = .ok (.laload, 1) := by decide +kernel
theorem dX8_side_43 : decode cX8_side 43 = .ok (.lsub, 1) := by decide +kernel
theorem dX8_side_44 : decode cX8_side 44 = .ok (.aload_n 0, 1) := by decide +kernel
theorem dX8_side_45 : decode cX8_side 45 = .ok (.getfield 9, 3) := by decide +kernel
theorem dX8_side_48 : decode cX8_side 48 = .ok (.iload_n 2, 1) := by decide +kernel
theorem dX8_side_49 : decode cX8_side 49 = .ok (.laload, 1) := by decide +kernel
theorem dX8_side_50 : decode cX8_side 50 = .ok (.aload_n 0, 1) := by decide +kernel
theorem dX8_side_51 : decode cX8_side 51 = .ok (.getfield 9, 3) := by decide +kernel
theorem dX8_side_54 : decode cX8_side 54 = .ok (.iload_n 1, 1) := by decide +kernel
theorem dX8_side_55 : decode cX8_side 55 = .ok (.laload, 1) := by decide +kernel
theorem dX8_side_56 : decode cX8_side 56 = .ok (.lsub, 1) := by decide +kernel
theorem dX8_side_57 : decode cX8_side 57 = .ok (.lmul, 1) := by decide +kernel
theorem dX8_side_58 : decode cX8_side 58 = .ok (.lsub, 1) := by decide +kernel
theorem dX8_side_59 : decode cX8_side 59 = .ok (.lreturn, 1) := by decide +kernel
theorem dX9_sine_0 : decode cX9_sine 0 = .ok (.getstatic 9, 3) := by decide +kernel
theorem dX9_sine_3 : decode cX9_sine 3 = .ok (.iload_n 0, 1) := by decide +kernel
theorem dX9_sine_4 : decode cX9_sine 4 = .ok (.bipush 24, 2) := by decide +kernel
theorem dX9_sine_6 : decode cX9_sine 6 = .ok (.invokestatic 15, 3) := by decide +kernel
theorem dX9_sine_9 : decode cX9_sine 9 = .ok (.iaload, 1) := by decide +kernel
theorem dX9_sine_10 : decode cX9_sine 10 = .ok (.i2l, 1) := by decide +kernel
theorem dX9_sine_11 : decode cX9_sine 11 = .ok (.lreturn, 1) := by decide +kernel
theorem dX9_cosine_0 : decode cX9_cosine 0 = .ok (.getstatic 9, 3) := by decide +kernel
theorem dX9_cosine_3 : decode cX9_cosine 3 = .ok (.iload_n 0, 1) := by decide +kernel
theorem dX9_cosine_4 : decode cX9_cosine 4 = .ok (.bipush 6, 2) := by decide +kernel
theorem dX9_cosine_6 : decode cX9_cosine 6 = .ok (.iadd, 1) := by decide +kernel
theorem dX9_cosine_7 : decode cX9_cosine 7 = .ok (.bipush 24, 2) := by decide +kernel
theorem dX9_cosine_9 : decode cX9_cosine 9 = .ok (.invokestatic 15, 3) := by decide +kernel
theorem dX9_cosine_12 : decode cX9_cosine 12 = .ok (.iaload, 1) := by decide +kernel
theorem dX9_cosine_13 : decode cX9_cosine 13 = .ok (.i2l, 1) := by decide +kernel
theorem dX9_cosine_14 : decode cX9_cosine 14 = .ok (.lreturn, 1) := by decide +kernel
theorem dX9_turnX_0 : decode cX9_turnX 0 = .ok (.lload_n 0, 1) := by decide +kernel
theorem dX9_turnX_1 : decode cX9_turnX 1 = .ok (.iload 4, 2) := by decide +kernel
theorem dX9_turnX_3 : decode cX9_turnX 3 = .ok (.invokestatic 21, 3) := by decide +kernel
theorem dX9_turnX_6 : decode cX9_turnX 6 = .ok (.lmul, 1) := by decide +kernel
theorem dX9_turnX_7 : decode cX9_turnX 7 = .ok (.lload_n 2, 1) := by decide +kernel
theorem dX9_turnX_8 : decode cX9_turnX 8 = .ok (.iload 4, 2) := by decide +kernel
theorem dX9_turnX_10 : decode cX9_turnX 10 = .ok (.invokestatic 25, 3) := by decide +kernel
theorem dX9_turnX_13 : decode cX9_turnX 13 = .ok (.lmul, 1) := by decide +kernel
theorem dX9_turnX_14 : decode cX9_turnX 14 = .ok (.lsub, 1) := by decide +kernel
theorem dX9_turnX_15 : decode cX9_turnX 15 = .ok (.ldc2_w 28, 3) := by decide +kernel
theorem dX9_turnX_18 : decode cX9_turnX 18 = .ok (.ldiv, 1) := by decide +kernel
theorem dX9_turnX_19 : decode cX9_turnX 19 = .ok (.lreturn, 1) := by decide +kernel
theorem dX9_turnY_0 : decode cX9_turnY 0 = .ok (.lload_n 0, 1) := by decide +kernel
theorem dX9_turnY_1 : decode cX9_turnY 1 = .ok (.iload 4, 2) := by decide +kernel
theorem dX9_turnY_3 : decode cX9_turnY 3 = .ok (.invokestatic 25, 3) := by decide +kernel
theorem dX9_turnY_6 : decode cX9_turnY 6 = .ok (.lmul, 1) := by decide +kernel
theorem dX9_turnY_7 : decode cX9_turnY 7 = .ok (.lload_n 2, 1) := by decide +kernel
theorem dX9_turnY_8 : decode cX9_turnY 8 = .ok (.iload 4, 2) := by decide +kernel
theorem dX9_turnY_10 : decode cX9_turnY 10 = .ok (.invokestatic 21, 3) := by decide +kernel
theorem dX9_turnY_13 : decode cX9_turnY 13 = .ok (.lmul, 1) := by decide +kernel
theorem dX9_turnY_14 : decode cX9_turnY 14 = .ok (.ladd, 1) := by decide +kernel
theorem dX9_turnY_15 : decode cX9_turnY 15 = .ok (.ldc2_w 28, 3) := by decide +kernel
theorem dX9_turnY_18 : decode cX9_turnY 18 = .ok (.ldiv, 1) := by decide +kernel
theorem dX9_turnY_19 : decode cX9_turnY 19 = .ok (.lreturn, 1) := by decide +kernel
theorem dX10_init_0 : decode cX10_init 0 = .ok (.aload_n 0, 1) := by decide +kernel
theorem dX10_init_1 : decode cX10_init 1 = .ok (.invokespecial 1, 3) := by decide +kernel
theorem dX10_init_4 : decode cX10_init 4 = .ok (.aload_n 0, 1) := by decide +kernel
theorem dX10_init_5 : decode cX10_init 5 = .ok (.new 7, 3) := by decide +kernel
theorem dX10_init_8 : decode cX10_init 8 = .ok (.dup, 1) := by decide +kernel
theorem dX10_init_9 : decode cX10_init 9 = .ok (.invokespecial 9, 3) := by decide +kernel
theorem dX10_init_12 : decode cX10_init 12 = .ok (.putfield 10, 3) := by decide +kernel
theorem dX10_init_15 : decode cX10_init 15 = .ok (.aload_n 0, 1) := by decide +kernel
theorem dX10_init_16 : decode cX10_init 16 = .ok (.new 16, 3) := by decide +kernel
theorem dX10_init_19 : decode cX10_init 19 = .ok (.dup, 1) := by decide +kernel
theorem dX10_init_20 : decode cX10_init 20 = .ok (.invokespecial 18, 3) := by decide +kernel
theorem dX10_init_23 : decode cX10_init 23 = .ok (.putfield 19, 3) := by decide +kernel
theorem dX10_init_26 : decode cX10_init 26 = .ok (.aload_n 0, 1) := by decide +kernel
theorem dX10_init_27 : decode cX10_init 27 = .ok (.iconst 2, 1) := by decide +kernel
theorem dX10_init_28 : decode cX10_init 28 = .ok (.anewarray 16, 3) := by decide +kernel
theorem dX10_init_31 : decode cX10_init 31 = .ok (.putfield 23, 3) := by decide +kernel
theorem dX10_init_34 : decode cX10_init 34 = .ok (.aload_n 0, 1) := by decide +kernel
theorem dX10_init_35 : decode cX10_init 35 = .ok (.new 27, 3) := by decide +kernel
theorem dX10_init_38 : decode cX10_init 38 = .ok (.dup, 1) := by decide +kernel
theorem dX10_init_39 : decode cX10_init 39 = .ok (.invokespecial 29, 3) := by decide +kernel
theorem dX10_init_42 : decode cX10_init 42 = .ok (.putfield 30, 3) := by decide +kernel
theorem dX10_init_45 : decode cX10_init 45 = .ok (.aload_n 0, 1) := by decide +kernel
theorem dX10_init_46 : decode cX10_init 46 = .ok (.new 34, 3) := by decide +kernel
theorem dX10_init_49 : decode cX10_init 49 = .ok (.dup, 1) := by decide +kernel
theorem dX10_init_50 : decode cX10_init 50 = .ok (.invokespecial 36, 3) := by decide +kernel
theorem dX10_init_53 : decode cX10_init 53 = .ok (.putfield 37, 3) := by decide +kernel
theorem dX10_init_56 : decode cX10_init 56 = .ok (.aload_n 0, 1) := by decide +kernel
theorem dX10_init_57 : decode cX10_init 57 = .ok (.new 41, 3) := by decide +kernel
theorem dX10_init_60 : decode cX10_init 60 = .ok (.dup, 1) := by decide +kernel
theorem dX10_init_61 : decode cX10_init 61 = .ok (.invokespecial 43, 3) := by decide +kernel
theorem dX10_init_64 : decode cX10_init 64 = .ok (.putfield 44, 3) := by decide +kernel
theorem dX10_init_67 : decode cX10_init 67 = .ok (.aload_n 0, 1) := by decide +kernel
theorem dX10_init_68 : decode cX10_init 68 = .ok (.new 48, 3) := by decide +kernel
theorem dX10_init_71 : decode cX10_init 71 = .ok (.dup, 1) := by decide +kernel
theorem dX10_init_72 : decode cX10_init 72 = .ok (.invokespecial 50, 3) := by decide +kernel
theorem dX10_init_75 : decode cX10_init 75 = .ok (.putfield 51, 3) := by decide +kernel
theorem dX10_init_78 : decode cX10_init 78 = .ok (.aload_n 0, 1) := by decide +kernel
theorem dX10_init_79 : decode cX10_init 79 = .ok (.new 55, 3) := by decide +kernel
theorem dX10_init_82 : decode cX10_init 82 = .ok (.dup, 1) := by decide +kernel
theorem dX10_init_83 : decode cX10_init 83 = .ok (.invokespecial 57, 3) := by decide +kernel
theorem dX10_init_86 : decode cX10_init 86 = .ok (.putfield 58, 3) := by decide +kernel
theorem dX10_init_89 : decode cX10_init 89 = .ok (.return_, 1) := by decide +kernel
theorem dX10_set_0 : decode cX10_set 0 = .ok (.iload_n 1, 1) := by decide +kernel
theorem dX10_set_1 : decode cX10_set 1 = .ok (.iload_n 2, 1) := by decide +kernel
theorem dX10_set_2 : decode cX10_set 2 = .ok (.invokestatic 62, 3) := by decide +kernel
theorem dX10_set_5 : decode cX10_set 5 = .ok (.ifCond .ne 6, 3) := by decide +kernel
theorem dX10_set_8 : decode cX10_set 8 = .ok (.bipush (-2), 2) := by decide +kernel
theorem dX10_set_10 : decode cX10_set 10 = .ok (.ireturn, 1) := by decide +kernel
theorem dX10_set_11 : decode cX10_set 11 = .ok (.aload_n 0, 1) := by decide +kernel
theorem dX10_set_12 : decode cX10_set 12 = .ok (.getfield 19, 3) := by decide +kernel
theorem dX10_set_15 : decode cX10_set 15 = .ok (.getfield 66, 3) := by decide +kernel
theorem dX10_set_18 : decode cX10_set 18 = .ok (.iload_n 1, 1) := by decide +kernel
theorem dX10_set_19 : decode cX10_set 19 = .ok (.iaload, 1) := by decide +kernel
theorem dX10_set_20 : decode cX10_set 20 = .ok (.istore_n 3, 1) := by decide +kernel
theorem dX10_set_21 : decode cX10_set 21 = .ok (.aload_n 0, 1) := by decide +kernel
theorem dX10_set_22 : decode cX10_set 22 = .ok (.getfield 19, 3) := by decide +kernel
theorem dX10_set_25 : decode cX10_set 25 = .ok (.getfield 66, 3) := by decide +kernel
theorem dX10_set_28 : decode cX10_set 28 = .ok (.iload_n 1, 1) := by decide +kernel
theorem dX10_set_29 : decode cX10_set 29 = .ok (.iload_n 2, 1) := by decide +kernel
theorem dX10_set_30 : decode cX10_set 30 = .ok (.iastore, 1) := by decide +kernel
theorem dX10_set_31 : decode cX10_set 31 = .ok (.iload_n 3, 1) := by decide +kernel
theorem dX10_set_32 : decode cX10_set 32 = .ok (.ireturn, 1) := by decide +kernel
theorem dX10_say_0 : decode cX10_say 0 = .ok (.iload_n 1, 1) := by decide +kernel
theorem dX10_say_1 : decode cX10_say 1 = .ok (.bipush 33, 2) := by decide +kernel
theorem dX10_say_3 : decode cX10_say 3 = .ok (.bipush 126, 2) := by decide +kernel
theorem dX10_say_5 : decode cX10_say 5 = .ok (.invokestatic 70, 3) := by decide +kernel
theorem dX10_say_8 : decode cX10_say 8 = .ok (.ifCond .ne 6, 3) := by decide +kernel
theorem dX10_say_11 : decode cX10_say 11 = .ok (.bipush (-2), 2) := by decide +kernel
theorem dX10_say_13 : decode cX10_say 13 = .ok (.ireturn, 1) := by decide +kernel
theorem dX10_say_14 : decode cX10_say 14 = .ok (.aload_n 0, 1) := by decide +kernel
theorem dX10_say_15 : decode cX10_say 15 = .ok (.getfield 10, 3) := by decide +kernel
theorem dX10_say_18 : decode cX10_say 18 = .ok (.iload_n 1, 1) := by decide +kernel
theorem dX10_say_19 : decode cX10_say 19 = .ok (.invokevirtual 74, 3) := by decide +kernel
theorem dX10_say_22 : decode cX10_say 22 = .ok (.ifCond .eq 13, 3) := by decide +kernel
theorem dX10_say_25 : decode cX10_say 25 = .ok (.aload_n 0, 1) := by decide +kernel
theorem dX10_say_26 : decode cX10_say 26 = .ok (.getfield 10, 3) := by decide +kernel
theorem dX10_say_29 : decode cX10_say 29 = .ok (.getfield 78, 3) := by decide +kernel
theorem dX10_say_32 : decode cX10_say 32 = .ok (.goto 5, 3) := by decide +kernel
theorem dX10_say_35 : decode cX10_say 35 = .ok (.bipush (-4), 2) := by decide +kernel
theorem dX10_say_37 : decode cX10_say 37 = .ok (.ireturn, 1) := by decide +kernel
theorem dX10_wipe_0 : decode cX10_wipe 0 = .ok (.aload_n 0, 1) := by decide +kernel
theorem dX10_wipe_1 : decode cX10_wipe 1 = .ok (.getfield 10, 3) := by decide +kernel
theorem dX10_wipe_4 : decode cX10_wipe 4 = .ok (.getfield 78, 3) := by decide +kernel
theorem dX10_wipe_7 : decode cX10_wipe 7 = .ok (.istore_n 1, 1) := by decide +kernel
theorem dX10_wipe_8 : decode cX10_wipe 8 = .ok (.aload_n 0, 1) := by decide +kernel
theorem dX10_wipe_9 : decode cX10_wipe 9 = .ok (.getfield 10, 3) := by decide +kernel
theorem dX10_wipe_12 : decode cX10_wipe 12 = .ok (.iconst 0, 1) := by decide +kernel
theorem dX10_wipe_13 : decode cX10_wipe 13 = .ok (.putfield 78, 3) := by decide +kernel
theorem dX10_wipe_16 : decode cX10_wipe 16 = .ok (.iload_n 1, 1) := by decide +kernel
theorem dX10_wipe_17 : decode cX10_wipe 17 = .ok (.ireturn, 1) := by decide +kernel
theorem dX10_fault_0 : decode cX10_fault 0 = .ok (.aload_n 0, 1) := by decide +kernel
theorem dX10_fault_1 : decode cX10_fault 1 = .ok (.getfield 10, 3) := by decide +kernel
theorem dX10_fault_4 : decode cX10_fault 4 = .ok (.invokevirtual 82, 3) := by decide +kernel
theorem dX10_fault_7 : decode cX10_fault 7 = .ok (.ireturn, 1) := by decide +kernel
theorem dX10_push_0 : decode cX10_push 0 = .ok (.aload_n 0, 1) := by decide +kernel
theorem dX10_push_1 : decode cX10_push 1 = .ok (.getfield 10, 3) := by decide +kernel
theorem dX10_push_4 : decode cX10_push 4 = .ok (.invokevirtual 82, 3) := by decide +kernel
theorem dX10_push_7 : decode cX10_push 7 = .ok (.bipush (-6), 2) := by decide +kernel
theorem dX10_push_9 : decode cX10_push 9 = .ok (.if_icmp .eq 6, 3) := by decide +kernel
theorem dX10_push_12 : decode cX10_push 12 = .ok (.bipush (-5), 2) := by decide +kernel
theorem dX10_push_14 : decode cX10_push 14 = .ok (.ireturn, 1) := by decide +kernel
theorem dX10_push_15 : decode cX10_push 15 = .ok (.aload_n 0, 1) := by decide +kernel
theorem dX10_push_16 : decode cX10_push 16 = .ok (.getfield 19, 3) := by decide +kernel
theorem dX10_push_19 : decode cX10_push 19 = .ok (.getfield 86, 3) := by decide +kernel
theorem dX10_push_22 : decode cX10_push 22 = .ok (.aload_n 0, 1) := by decide +kernel
theorem dX10_push_23 : decode cX10_push 23 = .ok (.getfield 10, 3) := by decide +kernel
theorem dX10_push_26 : decode cX10_push 26 = .ok (.invokevirtual 90, 3) := by decide +kernel
theorem dX10_push_29 : decode cX10_push 29 = .ok (.aload_n 0, 1) := by decide +kernel
theorem dX10_push_30 : decode cX10_push 30 = .ok (.getfield 10, 3) := by decide +kernel
theorem dX10_push_33 : decode cX10_push 33 = .ok (.iconst 0, 1) := by decide +kernel
theorem dX10_push_34 : decode cX10_push 34 = .ok (.putfield 78, 3) := by decide +kernel
theorem dX10_push_37 : decode cX10_push 37 = .ok (.aload_n 0, 1) := by decide +kernel
theorem dX10_push_38 : decode cX10_push 38 = .ok (.getfield 19, 3) := by decide +kernel
theorem dX10_push_41 : decode cX10_push 41 = .ok (.getfield 86, 3) := by decide +kernel
theorem dX10_push_44 : decode cX10_push 44 = .ok (.getfield 96, 3) := by decide +kernel
theorem dX10_push_47 : decode cX10_push 47 = .ok (.ireturn, 1) := by decide +kernel
theorem dX10_turn_0 : decode cX10_turn 0 = .ok (.iload_n 1, 1) := by decide +kernel
theorem dX10_turn_1 : decode cX10_turn 1 = .ok (.invokestatic 99, 3) := by decide +kernel
theorem dX10_turn_4 : decode cX10_turn 4 = .ok (.ifCond .eq 12, 3) := by decide +kernel
theorem dX10_turn_7 : decode cX10_turn 7 = .ok (.iload_n 2, 1) := by decide +kernel
theorem dX10_turn_8 : decode cX10_turn 8 = .ok (.iconst 0, 1) := by decide +kernel
theorem dX10_turn_9 : decode cX10_turn 9 = .ok (.iconst 1, 1) := by decide +kernel
theorem dX10_turn_10 : decode cX10_turn 10 = .ok (.invokestatic 70, 3) := by decide +kernel
theorem dX10_turn_13 : decode cX10_turn 13 = .ok (.ifCond .ne 6, 3) := by decide +kernel
theorem dX10_turn_16 : decode cX10_turn 16 = .ok (.bipush (-2), 2) := by decide +kernel
theorem dX10_turn_18 : decode cX10_turn 18 = .ok (.ireturn, 1) := by decide +kernel
theorem dX10_turn_19 : decode cX10_turn 19 = .ok (.aload_n 0, 1) := by decide +kernel
theorem dX10_turn_20 : decode cX10_turn 20 = .ok (.getfield 30, 3) := by decide +kernel
theorem dX10_turn_23 : decode cX10_turn 23 = .ok (.aload_n 0, 1) := by decide +kernel
theorem dX10_turn_24 : decode cX10_turn 24 = .ok (.getfield 19, 3) := by decide +kernel
theorem dX10_turn_27 : decode cX10_turn 27 = .ok (.aload_n 0, 1) := by decide +kernel
theorem dX10_turn_28 : decode cX10_turn 28 = .ok (.getfield 19, 3) := by decide +kernel
theorem dX10_turn_31 : decode cX10_turn 31 = .ok (.invokevirtual 102, 3) := by decide +kernel
theorem dX10_turn_34 : decode cX10_turn 34 = .ok (.invokevirtual 105, 3) := by decide +kernel
theorem dX10_turn_37 : decode cX10_turn 37 = .ok (.iload_n 2, 1) := by decide +kernel
theorem dX10_turn_38 : decode cX10_turn 38 = .ok (.ifCond .ne 15, 3) := by decide +kernel
theorem dX10_turn_41 : decode cX10_turn 41 = .ok (.aload_n 0, 1) := by decide +kernel
theorem dX10_turn_42 : decode cX10_turn 42 = .ok (.getfield 30, 3) := by decide +kernel
theorem dX10_turn_45 : decode cX10_turn 45 = .ok (.getfield 109, 3) := by decide +kernel
theorem dX10_turn_48 : decode cX10_turn 48 = .ok (.iload_n 1, 1) := by decide +kernel
theorem dX10_turn_49 : decode cX10_turn 49 = .ok (.iaload, 1) := by decide +kernel
theorem dX10_turn_50 : decode cX10_turn 50 = .ok (.goto 15, 3) := by decide +kernel
theorem dX10_turn_53 : decode cX10_turn 53 = .ok (.aload_n 0, 1) := by decide +kernel
theorem dX10_turn_54 : decode cX10_turn 54 = .ok (.getfield 30, 3) := by decide +kernel
theorem dX10_turn_57 : decode cX10_turn 57 = .ok (.getfield 112, 3) := by decide +kernel
theorem dX10_turn_60 : decode cX10_turn 60 = .ok (.iload_n 1, 1) := by decide +kernel
theorem dX10_turn_61 : decode cX10_turn 61 = .ok (.iaload, 1) := by decide +kernel
theorem dX10_turn_62 : decode cX10_turn 62 = .ok (.bipush 100, 2) := by decide +kernel
theorem dX10_turn_64 : decode cX10_turn 64 = .ok (.iadd, 1) := by decide +kernel
theorem dX10_turn_65 : decode cX10_turn 65 = .ok (.ireturn, 1) := by decide +kernel
theorem dX10_sit_0 : decode cX10_sit 0 = .ok (.iload_n 1, 1) := by decide +kernel
theorem dX10_sit_1 : decode cX10_sit 1 = .ok (.iconst 0, 1) := by decide +kernel
theorem dX10_sit_2 : decode cX10_sit 2 = .ok (.sipush 1000, 3) := by decide +kernel
theorem dX10_sit_5 : decode cX10_sit 5 = .ok (.invokestatic 70, 3) := by decide +kernel
theorem dX10_sit_8 : decode cX10_sit 8 = .ok (.ifCond .eq 10, 3) := by decide +kernel
theorem dX10_sit_11 : decode cX10_sit 11 = .ok (.iload_n 2, 1) := by decide +kernel
theorem dX10_sit_12 : decode cX10_sit 12 = .ok (.invokestatic 115, 3) := by decide +kernel
theorem dX10_sit_15 : decode cX10_sit 15 = .ok (.ifCond .ne 6, 3) := by decide +kernel
theorem dX10_sit_18 : decode cX10_sit 18 = .ok (.bipush (-2), 2) := by decide +kernel
theorem dX10_sit_20 : decode cX10_sit 20 = .ok (.ireturn, 1) := by decide +kernel
theorem dX10_sit_21 : decode cX10_sit 21 = .ok (.aload_n 0, 1) := by decide +kernel
theorem dX10_sit_22 : decode cX10_sit 22 = .ok (.getfield 19, 3) := by decide +kernel
theorem dX10_sit_25 : decode cX10_sit 25 = .ok (.getfield 118, 3) := by decide +kernel
theorem dX10_sit_28 : decode cX10_sit 28 = .ok (.bipush 8, 2) := by decide +kernel
theorem dX10_sit_30 : decode cX10_sit 30 = .ok (.if_icmp .ne 6, 3) := by decide +kernel
theorem dX10_sit_33 : decode cX10_sit 33 = .ok (.bipush (-4), 2) := by decide +kernel
theorem dX10_sit_35 : decode cX10_sit 35 = .ok (.ireturn, 1) := by decide +kernel
theorem dX10_sit_36 : decode cX10_sit 36 = .ok (.aload_n 0, 1) := by decide +kernel
theorem dX10_sit_37 : decode cX10_sit 37 = .ok (.getfield 19, 3) := by decide +kernel
theorem dX10_sit_40 : decode cX10_sit 40 = .ok (.iload_n 1, 1) := by decide +kernel
theorem dX10_sit_41 : decode cX10_sit 41 = .ok (.iload_n 2, 1) := by decide +kernel
theorem dX10_sit_42 : decode cX10_sit 42 = .ok (.invokevirtual 121, 3) := by decide +kernel
theorem dX10_sit_45 : decode cX10_sit 45 = .ok (.ireturn, 1) := by decide +kernel
theorem dX10_point_0 : decode cX10_point 0 = .ok (.aload_n 0, 1) := by decide +kernel
theorem dX10_point_1 : decode cX10_point 1 = .ok (.getfield 19, 3) := by decide +kernel
theorem dX10_point_4 : decode cX10_point 4 = .ok (.iload_n 1, 1) := by decide +kernel
theorem dX10_point_5 : decode cX10_point 5 = .ok (.invokevirtual 125, 3) := by decide +kernel
theorem dX10_point_8 : decode cX10_point 8 = .ok (.ifCond .ne 6, 3) := by decide +kernel
theorem dX10_point_11 : decode cX10_point 11 = .ok (.ldc 128, 2) := by decide +kernel
theorem dX10_point_13 : decode cX10_point 13 = .ok (.ireturn, 1) := by decide +kernel
theorem dX10_point_14 : decode cX10_point 14 = .ok (.iload_n 2, 1) := by decide +kernel
theorem dX10_point_15 : decode cX10_point 15 = .ok (.invokestatic 99, 3) := by decide +kernel
theorem dX10_point_18 : decode cX10_point 18 = .ok (.ifCond .eq 12, 3) := by decide +kernel
theorem dX10_point_21 : decode cX10_point 21 = .ok (.iload_n 3, 1) := by decide +kernel
theorem dX10_point_22 : decode cX10_point 22 = .ok (.iconst 0, 1) := by decide +kernel
theorem dX10_point_23 : decode cX10_point 23 = .ok (.iconst 3, 1) := by decide +kernel
theorem dX10_point_24 : decode cX10_point 24 = .ok (.invokestatic 70, 3) := by decide +kernel
theorem dX10_point_27 : decode cX10_point 27 = .ok (.ifCond .ne 6, 3) := by decide +kernel
theorem dX10_point_30 : decode cX10_point 30 = .ok (.ldc 129, 2) := by decide +kernel
theorem dX10_point_32 : decode cX10_point 32 = .ok (.ireturn, 1) := by decide +kernel
theorem dX10_point_33 : decode cX10_point 33 = .ok (.aload_n 0, 1) := by decide +kernel
theorem dX10_point_34 : decode cX10_point 34 = .ok (.getfield 19, 3) := by decide +kernel
theorem dX10_point_37 : decode cX10_point 37 = .ok (.getfield 130, 3) := by decide +kernel
theorem dX10_point_40 : decode cX10_point 40 = .ok (.iload_n 1, 1) := by decide +kernel
theorem dX10_point_41 : decode cX10_point 41 = .ok (.iaload, 1) := by decide +kernel
theorem dX10_point_42 : decode cX10_point 42 = .ok (.istore 4, 2) := by decide +kernel
theorem dX10_point_44 : decode cX10_point 44 = .ok (.aload_n 0, 1) := by decide +kernel
theorem dX10_point_45 : decode cX10_point 45 = .ok (.getfield 19, 3) := by decide +kernel
theorem dX10_point_48 : decode cX10_point 48 = .ok (.getfield 133, 3) := by decide +kernel
theorem dX10_point_51 : decode cX10_point 51 = .ok (.iload_n 1, 1) := by decide +kernel
theorem dX10_point_52 : decode cX10_point 52 = .ok (.iaload, 1) := by decide +kernel
theorem dX10_point_53 : decode cX10_point 53 = .ok (.istore 5, 2) := by decide +kernel
theorem dX10_point_55 : decode cX10_point 55 = .ok (.iload_n 3, 1) := by decide +kernel
theorem dX10_point_56 : decode cX10_point 56 = .ok (.iconst 2, 1) := by decide +kernel
theorem dX10_point_57 : decode cX10_point 57 = .ok (.if_icmp .ge 15, 3) := by decide +kernel
theorem dX10_point_60 : decode cX10_point 60 = .ok (.iload_n 3, 1) := by decide +kernel
theorem dX10_point_61 : decode cX10_point 61 = .ok (.ifCond .ne 8, 3) := by decide +kernel
theorem dX10_point_64 : decode cX10_point 64 = .ok (.iload 4, 2) := by decide +kernel
theorem dX10_point_66 : decode cX10_point 66 = .ok (.goto 5, 3) := by decide +kernel
theorem dX10_point_69 : decode cX10_point 69 = .ok (.iload 5, 2) := by decide +kernel
theorem dX10_point_71 : decode cX10_point 71 = .ok (.ireturn, 1) := by decide +kernel
theorem dX10_point_72 : decode cX10_point 72 = .ok (.aload_n 0, 1) := by decide +kernel
theorem dX10_point_73 : decode cX10_point 73 = .ok (.getfield 30, 3) := by decide +kernel
theorem dX10_point_76 : decode cX10_point 76 = .ok (.aload_n 0, 1) := by decide +kernel
theorem dX10_point_77 : decode cX10_point 77 = .ok (.getfield 19, 3) := by decide +kernel
theorem dX10_point_80 : decode cX10_point 80 = .ok (.aload_n 0, 1) := by decide +kernel
theorem dX10_point_81 : decode cX10_point 81 = .ok (.getfield 19, 3) := by decide +kernel
theorem dX10_point_84 : decode cX10_point 84 = .ok (.invokevirtual 102, 3) := by decide +kernel
theorem dX10_point_87 : decode cX10_point 87 = .ok (.invokevirtual 105, 3) := by decide +kernel
theorem dX10_point_90 : decode cX10_point 90 = .ok (.aload_n 0, 1) := by decide +kernel
theorem dX10_point_91 : decode cX10_point 91 = .ok (.getfield 30, 3) := by decide +kernel
theorem dX10_point_94 : decode cX10_point 94 = .ok (.iload_n 2, 1) := by decide +kernel
theorem dX10_point_95 : decode cX10_point 95 = .ok (.invokevirtual 136, 3) := by decide +kernel
theorem dX10_point_98 : decode cX10_point 98 = .ok (.istore 6, 2) := by decide +kernel
theorem dX10_point_100 : decode cX10_point 100 = .ok (.iload_n 3, 1) := by decide +kernel
theorem dX10_point_101 : decode cX10_point 101 = .ok (.iconst 2, 1) := by decide +kernel
theorem dX10_point_102 : decode cX10_point 102 = .ok (.if_icmp .ne 17, 3) := by decide +kernel
theorem dX10_point_105 : decode cX10_point 105 = .ok (.iload 4, 2) := by decide +kernel
theorem dX10_point_107 : decode cX10_point 107 = .ok (.i2l, 1) := by decide +kernel
theorem dX10_point_108 : decode cX10_point 108 = .ok (.iload 5, 2) := by decide +kernel
theorem dX10_point_110 : decode cX10_point 110 = .ok (.i2l, 1) := by decide +kernel
theorem dX10_point_111 : decode cX10_point 111 = .ok (.iload 6, 2) := by decide +kernel
theorem dX10_point_113 : decode cX10_point 113 = .ok (.invokestatic 140, 3) := by decide +kernel
theorem dX10_point_116 : decode cX10_point 116 = .ok (.goto 14, 3) := by decide +kernel
theorem dX10_point_119 : decode cX10_point 119 = .ok (.iload 4, 2) := by decide +kernel
theorem dX10_point_121 : decode cX10_point 121 = .ok (.i2l, 1) := by decide +kernel
theorem dX10_point_122 : decode cX10_point 122 = .ok (.iload 5, 2) := by decide +kernel
theorem dX10_point_124 : decode cX10_point 124 = .ok (.i2l, 1) := by decide +kernel
theorem dX10_point_125 : decode cX10_point 125 = .ok (.iload 6, 2) := by decide +kernel
theorem dX10_point_127 : decode cX10_point 127 = .ok (.invokestatic 146, 3) := by decide +kernel
theorem dX10_point_130 : decode cX10_point 130 = .ok (.l2i, 1) := by decide +kernel
theorem dX10_point_131 : decode cX10_point 131 = .ok (.ireturn, 1) := by decide +kernel
theorem dX10_ball_0 : decode cX10_ball 0 = .ok (.aload_n 0, 1) := by decide +kernel
theorem dX10_ball_1 : decode cX10_ball 1 = .ok (.getfield 19, 3) := by decide +kernel
theorem dX10_ball_4 : decode cX10_ball 4 = .ok (.iload_n 1, 1) := by decide +kernel
theorem dX10_ball_5 : decode cX10_ball 5 = .ok (.invokevirtual 125, 3) := by decide +kernel
theorem dX10_ball_8 : decode cX10_ball 8 = .ok (.ifCond .ne 6, 3) := by decide +kernel
theorem dX10_ball_11 : decode cX10_ball 11 = .ok (.ldc 128, 2) := by decide +kernel
theorem dX10_ball_13 : decode cX10_ball 13 = .ok (.ireturn, 1) := by decide +kernel
theorem dX10_ball_14 : decode cX10_ball 14 = .ok (.iload_n 2, 1) := by decide +kernel
theorem dX10_ball_15 : decode cX10_ball 15 = .ok (.iload_n 3, 1) := by decide +kernel
theorem dX10_ball_16 : decode cX10_ball 16 = .ok (.invokestatic 149, 3) := by decide +kernel
theorem dX10_ball_19 : decode cX10_ball 19 = .ok (.ifCond .eq 21, 3) := by decide +kernel
theorem dX10_ball_22 : decode cX10_ball 22 = .ok (.iload 4, 2) := by decide +kernel
theorem dX10_ball_24 : decode cX10_ball 24 = .ok (.invokestatic 99, 3) := by decide +kernel
theorem dX10_ball_27 : decode cX10_ball 27 = .ok (.ifCond .eq 13, 3) := by decide +kernel
theorem dX10_ball_30 : decode cX10_ball 30 = .ok (.iload 5, 2) := by decide +kernel
theorem dX10_ball_32 : decode cX10_ball 32 = .ok (.iconst 0, 1) := by decide +kernel
theorem dX10_ball_33 : decode cX10_ball 33 = .ok (.iconst 3, 1) := by decide +kernel
theorem dX10_ball_34 : decode cX10_ball 34 = .ok (.invokestatic 70, 3) := by decide +kernel
theorem dX10_ball_37 : decode cX10_ball 37 = .ok (.ifCond .ne 6, 3) := by decide +kernel
theorem dX10_ball_40 : decode cX10_ball 40 = .ok (.ldc 129, 2) := by decide +kernel
theorem dX10_ball_42 : decode cX10_ball 42 = .ok (.ireturn, 1) := by decide +kernel
theorem dX10_ball_43 : decode cX10_ball 43 = .ok (.aload_n 0, 1) := by decide +kernel
theorem dX10_ball_44 : decode cX10_ball 44 = .ok (.getfield 30, 3) := by decide +kernel
theorem dX10_ball_47 : decode cX10_ball 47 = .ok (.aload_n 0, 1) := by decide +kernel
theorem dX10_ball_48 : decode cX10_ball 48 = .ok (.getfield 19, 3) := by decide +kernel
theorem dX10_ball_51 : decode cX10_ball 51 = .ok (.aload_n 0, 1) := by decide +kernel
theorem dX10_ball_52 : decode cX10_ball 52 = .ok (.getfield 19, 3) := by decide +kernel
theorem dX10_ball_55 : decode cX10_ball 55 = .ok (.invokevirtual 102, 3) := by decide +kernel
theorem dX10_ball_58 : decode cX10_ball 58 = .ok (.invokevirtual 105, 3) := by decide +kernel
theorem dX10_ball_61 : decode cX10_ball 61 = .ok (.aload_n 0, 1) := by decide +kernel
theorem dX10_ball_62 : decode cX10_ball 62 = .ok (.getfield 37, 3) := by decide +kernel
theorem dX10_ball_65 : decode cX10_ball 65 = .ok (.aload_n 0, 1) := by decide +kernel
theorem dX10_ball_66 : decode cX10_ball 66 = .ok (.getfield 19, 3) := by decide +kernel
theorem dX10_ball_69 : decode cX10_ball 69 = .ok (.getfield 130, 3) := by decide +kernel
theorem dX10_ball_72 : decode cX10_ball 72 = .ok (.iload_n 1, 1) := by decide +kernel
theorem dX10_ball_73 : decode cX10_ball 73 = .ok (.iaload, 1) := by decide +kernel
theorem dX10_ball_74 : decode cX10_ball 74 = .ok (.aload_n 0, 1) := by decide +kernel
theorem dX10_ball_75 : decode cX10_ball 75 = .ok (.getfield 19, 3) := by decide +kernel
theorem dX10_ball_78 : decode cX10_ball 78 = .ok (.getfield 133, 3) := by decide +kernel
theorem dX10_ball_81 : decode cX10_ball 81 = .ok (.iload_n 1, 1) := by decide +kernel
theorem dX10_ball_82 : decode cX10_ball 82 = .ok (.iaload, 1) := by decide +kernel
theorem dX10_ball_83 : decode cX10_ball 83 = .ok (.iload_n 2, 1) := by decide +kernel
theorem dX10_ball_84 : decode cX10_ball 84 = .ok (.iload_n 3, 1) := by decide +kernel
theorem dX10_ball_85 : decode cX10_ball 85 = .ok (.aload_n 0, 1) := by decide +kernel
theorem dX10_ball_86 : decode cX10_ball 86 = .ok (.getfield 30, 3) := by decide +kernel
theorem dX10_ball_89 : decode cX10_ball 89 = .ok (.invokevirtual 152, 3) := by decide +kernel
theorem dX10_ball_92 : decode cX10_ball 92 = .ok (.aload_n 0, 1) := by decide +kernel
theorem dX10_ball_93 : decode cX10_ball 93 = .ok (.getfield 37, 3) := by decide +kernel
theorem dX10_ball_96 : decode cX10_ball 96 = .ok (.iload 4, 2) := by decide +kernel
theorem dX10_ball_98 : decode cX10_ball 98 = .ok (.invokevirtual 156, 3) := by decide +kernel
theorem dX10_ball_101 : decode cX10_ball 101 = .ok (.lstore 6, 2) := by decide +kernel
theorem dX10_ball_103 : decode cX10_ball 103 = .ok (.aload_n 0, 1) := by decide +kernel
theorem dX10_ball_104 : decode cX10_ball 104 = .ok (.getfield 37, 3) := by decide +kernel
theorem dX10_ball_107 : decode cX10_ball 107 = .ok (.iload 4, 2) := by decide +kernel
theorem dX10_ball_109 : decode cX10_ball 109 = .ok (.invokevirtual 160, 3) := by decide +kernel
theorem dX10_ball_112 : decode cX10_ball 112 = .ok (.lstore 8, 2) := by decide +kernel
theorem dX10_ball_114 : decode cX10_ball 114 = .ok (.aload_n 0, 1) := by decide +kernel
theorem dX10_ball_115 : decode cX10_ball 115 = .ok (.getfield 30, 3) := by decide +kernel
theorem dX10_ball_118 : decode cX10_ball 118 = .ok (.iload 4, 2) := by decide +kernel
theorem dX10_ball_120 : decode cX10_ball 120 = .ok (.invokevirtual 163, 3) := by decide +kernel
theorem dX10_ball_123 : decode cX10_ball 123 = .ok (.istore 10, 2) := by decide +kernel
theorem dX10_ball_125 : decode cX10_ball 125 = .ok (.iload 5, 2) := by decide +kernel
theorem dX10_ball_127 : decode cX10_ball 127 = .ok (.tableswitch 44 0 2 #[25, 29, 33], 25) := by decide +kernel
theorem dX10_ball_152 : decode cX10_ball 152 = .ok (.lload 6, 2) := by decide +kernel
theorem dX10_ball_154 : decode cX10_ball 154 = .ok (.l2i, 1) := by decide +kernel
theorem dX10_ball_155 : decode cX10_ball 155 = .ok (.ireturn, 1) := by decide +kernel
theorem dX10_ball_156 : decode cX10_ball 156 = .ok (.lload 8, 2) := by decide +kernel
theorem dX10_ball_158 : decode cX10_ball 158 = .ok (.l2i, 1) := by decide +kernel
theorem dX10_ball_159 : decode cX10_ball 159 = .ok (.ireturn, 1) := by decide +kernel
theorem dX10_ball_160 : decode cX10_ball 160 = .ok (.lload 6, 2) := by decide +kernel
theorem dX10_ball_162 : decode cX10_ball 162 = .ok (.lload 8, 2) := by decide +kernel
theorem dX10_ball_164 : decode cX10_ball 164 = .ok (.iload 10, 2) := by decide +kernel
theorem dX10_ball_166 : decode cX10_ball 166 = .ok (.invokestatic 140, 3) := by decide +kernel
theorem dX10_ball_169 : decode cX10_ball 169 = .ok (.l2i, 1) := by decide +kernel
theorem dX10_ball_170 : decode cX10_ball 170 = .ok (.ireturn, 1) := by decide +kernel
theorem dX10_ball_171 : decode cX10_ball 171 = .ok (.lload 6, 2) := by decide +kernel
theorem dX10_ball_173 : decode cX10_ball 173 = .ok (.lload 8, 2) := by decide +kernel
theorem dX10_ball_175 : decode cX10_ball 175 = .ok (.iload 10, 2) := by decide +kernel
theorem dX10_ball_177 : decode cX10_ball 177 = .ok (.invokestatic 146, 3) := by decide +kernel
theorem dX10_ball_180 : decode cX10_ball 180 = .ok (.l2i, 1) := by decide +kernel
theorem dX10_ball_181 : decode cX10_ball 181 = .ok (.ireturn, 1) := by decide +kernel
theorem dX10_caught_0 : decode cX10_caught 0 = .ok (.aload_n 0, 1) := by decide +kernel
theorem dX10_caught_1 : decode cX10_caught 1 = .ok (.getfield 19, 3) := by decide +kernel
theorem dX10_caught_4 : decode cX10_caught 4 = .ok (.iload_n 1, 1) := by decide +kernel
theorem dX10_caught_5 : decode cX10_caught 5 = .ok (.invokevirtual 125, 3) := by decide +kernel
theorem dX10_caught_8 : decode cX10_caught 8 = .ok (.ifCond .eq 15, 3) := by decide +kernel
theorem dX10_caught_11 : decode cX10_caught 11 = .ok (.aload_n 0, 1) := by decide +kernel
theorem dX10_caught_12 : decode cX10_caught 12 = .ok (.getfield 19, 3) := by decide +kernel
theorem dX10_caught_15 : decode cX10_caught 15 = .ok (.iload 4, 2) := by decide +kernel
theorem dX10_caught_17 : decode cX10_caught 17 = .ok (.invokevirtual 125, 3) := by decide +kernel
theorem dX10_caught_20 : decode cX10_caught 20 = .ok (.ifCond .ne 5, 3) := by decide +kernel
theorem dX10_caught_23 : decode cX10_caught 23 = .ok (.iconst (-1), 1) := by decide +kernel
theorem dX10_caught_24 : decode cX10_caught 24 = .ok (.ireturn, 1) := by decide +kernel
theorem dX10_caught_25 : decode cX10_caught 25 = .ok (.iload_n 2, 1) := by decide +kernel
theorem dX10_caught_26 : decode cX10_caught 26 = .ok (.iload_n 3, 1) := by decide +kernel
theorem dX10_caught_27 : decode cX10_caught 27 = .ok (.invokestatic 149, 3) := by decide +kernel
theorem dX10_caught_30 : decode cX10_caught 30 = .ok (.ifCond .ne 6, 3) := by decide +kernel
theorem dX10_caught_33 : decode cX10_caught 33 = .ok (.bipush (-2), 2) := by decide +kernel
theorem dX10_caught_35 : decode cX10_caught 35 = .ok (.ireturn, 1) := by decide +kernel
theorem dX10_caught_36 : decode cX10_caught 36 = .ok (.aload_n 0, 1) := by decide +kernel
theorem dX10_caught_37 : decode cX10_caught 37 = .ok (.getfield 30, 3) := by decide +kernel
theorem dX10_caught_40 : decode cX10_caught 40 = .ok (.aload_n 0, 1) := by decide +kernel
theorem dX10_caught_41 : decode cX10_caught 41 = .ok (.getfield 19, 3) := by decide +kernel
theorem dX10_caught_44 : decode cX10_caught 44 = .ok (.aload_n 0, 1) := by decide +kernel
theorem dX10_caught_45 : decode cX10_caught 45 = .ok (.getfield 19, 3) := by decide +kernel
theorem dX10_caught_48 : decode cX10_caught 48 = .ok (.invokevirtual 102, 3) := by decide +kernel
theorem dX10_caught_51 : decode cX10_caught 51 = .ok (.invokevirtual 105, 3) := by decide +kernel
theorem dX10_caught_54 : decode cX10_caught 54 = .ok (.aload_n 0, 1) := by decide +kernel
theorem dX10_caught_55 : decode cX10_caught 55 = .ok (.getfield 44, 3) := by decide +kernel
theorem dX10_caught_58 : decode cX10_caught 58 = .ok (.aload_n 0, 1) := by decide +kernel
theorem dX10_caught_59 : decode cX10_caught 59 = .ok (.getfield 19, 3) := by decide +kernel
theorem dX10_caught_62 : decode cX10_caught 62 = .ok (.getfield 130, 3) := by decide +kernel
theorem dX10_caught_65 : decode cX10_caught 65 = .ok (.iload 4, 2) := by decide +kernel
theorem dX10_caught_67 : decode cX10_caught 67 = .ok (.iaload, 1) := by decide +kernel
theorem dX10_caught_68 : decode cX10_caught 68 = .ok (.aload_n 0, 1) := by decide +kernel
theorem dX10_caught_69 : decode cX10_caught 69 = .ok (.getfield 19, 3) := by decide +kernel
theorem dX10_caught_72 : decode cX10_caught 72 = .ok (.getfield 133, 3) := by decide +kernel
theorem dX10_caught_75 : decode cX10_caught 75 = .ok (.iload 4, 2) := by decide +kernel
theorem dX10_caught_77 : decode cX10_caught 77 = .ok (.iaload, 1) := by decide +kernel
theorem dX10_caught_78 : decode cX10_caught 78 = .ok (.aload_n 0, 1) := by decide +kernel
theorem dX10_caught_79 : decode cX10_caught 79 = .ok (.getfield 30, 3) := by decide +kernel
theorem dX10_caught_82 : decode cX10_caught 82 = .ok (.invokevirtual 166, 3) := by decide +kernel
theorem dX10_caught_85 : decode cX10_caught 85 = .ok (.aload_n 0, 1) := by decide +kernel
theorem dX10_caught_86 : decode cX10_caught 86 = .ok (.getfield 37, 3) := by decide +kernel
theorem dX10_caught_89 : decode cX10_caught 89 = .ok (.aload_n 0, 1) := by decide +kernel
theorem dX10_caught_90 : decode cX10_caught 90 = .ok (.getfield 19, 3) := by decide +kernel
theorem dX10_caught_93 : decode cX10_caught 93 = .ok (.getfield 130, 3) := by decide +kernel
theorem dX10_caught_96 : decode cX10_caught 96 = .ok (.iload_n 1, 1) := by decide +kernel
theorem dX10_caught_97 : decode cX10_caught 97 = .ok (.iaload, 1) := by decide +kernel
theorem dX10_caught_98 : decode cX10_caught 98 = .ok (.aload_n 0, 1) := by decide +kernel
theorem dX10_caught_99 : decode cX10_caught 99 = .ok (.getfield 19, 3) := by decide +kernel
theorem dX10_caught_102 : decode cX10_caught 102 = .ok (.getfield 133, 3) := by decide +kernel
theorem dX10_caught_105 : decode cX10_caught 105 = .ok (.iload_n 1, 1) := by decide +kernel
theorem dX10_caught_106 : decode cX10_caught 106 = .ok (.iaload, 1) := by decide +kernel
theorem dX10_caught_107 : decode cX10_caught 107 = .ok (.iload_n 2, 1) := by decide +kernel
theorem dX10_caught_108 : decode cX10_caught 108 = .ok (.iload_n 3, 1) := by decide +kernel
theorem dX10_caught_109 : decode cX10_caught 109 = .ok (.aload_n 0, 1) := by decide +kernel
theorem dX10_caught_110 : decode cX10_caught 110 = .ok (.getfield 30, 3) := by decide +kernel
theorem dX10_caught_113 : decode cX10_caught 113 = .ok (.invokevirtual 152, 3) := by decide +kernel
theorem dX10_caught_116 : decode cX10_caught 116 = .ok (.aload_n 0, 1) := by decide +kernel
theorem dX10_caught_117 : decode cX10_caught 117 = .ok (.getfield 37, 3) := by decide +kernel
theorem dX10_caught_120 : decode cX10_caught 120 = .ok (.aload_n 0, 1) := by decide +kernel
theorem dX10_caught_121 : decode cX10_caught 121 = .ok (.getfield 44, 3) := by decide +kernel
theorem dX10_caught_124 : decode cX10_caught 124 = .ok (.aload_n 0, 1) := by decide +kernel
theorem dX10_caught_125 : decode cX10_caught 125 = .ok (.getfield 19, 3) := by decide +kernel
theorem dX10_caught_128 : decode cX10_caught 128 = .ok (.invokevirtual 170, 3) := by decide +kernel
theorem dX10_caught_131 : decode cX10_caught 131 = .ok (.invokevirtual 173, 3) := by decide +kernel
theorem dX10_caught_134 : decode cX10_caught 134 = .ok (.ireturn, 1) := by decide +kernel
theorem dX10_all_0 : decode cX10_all 0 = .ok (.aload_n 0, 1) := by decide +kernel
theorem dX10_all_1 : decode cX10_all 1 = .ok (.getfield 19, 3) := by decide +kernel
theorem dX10_all_4 : decode cX10_all 4 = .ok (.iload_n 1, 1) := by decide +kernel
theorem dX10_all_5 : decode cX10_all 5 = .ok (.invokevirtual 125, 3) := by decide +kernel
theorem dX10_all_8 : decode cX10_all 8 = .ok (.ifCond .eq 14, 3) := by decide +kernel
theorem dX10_all_11 : decode cX10_all 11 = .ok (.aload_n 0, 1) := by decide +kernel
theorem dX10_all_12 : decode cX10_all 12 = .ok (.getfield 19, 3) := by decide +kernel
theorem dX10_all_15 : decode cX10_all 15 = .ok (.iload_n 2, 1) := by decide +kernel
theorem dX10_all_16 : decode cX10_all 16 = .ok (.invokevirtual 125, 3) := by decide +kernel
theorem dX10_all_19 : decode cX10_all 19 = .ok (.ifCond .ne 5, 3) := by decide +kernel
theorem dX10_all_22 : decode cX10_all 22 = .ok (.iconst (-1), 1) := by decide +kernel
theorem dX10_all_23 : decode cX10_all 23 = .ok (.ireturn, 1) := by decide +kernel
theorem dX10_all_24 : decode cX10_all 24 = .ok (.iload_n 3, 1) := by decide +kernel
theorem dX10_all_25 : decode cX10_all 25 = .ok (.iconst 0, 1) := by decide +kernel
theorem dX10_all_26 : decode cX10_all 26 = .ok (.iconst 3, 1) := by decide +kernel
theorem dX10_all_27 : decode cX10_all 27 = .ok (.invokestatic 70, 3) := by decide +kernel
theorem dX10_all_30 : decode cX10_all 30 = .ok (.ifCond .ne 6, 3) := by decide +kernel
theorem dX10_all_33 : decode cX10_all 33 = .ok (.bipush (-2), 2) := by decide +kernel
theorem dX10_all_35 : decode cX10_all 35 = .ok (.ireturn, 1) := by decide +kernel
theorem dX10_all_36 : decode cX10_all 36 = .ok (.aload_n 0, 1) := by decide +kernel
theorem dX10_all_37 : decode cX10_all 37 = .ok (.getfield 30, 3) := by decide +kernel
theorem dX10_all_40 : decode cX10_all 40 = .ok (.aload_n 0, 1) := by decide +kernel
theorem dX10_all_41 : decode cX10_all 41 = .ok (.getfield 19, 3) := by decide +kernel
theorem dX10_all_44 : decode cX10_all 44 = .ok (.aload_n 0, 1) := by decide +kernel
theorem dX10_all_45 : decode cX10_all 45 = .ok (.getfield 19, 3) := by decide +kernel
theorem dX10_all_48 : decode cX10_all 48 = .ok (.invokevirtual 102, 3) := by decide +kernel
theorem dX10_all_51 : decode cX10_all 51 = .ok (.invokevirtual 105, 3) := by decide +kernel
theorem dX10_all_54 : decode cX10_all 54 = .ok (.aload_n 0, 1) := by decide +kernel
theorem dX10_all_55 : decode cX10_all 55 = .ok (.getfield 44, 3) := by decide +kernel
theorem dX10_all_58 : decode cX10_all 58 = .ok (.aload_n 0, 1) := by decide +kernel
theorem dX10_all_59 : decode cX10_all 59 = .ok (.getfield 19, 3) := by decide +kernel
theorem dX10_all_62 : decode cX10_all 62 = .ok (.getfield 130, 3) := by decide +kernel
theorem dX10_all_65 : decode cX10_all 65 = .ok (.iload_n 2, 1) := by decide +kernel
theorem dX10_all_66 : decode cX10_all 66 = .ok (.iaload, 1) := by decide +kernel
theorem dX10_all_67 : decode cX10_all 67 = .ok (.aload_n 0, 1) := by decide +kernel
theorem dX10_all_68 : decode cX10_all 68 = .ok (.getfield 19, 3) := by decide +kernel
theorem dX10_all_71 : decode cX10_all 71 = .ok (.getfield 133, 3) := by decide +kernel
theorem dX10_all_74 : decode cX10_all 74 = .ok (.iload_n 2, 1) := by decide +kernel
theorem dX10_all_75 : decode cX10_all 75 = .ok (.iaload, 1) := by decide +kernel
theorem dX10_all_76 : decode cX10_all 76 = .ok (.aload_n 0, 1) := by decide +kernel
theorem dX10_all_77 : decode cX10_all 77 = .ok (.getfield 30, 3) := by decide +kernel
theorem dX10_all_80 : decode cX10_all 80 = .ok (.invokevirtual 166, 3) := by decide +kernel
theorem dX10_all_83 : decode cX10_all 83 = .ok (.aload_n 0, 1) := by decide +kernel
theorem dX10_all_84 : decode cX10_all 84 = .ok (.getfield 37, 3) := by decide +kernel
theorem dX10_all_87 : decode cX10_all 87 = .ok (.aload_n 0, 1) := by decide +kernel
theorem dX10_all_88 : decode cX10_all 88 = .ok (.getfield 19, 3) := by decide +kernel
theorem dX10_all_91 : decode cX10_all 91 = .ok (.getfield 130, 3) := by decide +kernel
theorem dX10_all_94 : decode cX10_all 94 = .ok (.iload_n 1, 1) := by decide +kernel
theorem dX10_all_95 : decode cX10_all 95 = .ok (.iaload, 1) := by decide +kernel
theorem dX10_all_96 : decode cX10_all 96 = .ok (.aload_n 0, 1) := by decide +kernel
theorem dX10_all_97 : decode cX10_all 97 = .ok (.getfield 19, 3) := by decide +kernel
theorem dX10_all_100 : decode cX10_all 100 = .ok (.getfield 133, 3) := by decide +kernel
theorem dX10_all_103 : decode cX10_all 103 = .ok (.iload_n 1, 1) := by decide +kernel
theorem dX10_all_104 : decode cX10_all 104 = .ok (.iaload, 1) := by decide +kernel
theorem dX10_all_105 : decode cX10_all 105 = .ok (.iconst 0, 1) := by decide +kernel
theorem dX10_all_106 : decode cX10_all 106 = .ok (.iconst 0, 1) := by decide +kernel
theorem dX10_all_107 : decode cX10_all 107 = .ok (.aload_n 0, 1) := by decide +kernel
theorem dX10_all_108 : decode cX10_all 108 = .ok (.getfield 30, 3) := by decide +kernel
theorem dX10_all_111 : decode cX10_all 111 = .ok (.invokevirtual 152, 3) := by decide +kernel
theorem dX10_all_114 : decode cX10_all 114 = .ok (.aload_n 0, 1) := by decide +kernel
theorem dX10_all_115 : decode cX10_all 115 = .ok (.getfield 51, 3) := by decide +kernel
theorem dX10_all_118 : decode cX10_all 118 = .ok (.aload_n 0, 1) := by decide +kernel
theorem dX10_all_119 : decode cX10_all 119 = .ok (.getfield 37, 3) := by decide +kernel
theorem dX10_all_122 : decode cX10_all 122 = .ok (.aload_n 0, 1) := by decide +kernel
theorem dX10_all_123 : decode cX10_all 123 = .ok (.getfield 44, 3) := by decide +kernel
theorem dX10_all_126 : decode cX10_all 126 = .ok (.aload_n 0, 1) := by decide +kernel
theorem dX10_all_127 : decode cX10_all 127 = .ok (.getfield 19, 3) := by decide +kernel
theorem dX10_all_130 : decode cX10_all 130 = .ok (.invokevirtual 170, 3) := by decide +kernel
theorem dX10_all_133 : decode cX10_all 133 = .ok (.invokevirtual 177, 3) := by decide +kernel
theorem dX10_all_136 : decode cX10_all 136 = .ok (.iload_n 3, 1) := by decide +kernel
theorem dX10_all_137 : decode cX10_all 137 = .ok (.ifCond .ne 11, 3) := by decide +kernel
theorem dX10_all_140 : decode cX10_all 140 = .ok (.aload_n 0, 1) := by decide +kernel
theorem dX10_all_141 : decode cX10_all 141 = .ok (.getfield 51, 3) := by decide +kernel
theorem dX10_all_144 : decode cX10_all 144 = .ok (.invokevirtual 181, 3) := by decide +kernel
theorem dX10_all_147 : decode cX10_all 147 = .ok (.ireturn, 1) := by decide +kernel
theorem dX10_all_148 : decode cX10_all 148 = .ok (.aload_n 0, 1) := by decide +kernel
theorem dX10_all_149 : decode cX10_all 149 = .ok (.getfield 51, 3) := by decide +kernel
theorem dX10_all_152 : decode cX10_all 152 = .ok (.invokevirtual 184, 3) := by decide +kernel
theorem dX10_all_155 : decode cX10_all 155 = .ok (.iload_n 3, 1) := by decide +kernel
theorem dX10_all_156 : decode cX10_all 156 = .ok (.lookupswitch 44 #[(1, 28), (2, 36)], 28) := by decide +kernel
theorem dX10_all_184 : decode cX10_all 184 = .ok (.aload_n 0, 1) := by decide +kernel
theorem dX10_all_185 : decode cX10_all 185 = .ok (.getfield 51, 3) := by decide +kernel
theorem dX10_all_188 : decode cX10_all 188 = .ok (.getfield 187, 3) := by decide +kernel
theorem dX10_all_191 : decode cX10_all 191 = .ok (.ireturn, 1) := by decide +kernel
theorem dX10_all_192 : decode cX10_all 192 = .ok (.aload_n 0, 1) := by decide +kernel
theorem dX10_all_193 : decode cX10_all 193 = .ok (.getfield 51, 3) := by decide +kernel
theorem dX10_all_196 : decode cX10_all 196 = .ok (.getfield 190, 3) := by decide +kernel
theorem dX10_all_199 : decode cX10_all 199 = .ok (.ireturn, 1) := by decide +kernel
theorem dX10_all_200 : decode cX10_all 200 = .ok (.aload_n 0, 1) := by decide +kernel
theorem dX10_all_201 : decode cX10_all 201 = .ok (.getfield 51, 3) := by decide +kernel
theorem dX10_all_204 : decode cX10_all 204 = .ok (.getfield 193, 3) := by decide +kernel
theorem dX10_all_207 : decode cX10_all 207 = .ok (.ireturn, 1) := by decide +kernel
theorem dX10_loops_0 : decode cX10_loops 0 = .ok (.aload_n 0, 1) := by decide +kernel
