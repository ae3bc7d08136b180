theorem dX11_loops_21 : decode cX11_loops 21 = .ok (.aload_n 0, 1) := by decide +kernel
theorem dX11_loops_22 : decode cX11_loops 22 = .ok (.invokevirtual 124, 3) := by decide +kernel
theorem dX11_loops_25 : decode cX11_loops 25 = .ok (.aload_n 0, 1) := by decide +kernel
theorem dX11_loops_26 : decode cX11_loops 26 = .ok (.iload_n 1, 1) := by decide +kernel
theorem dX11_loops_27 : decode cX11_loops 27 = .ok (.iload_n 2, 1) := by decide +kernel
theorem dX11_loops_28 : decode cX11_loops 28 = .ok (.iload_n 3, 1) := by decide +kernel
theorem dX11_loops_29 : decode cX11_loops 29 = .ok (.invokevirtual 177, 3) := by decide +kernel
theorem dX11_loops_32 : decode cX11_loops 32 = .ok (.iconst 0, 1) := by decide +kernel
theorem dX11_loops_33 : decode cX11_loops 33 = .ok (.istore 4, 2) := by decide +kernel
theorem dX11_loops_35 : decode cX11_loops 35 = .ok (.iload 4, 2) := by decide +kernel
theorem dX11_loops_37 : decode cX11_loops 37 = .ok (.bipush 20, 2) := by decide +kernel
theorem dX11_loops_39 : decode cX11_loops 39 = .ok (.if_icmp .gt 37, 3) := by decide +kernel
theorem dX11_loops_42 : decode cX11_loops 42 = .ok (.aload_n 0, 1) := by decide +kernel
theorem dX11_loops_43 : decode cX11_loops 43 = .ok (.iload 4, 2) := by decide +kernel
theorem dX11_loops_45 : decode cX11_loops 45 = .ok (.invokevirtual 180, 3) := by decide +kernel
theorem dX11_loops_48 : decode cX11_loops 48 = .ok (.aload_n 0, 1) := by decide +kernel
theorem dX11_loops_49 : decode cX11_loops 49 = .ok (.getfield 41, 3) := by decide +kernel
theorem dX11_loops_52 : decode cX11_loops 52 = .ok (.iload 4, 2) := by decide +kernel
theorem dX11_loops_54 : decode cX11_loops 54 = .ok (.aload_n 0, 1) := by decide +kernel
theorem dX11_loops_55 : decode cX11_loops 55 = .ok (.getfield 75, 3) := by decide +kernel
theorem dX11_loops_58 : decode cX11_loops 58 = .ok (.iastore, 1) := by decide +kernel
theorem dX11_loops_59 : decode cX11_loops 59 = .ok (.aload_n 0, 1) := by decide +kernel
theorem dX11_loops_60 : decode cX11_loops 60 = .ok (.getfield 44, 3) := by decide +kernel
theorem dX11_loops_63 : decode cX11_loops 63 = .ok (.iload 4, 2) := by decide +kernel
theorem dX11_loops_65 : decode cX11_loops 65 = .ok (.aload_n 0, 1) := by decide +kernel
theorem dX11_loops_66 : decode cX11_loops 66 = .ok (.getfield 79, 3) := by decide +kernel
theorem dX11_loops_69 : decode cX11_loops 69 = .ok (.iastore, 1) := by decide +kernel
theorem dX11_loops_70 : decode cX11_loops 70 = .ok (.iinc 4 1, 3) := by decide +kernel
theorem dX11_loops_73 : decode cX11_loops 73 = .ok (.goto (-38), 3) := by decide +kernel
theorem dX11_loops_76 : decode cX11_loops 76 = .ok (.iconst 0, 1) := by decide +kernel
theorem dX11_loops_77 : decode cX11_loops 77 = .ok (.istore 4, 2) := by decide +kernel
theorem dX11_loops_79 : decode cX11_loops 79 = .ok (.iconst 0, 1) := by decide +kernel
theorem dX11_loops_80 : decode cX11_loops 80 = .ok (.istore 5, 2) := by decide +kernel
theorem dX11_loops_82 : decode cX11_loops 82 = .ok (.iload 5, 2) := by decide +kernel
theorem dX11_loops_84 : decode cX11_loops 84 = .ok (.bipush 20, 2) := by decide +kernel
theorem dX11_loops_86 : decode cX11_loops 86 = .ok (.if_icmp .ge 51, 3) := by decide +kernel
theorem dX11_loops_89 : decode cX11_loops 89 = .ok (.iload 5, 2) := by decide +kernel
theorem dX11_loops_91 : decode cX11_loops 91 = .ok (.iconst 2, 1) := by decide +kernel
theorem dX11_loops_92 : decode cX11_loops 92 = .ok (.iadd, 1) := by decide +kernel
theorem dX11_loops_93 : decode cX11_loops 93 = .ok (.istore 6, 2) := by decide +kernel
theorem dX11_loops_95 : decode cX11_loops 95 = .ok (.iload 6, 2) := by decide +kernel
theorem dX11_loops_97 : decode cX11_loops 97 = .ok (.bipush 20, 2) := by decide +kernel
theorem dX11_loops_99 : decode cX11_loops 99 = .ok (.if_icmp .ge 32, 3) := by decide +kernel
theorem dX11_loops_102 : decode cX11_loops 102 = .ok (.iload 4, 2) := by decide +kernel
theorem dX11_loops_104 : decode cX11_loops 104 = .ok (.ifCond .ne 14, 3) := by decide +kernel
theorem dX11_loops_107 : decode cX11_loops 107 = .ok (.aload_n 0, 1) := by decide +kernel
theorem dX11_loops_108 : decode cX11_loops 108 = .ok (.iload 5, 2) := by decide +kernel
theorem dX11_loops_110 : decode cX11_loops 110 = .ok (.iload 6, 2) := by decide +kernel
theorem dX11_loops_112 : decode cX11_loops 112 = .ok (.invokevirtual 209, 3) := by decide +kernel
theorem dX11_loops_115 : decode cX11_loops 115 = .ok (.ifCond .eq 7, 3) := by decide +kernel
theorem dX11_loops_118 : decode cX11_loops 118 = .ok (.iconst 1, 1) := by decide +kernel
theorem dX11_loops_119 : decode cX11_loops 119 = .ok (.goto 4, 3) := by decide +kernel
theorem dX11_loops_122 : decode cX11_loops 122 = .ok (.iconst 0, 1) := by decide +kernel
theorem dX11_loops_123 : decode cX11_loops 123 = .ok (.istore 4, 2) := by decide +kernel
theorem dX11_loops_125 : decode cX11_loops 125 = .ok (.iinc 6 1, 3) := by decide +kernel
theorem dX11_loops_128 : decode cX11_loops 128 = .ok (.goto (-33), 3) := by decide +kernel
theorem dX11_loops_131 : decode cX11_loops 131 = .ok (.iinc 5 1, 3) := by decide +kernel
theorem dX11_loops_134 : decode cX11_loops 134 = .ok (.goto (-52), 3) := by decide +kernel
theorem dX11_loops_137 : decode cX11_loops 137 = .ok (.iload 4, 2) := by decide +kernel
theorem dX11_loops_139 : decode cX11_loops 139 = .ok (.ifCond .eq 7, 3) := by decide +kernel
theorem dX11_loops_142 : decode cX11_loops 142 = .ok (.iconst 1, 1) := by decide +kernel
theorem dX11_loops_143 : decode cX11_loops 143 = .ok (.goto 4, 3) := by decide +kernel
theorem dX11_loops_146 : decode cX11_loops 146 = .ok (.iconst 0, 1) := by decide +kernel
theorem dX11_loops_147 : decode cX11_loops 147 = .ok (.ireturn, 1) := by decide +kernel
theorem dX11_beginRoll_0 : decode cX11_beginRoll 0 = .ok (.aload_n 0, 1) := by decide +kernel
theorem dX11_beginRoll_1 : decode cX11_beginRoll 1 = .ok (.invokevirtual 124, 3) := by decide +kernel
theorem dX11_beginRoll_4 : decode cX11_beginRoll 4 = .ok (.aload_n 0, 1) := by decide +kernel
theorem dX11_beginRoll_5 : decode cX11_beginRoll 5 = .ok (.iload_n 1, 1) := by decide +kernel
theorem dX11_beginRoll_6 : decode cX11_beginRoll 6 = .ok (.iload_n 2, 1) := by decide +kernel
theorem dX11_beginRoll_7 : decode cX11_beginRoll 7 = .ok (.aload_n 0, 1) := by decide +kernel
theorem dX11_beginRoll_8 : decode cX11_beginRoll 8 = .ok (.iconst 0, 1) := by decide +kernel
theorem dX11_beginRoll_9 : decode cX11_beginRoll 9 = .ok (.invokevirtual 139, 3) := by decide +kernel
theorem dX11_beginRoll_12 : decode cX11_beginRoll 12 = .ok (.invokevirtual 135, 3) := by decide +kernel
theorem dX11_beginRoll_15 : decode cX11_beginRoll 15 = .ok (.aload_n 0, 1) := by decide +kernel
theorem dX11_beginRoll_16 : decode cX11_beginRoll 16 = .ok (.aload_n 0, 1) := by decide +kernel
theorem dX11_beginRoll_17 : decode cX11_beginRoll 17 = .ok (.getfield 75, 3) := by decide +kernel
theorem dX11_beginRoll_20 : decode cX11_beginRoll 20 = .ok (.putfield 212, 3) := by decide +kernel
theorem dX11_beginRoll_23 : decode cX11_beginRoll 23 = .ok (.aload_n 0, 1) := by decide +kernel
theorem dX11_beginRoll_24 : decode cX11_beginRoll 24 = .ok (.aload_n 0, 1) := by decide +kernel
theorem dX11_beginRoll_25 : decode cX11_beginRoll 25 = .ok (.getfield 79, 3) := by decide +kernel
theorem dX11_beginRoll_28 : decode cX11_beginRoll 28 = .ok (.putfield 215, 3) := by decide +kernel
theorem dX11_beginRoll_31 : decode cX11_beginRoll 31 = .ok (.aload_n 0, 1) := by decide +kernel
theorem dX11_beginRoll_32 : decode cX11_beginRoll 32 = .ok (.iload_n 1, 1) := by decide +kernel
theorem dX11_beginRoll_33 : decode cX11_beginRoll 33 = .ok (.iload_n 2, 1) := by decide +kernel
theorem dX11_beginRoll_34 : decode cX11_beginRoll 34 = .ok (.aload_n 0, 1) := by decide +kernel
theorem dX11_beginRoll_35 : decode cX11_beginRoll 35 = .ok (.iconst 1, 1) := by decide +kernel
theorem dX11_beginRoll_36 : decode cX11_beginRoll 36 = .ok (.invokevirtual 139, 3) := by decide +kernel
theorem dX11_beginRoll_39 : decode cX11_beginRoll 39 = .ok (.invokevirtual 135, 3) := by decide +kernel
theorem dX11_beginRoll_42 : decode cX11_beginRoll 42 = .ok (.aload_n 0, 1) := by decide +kernel
theorem dX11_beginRoll_43 : decode cX11_beginRoll 43 = .ok (.aload_n 0, 1) := by decide +kernel
theorem dX11_beginRoll_44 : decode cX11_beginRoll 44 = .ok (.getfield 75, 3) := by decide +kernel
theorem dX11_beginRoll_47 : decode cX11_beginRoll 47 = .ok (.aload_n 0, 1) := by decide +kernel
theorem dX11_beginRoll_48 : decode cX11_beginRoll 48 = .ok (.getfield 212, 3) := by decide +kernel
theorem dX11_beginRoll_51 : decode cX11_beginRoll 51 = .ok (.isub, 1) := by decide +kernel
theorem dX11_beginRoll_52 : decode cX11_beginRoll 52 = .ok (.putfield 159, 3) := by decide +kernel
theorem dX11_beginRoll_55 : decode cX11_beginRoll 55 = .ok (.aload_n 0, 1) := by decide +kernel
theorem dX11_beginRoll_56 : decode cX11_beginRoll 56 = .ok (.aload_n 0, 1) := by decide +kernel
theorem dX11_beginRoll_57 : decode cX11_beginRoll 57 = .ok (.getfield 79, 3) := by decide +kernel
theorem dX11_beginRoll_60 : decode cX11_beginRoll 60 = .ok (.aload_n 0, 1) := by decide +kernel
theorem dX11_beginRoll_61 : decode cX11_beginRoll 61 = .ok (.getfield 215, 3) := by decide +kernel
theorem dX11_beginRoll_64 : decode cX11_beginRoll 64 = .ok (.isub, 1) := by decide +kernel
theorem dX11_beginRoll_65 : decode cX11_beginRoll 65 = .ok (.putfield 162, 3) := by decide +kernel
theorem dX11_beginRoll_68 : decode cX11_beginRoll 68 = .ok (.aload_n 0, 1) := by decide +kernel
theorem dX11_beginRoll_69 : decode cX11_beginRoll 69 = .ok (.iload_n 3, 1) := by decide +kernel
theorem dX11_beginRoll_70 : decode cX11_beginRoll 70 = .ok (.iconst 0, 1) := by decide +kernel
theorem dX11_beginRoll_71 : decode cX11_beginRoll 71 = .ok (.iload 4, 2) := by decide +kernel
theorem dX11_beginRoll_73 : decode cX11_beginRoll 73 = .ok (.invokevirtual 135, 3) := by decide +kernel
theorem dX11_beginRoll_76 : decode cX11_beginRoll 76 = .ok (.aload_n 0, 1) := by decide +kernel
theorem dX11_beginRoll_77 : decode cX11_beginRoll 77 = .ok (.dup, 1) := by decide +kernel
theorem dX11_beginRoll_78 : decode cX11_beginRoll 78 = .ok (.getfield 159, 3) := by decide +kernel
theorem dX11_beginRoll_81 : decode cX11_beginRoll 81 = .ok (.aload_n 0, 1) := by decide +kernel
theorem dX11_beginRoll_82 : decode cX11_beginRoll 82 = .ok (.getfield 75, 3) := by decide +kernel
theorem dX11_beginRoll_85 : decode cX11_beginRoll 85 = .ok (.iadd, 1) := by decide +kernel
theorem dX11_beginRoll_86 : decode cX11_beginRoll 86 = .ok (.putfield 159, 3) := by decide +kernel
theorem dX11_beginRoll_89 : decode cX11_beginRoll 89 = .ok (.aload_n 0, 1) := by decide +kernel
theorem dX11_beginRoll_90 : decode cX11_beginRoll 90 = .ok (.dup, 1) := by decide +kernel
theorem dX11_beginRoll_91 : decode cX11_beginRoll 91 = .ok (.getfield 162, 3) := by decide +kernel
theorem dX11_beginRoll_94 : decode cX11_beginRoll 94 = .ok (.aload_n 0, 1) := by decide +kernel
theorem dX11_beginRoll_95 : decode cX11_beginRoll 95 = .ok (.getfield 79, 3) := by decide +kernel
theorem dX11_beginRoll_98 : decode cX11_beginRoll 98 = .ok (.iadd, 1) := by decide +kernel
theorem dX11_beginRoll_99 : decode cX11_beginRoll 99 = .ok (.putfield 162, 3) := by decide +kernel
theorem dX11_beginRoll_102 : decode cX11_beginRoll 102 = .ok (.aload_n 0, 1) := by decide +kernel
theorem dX11_beginRoll_103 : decode cX11_beginRoll 103 = .ok (.iconst 0, 1) := by decide +kernel
theorem dX11_beginRoll_104 : decode cX11_beginRoll 104 = .ok (.putfield 218, 3) := by decide +kernel
theorem dX11_beginRoll_107 : decode cX11_beginRoll 107 = .ok (.return_, 1) := by decide +kernel
theorem dX11_roll_0 : decode cX11_roll 0 = .ok (.aload_n 0, 1) := by decide +kernel
theorem dX11_roll_1 : decode cX11_roll 1 = .ok (.aload_n 0, 1) := by decide +kernel
theorem dX11_roll_2 : decode cX11_roll 2 = .ok (.getfield 212, 3) := by decide +kernel
theorem dX11_roll_5 : decode cX11_roll 5 = .ok (.aload_n 0, 1) := by decide +kernel
theorem dX11_roll_6 : decode cX11_roll 6 = .ok (.getfield 215, 3) := by decide +kernel
theorem dX11_roll_9 : decode cX11_roll 9 = .ok (.bipush 24, 2) := by decide +kernel
theorem dX11_roll_11 : decode cX11_roll 11 = .ok (.aload_n 0, 1) := by decide +kernel
theorem dX11_roll_12 : decode cX11_roll 12 = .ok (.aload_n 0, 1) := by decide +kernel
theorem dX11_roll_13 : decode cX11_roll 13 = .ok (.getfield 218, 3) := by decide +kernel
theorem dX11_roll_16 : decode cX11_roll 16 = .ok (.invokevirtual 139, 3) := by decide +kernel
theorem dX11_roll_19 : decode cX11_roll 19 = .ok (.isub, 1) := by decide +kernel
theorem dX11_roll_20 : decode cX11_roll 20 = .ok (.bipush 24, 2) := by decide +kernel
theorem dX11_roll_22 : decode cX11_roll 22 = .ok (.irem, 1) := by decide +kernel
theorem dX11_roll_23 : decode cX11_roll 23 = .ok (.invokevirtual 135, 3) := by decide +kernel
theorem dX11_roll_26 : decode cX11_roll 26 = .ok (.aload_n 0, 1) := by decide +kernel
theorem dX11_roll_27 : decode cX11_roll 27 = .ok (.getfield 75, 3) := by decide +kernel
theorem dX11_roll_30 : decode cX11_roll 30 = .ok (.istore_n 1, 1) := by decide +kernel
theorem dX11_roll_31 : decode cX11_roll 31 = .ok (.aload_n 0, 1) := by decide +kernel
theorem dX11_roll_32 : decode cX11_roll 32 = .ok (.getfield 79, 3) := by decide +kernel
theorem dX11_roll_35 : decode cX11_roll 35 = .ok (.istore_n 2, 1) := by decide +kernel
theorem dX11_roll_36 : decode cX11_roll 36 = .ok (.aload_n 0, 1) := by decide +kernel
theorem dX11_roll_37 : decode cX11_roll 37 = .ok (.iload_n 1, 1) := by decide +kernel
theorem dX11_roll_38 : decode cX11_roll 38 = .ok (.iload_n 2, 1) := by decide +kernel
theorem dX11_roll_39 : decode cX11_roll 39 = .ok (.aload_n 0, 1) := by decide +kernel
theorem dX11_roll_40 : decode cX11_roll 40 = .ok (.aload_n 0, 1) := by decide +kernel
theorem dX11_roll_41 : decode cX11_roll 41 = .ok (.getfield 218, 3) := by decide +kernel
theorem dX11_roll_44 : decode cX11_roll 44 = .ok (.invokevirtual 139, 3) := by decide +kernel
theorem dX11_roll_47 : decode cX11_roll 47 = .ok (.invokevirtual 135, 3) := by decide +kernel
theorem dX11_roll_50 : decode cX11_roll 50 = .ok (.aload_n 0, 1) := by decide +kernel
theorem dX11_roll_51 : decode cX11_roll 51 = .ok (.getfield 75, 3) := by decide +kernel
theorem dX11_roll_54 : decode cX11_roll 54 = .ok (.istore_n 3, 1) := by decide +kernel
theorem dX11_roll_55 : decode cX11_roll 55 = .ok (.aload_n 0, 1) := by decide +kernel
theorem dX11_roll_56 : decode cX11_roll 56 = .ok (.getfield 79, 3) := by decide +kernel
theorem dX11_roll_59 : decode cX11_roll 59 = .ok (.istore 4, 2) := by decide +kernel
theorem dX11_roll_61 : decode cX11_roll 61 = .ok (.aload_n 0, 1) := by decide +kernel
theorem dX11_roll_62 : decode cX11_roll 62 = .ok (.iload_n 1, 1) := by decide +kernel
theorem dX11_roll_63 : decode cX11_roll 63 = .ok (.iload_n 2, 1) := by decide +kernel
theorem dX11_roll_64 : decode cX11_roll 64 = .ok (.aload_n 0, 1) := by decide +kernel
theorem dX11_roll_65 : decode cX11_roll 65 = .ok (.aload_n 0, 1) := by decide +kernel
theorem dX11_roll_66 : decode cX11_roll 66 = .ok (.getfield 218, 3) := by decide +kernel
theorem dX11_roll_69 : decode cX11_roll 69 = .ok (.iconst 1, 1) := by decide +kernel
theorem dX11_roll_70 : decode cX11_roll 70 = .ok (.iadd, 1) := by decide +kernel
theorem dX11_roll_71 : decode cX11_roll 71 = .ok (.invokevirtual 139, 3) := by decide +kernel
theorem dX11_roll_74 : decode cX11_roll 74 = .ok (.invokevirtual 135, 3) := by decide +kernel
theorem dX11_roll_77 : decode cX11_roll 77 = .ok (.aload_n 0, 1) := by decide +kernel
theorem dX11_roll_78 : decode cX11_roll 78 = .ok (.dup, 1) := by decide +kernel
theorem dX11_roll_79 : decode cX11_roll 79 = .ok (.getfield 159, 3) := by decide +kernel
theorem dX11_roll_82 : decode cX11_roll 82 = .ok (.aload_n 0, 1) := by decide +kernel
theorem dX11_roll_83 : decode cX11_roll 83 = .ok (.getfield 75, 3) := by decide +kernel
theorem dX11_roll_86 : decode cX11_roll 86 = .ok (.iload_n 3, 1) := by decide +kernel
theorem dX11_roll_87 : decode cX11_roll 87 = .ok (.isub, 1) := by decide +kernel
theorem dX11_roll_88 : decode cX11_roll 88 = .ok (.aload_n 0, 1) := by decide +kernel
theorem dX11_roll_89 : decode cX11_roll 89 = .ok (.getfield 159, 3) := by decide +kernel
theorem dX11_roll_92 : decode cX11_roll 92 = .ok (.isub, 1) := by decide +kernel
theorem dX11_roll_93 : decode cX11_roll 93 = .ok (.aload_n 0, 1) := by decide +kernel
theorem dX11_roll_94 : decode cX11_roll 94 = .ok (.getfield 13, 3) := by decide +kernel
theorem dX11_roll_97 : decode cX11_roll 97 = .ok (.iconst 3, 1) := by decide +kernel
theorem dX11_roll_98 : decode cX11_roll 98 = .ok (.iaload, 1) := by decide +kernel
theorem dX11_roll_99 : decode cX11_roll 99 = .ok (.imul, 1) := by decide +kernel
theorem dX11_roll_100 : decode cX11_roll 100 = .ok (.bipush 100, 2) := by decide +kernel
theorem dX11_roll_102 : decode cX11_roll 102 = .ok (.idiv, 1) := by decide +kernel
theorem dX11_roll_103 : decode cX11_roll 103 = .ok (.iadd, 1) := by decide +kernel
theorem dX11_roll_104 : decode cX11_roll 104 = .ok (.putfield 159, 3) := by decide +kernel
theorem dX11_roll_107 : decode cX11_roll 107 = .ok (.aload_n 0, 1) := by decide +kernel
theorem dX11_roll_108 : decode cX11_roll 108 = .ok (.dup, 1) := by decide +kernel
theorem dX11_roll_109 : decode cX11_roll 109 = .ok (.getfield 162, 3) := by decide +kernel
theorem dX11_roll_112 : decode cX11_roll 112 = .ok (.aload_n 0, 1) := by decide +kernel
theorem dX11_roll_113 : decode cX11_roll 113 = .ok (.getfield 79, 3) := by decide +kernel
theorem dX11_roll_116 : decode cX11_roll 116 = .ok (.iload 4, 2) := by decide +kernel
theorem dX11_roll_118 : decode cX11_roll 118 = .ok (.isub, 1) := by decide +kernel
theorem dX11_roll_119 : decode cX11_roll 119 = .ok (.aload_n 0, 1) := by decide +kernel
theorem dX11_roll_120 : decode cX11_roll 120 = .ok (.getfield 162, 3) := by decide +kernel
theorem dX11_roll_123 : decode cX11_roll 123 = .ok (.isub, 1) := by decide +kernel
theorem dX11_roll_124 : decode cX11_roll 124 = .ok (.aload_n 0, 1) := by decide +kernel
theorem dX11_roll_125 : decode cX11_roll 125 = .ok (.getfield 13, 3) := by decide +kernel
theorem dX11_roll_128 : decode cX11_roll 128 = .ok (.iconst 3, 1) := by decide +kernel
theorem dX11_roll_129 : decode cX11_roll 129 = .ok (.iaload, 1) := by decide +kernel
theorem dX11_roll_130 : decode cX11_roll 130 = .ok (.imul, 1) := by decide +kernel
theorem dX11_roll_131 : decode cX11_roll 131 = .ok (.bipush 100, 2) := by decide +kernel
theorem dX11_roll_133 : decode cX11_roll 133 = .ok (.idiv, 1) := by decide +kernel
theorem dX11_roll_134 : decode cX11_roll 134 = .ok (.iadd, 1) := by decide +kernel
theorem dX11_roll_135 : decode cX11_roll 135 = .ok (.putfield 162, 3) := by decide +kernel
theorem dX11_roll_138 : decode cX11_roll 138 = .ok (.aload_n 0, 1) := by decide +kernel
theorem dX11_roll_139 : decode cX11_roll 139 = .ok (.dup, 1) := by decide +kernel
theorem dX11_roll_140 : decode cX11_roll 140 = .ok (.getfield 212, 3) := by decide +kernel
theorem dX11_roll_143 : decode cX11_roll 143 = .ok (.aload_n 0, 1) := by decide +kernel
theorem dX11_roll_144 : decode cX11_roll 144 = .ok (.getfield 159, 3) := by decide +kernel
theorem dX11_roll_147 : decode cX11_roll 147 = .ok (.iadd, 1) := by decide +kernel
theorem dX11_roll_148 : decode cX11_roll 148 = .ok (.putfield 212, 3) := by decide +kernel
theorem dX11_roll_151 : decode cX11_roll 151 = .ok (.aload_n 0, 1) := by decide +kernel
theorem dX11_roll_152 : decode cX11_roll 152 = .ok (.dup, 1) := by decide +kernel
theorem dX11_roll_153 : decode cX11_roll 153 = .ok (.getfield 215, 3) := by decide +kernel
theorem dX11_roll_156 : decode cX11_roll 156 = .ok (.aload_n 0, 1) := by decide +kernel
theorem dX11_roll_157 : decode cX11_roll 157 = .ok (.getfield 162, 3) := by decide +kernel
theorem dX11_roll_160 : decode cX11_roll 160 = .ok (.iadd, 1) := by decide +kernel
theorem dX11_roll_161 : decode cX11_roll 161 = .ok (.putfield 215, 3) := by decide +kernel
theorem dX11_roll_164 : decode cX11_roll 164 = .ok (.aload_n 0, 1) := by decide +kernel
theorem dX11_roll_165 : decode cX11_roll 165 = .ok (.dup, 1) := by decide +kernel
theorem dX11_roll_166 : decode cX11_roll 166 = .ok (.getfield 218, 3) := by decide +kernel
theorem dX11_roll_169 : decode cX11_roll 169 = .ok (.iconst 1, 1) := by decide +kernel
theorem dX11_roll_170 : decode cX11_roll 170 = .ok (.iadd, 1) := by decide +kernel
theorem dX11_roll_171 : decode cX11_roll 171 = .ok (.putfield 218, 3) := by decide +kernel
theorem dX11_roll_174 : decode cX11_roll 174 = .ok (.return_, 1) := by decide +kernel
theorem dX11_isPlace_0 : decode cX11_isPlace 0 = .ok (.iload_n 0, 1) := by decide +kernel
theorem dX11_isPlace_1 : decode cX11_isPlace 1 = .ok (.i2l, 1) := by decide +kernel
theorem dX11_isPlace_2 : decode cX11_isPlace 2 = .ok (.iload_n 2, 1) := by decide +kernel
theorem dX11_isPlace_3 : decode cX11_isPlace 3 = .ok (.ineg, 1) := by decide +kernel
theorem dX11_isPlace_4 : decode cX11_isPlace 4 = .ok (.i2l, 1) := by decide +kernel
theorem dX11_isPlace_5 : decode cX11_isPlace 5 = .ok (.iload_n 2, 1) := by decide +kernel
theorem dX11_isPlace_6 : decode cX11_isPlace 6 = .ok (.i2l, 1) := by decide +kernel
theorem dX11_isPlace_7 : decode cX11_isPlace 7 = .ok (.invokestatic 67, 3) := by decide +kernel
theorem dX11_isPlace_10 : decode cX11_isPlace 10 = .ok (.ifCond .eq 20, 3) := by decide +kernel
theorem dX11_isPlace_13 : decode cX11_isPlace 13 = .ok (.iload_n 1, 1) := by decide +kernel
theorem dX11_isPlace_14 : decode cX11_isPlace 14 = .ok (.i2l, 1) := by decide +kernel
theorem dX11_isPlace_15 : decode cX11_isPlace 15 = .ok (.iload_n 2, 1) := by decide +kernel
theorem dX11_isPlace_16 : decode cX11_isPlace 16 = .ok (.ineg, 1) := by decide +kernel
theorem dX11_isPlace_17 : decode cX11_isPlace 17 = .ok (.i2l, 1) := by decide +kernel
theorem dX11_isPlace_18 : decode cX11_isPlace 18 = .ok (.iload_n 2, 1) := by decide +kernel
theorem dX11_isPlace_19 : decode cX11_isPlace 19 = .ok (.i2l, 1) := by decide +kernel
theorem dX11_isPlace_20 : decode cX11_isPlace 20 = .ok (.invokestatic 67, 3) := by decide +kernel
theorem dX11_isPlace_23 : decode cX11_isPlace 23 = .ok (.ifCond .eq 7, 3) := by decide +kernel
theorem dX11_isPlace_26 : decode cX11_isPlace 26 = .ok (.iconst 1, 1) := by decide +kernel
theorem dX11_isPlace_27 : decode cX11_isPlace 27 = .ok (.goto 4, 3) := by decide +kernel
theorem dX11_isPlace_30 : decode cX11_isPlace 30 = .ok (.iconst 0, 1) := by decide +kernel
theorem dX11_isPlace_31 : decode cX11_isPlace 31 = .ok (.ireturn, 1) := by decide +kernel
theorem dX11_rolled_0 : decode cX11_rolled 0 = .ok (.iload_n 1, 1) := by decide +kernel
theorem dX11_rolled_1 : decode cX11_rolled 1 = .ok (.iload_n 2, 1) := by decide +kernel
theorem dX11_rolled_2 : decode cX11_rolled 2 = .ok (.sipush 1000, 3) := by decide +kernel
theorem dX11_rolled_5 : decode cX11_rolled 5 = .ok (.invokestatic 221, 3) := by decide +kernel
theorem dX11_rolled_8 : decode cX11_rolled 8 = .ok (.ifCond .eq 28, 3) := by decide +kernel
theorem dX11_rolled_11 : decode cX11_rolled 11 = .ok (.iload_n 3, 1) := by decide +kernel
theorem dX11_rolled_12 : decode cX11_rolled 12 = .ok (.iload 4, 2) := by decide +kernel
theorem dX11_rolled_14 : decode cX11_rolled 14 = .ok (.invokestatic 173, 3) := by decide +kernel
theorem dX11_rolled_17 : decode cX11_rolled 17 = .ok (.ifCond .eq 19, 3) := by decide +kernel
theorem dX11_rolled_20 : decode cX11_rolled 20 = .ok (.iload 5, 2) := by decide +kernel
theorem dX11_rolled_22 : decode cX11_rolled 22 = .ok (.invokestatic 118, 3) := by decide +kernel
theorem dX11_rolled_25 : decode cX11_rolled 25 = .ok (.ifCond .eq 11, 3) := by decide +kernel
theorem dX11_rolled_28 : decode cX11_rolled 28 = .ok (.iload 6, 2) := by decide +kernel
theorem dX11_rolled_30 : decode cX11_rolled 30 = .ok (.invokestatic 121, 3) := by decide +kernel
theorem dX11_rolled_33 : decode cX11_rolled 33 = .ok (.ifCond .ne 6, 3) := by decide +kernel
theorem dX11_rolled_36 : decode cX11_rolled 36 = .ok (.ldc 148, 2) := by decide +kernel
theorem dX11_rolled_38 : decode cX11_rolled 38 = .ok (.ireturn, 1) := by decide +kernel
theorem dX11_rolled_39 : decode cX11_rolled 39 = .ok (.aload_n 0, 1) := by decide +kernel
theorem dX11_rolled_40 : decode cX11_rolled 40 = .ok (.iload_n 1, 1) := by decide +kernel
theorem dX11_rolled_41 : decode cX11_rolled 41 = .ok (.iload_n 2, 1) := by decide +kernel
theorem dX11_rolled_42 : decode cX11_rolled 42 = .ok (.iload_n 3, 1) := by decide +kernel
theorem dX11_rolled_43 : decode cX11_rolled 43 = .ok (.iload 4, 2) := by decide +kernel
theorem dX11_rolled_45 : decode cX11_rolled 45 = .ok (.invokevirtual 224, 3) := by decide +kernel
theorem dX11_rolled_48 : decode cX11_rolled 48 = .ok (.aload_n 0, 1) := by decide +kernel
theorem dX11_rolled_49 : decode cX11_rolled 49 = .ok (.getfield 218, 3) := by decide +kernel
theorem dX11_rolled_52 : decode cX11_rolled 52 = .ok (.iload 5, 2) := by decide +kernel
theorem dX11_rolled_54 : decode cX11_rolled 54 = .ok (.if_icmp .ge 10, 3) := by decide +kernel
theorem dX11_rolled_57 : decode cX11_rolled 57 = .ok (.aload_n 0, 1) := by decide +kernel
theorem dX11_rolled_58 : decode cX11_rolled 58 = .ok (.invokevirtual 228, 3) := by decide +kernel
theorem dX11_rolled_61 : decode cX11_rolled 61 = .ok (.goto (-13), 3) := by decide +kernel
theorem dX11_rolled_64 : decode cX11_rolled 64 = .ok (.iload 6, 2) := by decide +kernel
theorem dX11_rolled_66 : decode cX11_rolled 66 = .ok (.ifCond .ne 10, 3) := by decide +kernel
theorem dX11_rolled_69 : decode cX11_rolled 69 = .ok (.aload_n 0, 1) := by decide +kernel
theorem dX11_rolled_70 : decode cX11_rolled 70 = .ok (.getfield 212, 3) := by decide +kernel
theorem dX11_rolled_73 : decode cX11_rolled 73 = .ok (.goto 7, 3) := by decide +kernel
theorem dX11_rolled_76 : decode cX11_rolled 76 = .ok (.aload_n 0, 1) := by decide +kernel
theorem dX11_rolled_77 : decode cX11_rolled 77 = .ok (.getfield 215, 3) := by decide +kernel
theorem dX11_rolled_80 : decode cX11_rolled 80 = .ok (.ireturn, 1) := by decide +kernel
theorem dX11_isOff_0 : decode cX11_isOff 0 = .ok (.aload_n 0, 1) := by decide +kernel
theorem dX11_isOff_1 : decode cX11_isOff 1 = .ok (.getfield 212, 3) := by decide +kernel
theorem dX11_isOff_4 : decode cX11_isOff 4 = .ok (.i2l, 1) := by decide +kernel
theorem dX11_isOff_5 : decode cX11_isOff 5 = .ok (.aload_n 0, 1) := by decide +kernel
theorem dX11_isOff_6 : decode cX11_isOff 6 = .ok (.getfield 212, 3) := by decide +kernel
theorem dX11_isOff_9 : decode cX11_isOff 9 = .ok (.i2l, 1) := by decide +kernel
theorem dX11_isOff_10 : decode cX11_isOff 10 = .ok (.lmul, 1) := by decide +kernel
theorem dX11_isOff_11 : decode cX11_isOff 11 = .ok (.aload_n 0, 1) := by decide +kernel
theorem dX11_isOff_12 : decode cX11_isOff 12 = .ok (.getfield 215, 3) := by decide +kernel
theorem dX11_isOff_15 : decode cX11_isOff 15 = .ok (.i2l, 1) := by decide +kernel
theorem dX11_isOff_16 : decode cX11_isOff 16 = .ok (.aload_n 0, 1) := by decide +kernel
theorem dX11_isOff_17 : decode cX11_isOff 17 = .ok (.getfield 215, 3) := by decide +kernel
theorem dX11_isOff_20 : decode cX11_isOff 20 = .ok (.i2l, 1) := by decide +kernel
theorem dX11_isOff_21 : decode cX11_isOff 21 = .ok (.lmul, 1) := by decide +kernel
theorem dX11_isOff_22 : decode cX11_isOff 22 = .ok (.ladd, 1) := by decide +kernel
theorem dX11_isOff_23 : decode cX11_isOff 23 = .ok (.aload_n 0, 1) := by decide +kernel
theorem dX11_isOff_24 : decode cX11_isOff 24 = .ok (.getfield 13, 3) := by decide +kernel
theorem dX11_isOff_27 : decode cX11_isOff 27 = .ok (.iconst 4, 1) := by decide +kernel
theorem dX11_isOff_28 : decode cX11_isOff 28 = .ok (.iaload, 1) := by decide +kernel
theorem dX11_isOff_29 : decode cX11_isOff 29 = .ok (.aload_n 0, 1) := by decide +kernel
theorem dX11_isOff_30 : decode cX11_isOff 30 = .ok (.getfield 13, 3) := by decide +kernel
theorem dX11_isOff_33 : decode cX11_isOff 33 = .ok (.iconst 4, 1) := by decide +kernel
theorem dX11_isOff_34 : decode cX11_isOff 34 = .ok (.iaload, 1) := by decide +kernel
theorem dX11_isOff_35 : decode cX11_isOff 35 = .ok (.imul, 1) := by decide +kernel
theorem dX11_isOff_36 : decode cX11_isOff 36 = .ok (.i2l, 1) := by decide +kernel
theorem dX11_isOff_37 : decode cX11_isOff 37 = .ok (.lcmp, 1) := by decide +kernel
theorem dX11_isOff_38 : decode cX11_isOff 38 = .ok (.ifCond .le 7, 3) := by decide +kernel
theorem dX11_isOff_41 : decode cX11_isOff 41 = .ok (.iconst 1, 1) := by decide +kernel
theorem dX11_isOff_42 : decode cX11_isOff 42 = .ok (.goto 4, 3) := by decide +kernel
theorem dX11_isOff_45 : decode cX11_isOff 45 = .ok (.iconst 0, 1) := by decide +kernel
theorem dX11_isOff_46 : decode cX11_isOff 46 = .ok (.ireturn, 1) := by decide +kernel
theorem dX11_off_0 : decode cX11_off 0 = .ok (.iload_n 1, 1) := by decide +kernel
theorem dX11_off_1 : decode cX11_off 1 = .ok (.iload_n 2, 1) := by decide +kernel
theorem dX11_off_2 : decode cX11_off 2 = .ok (.sipush 1000, 3) := by decide +kernel
theorem dX11_off_5 : decode cX11_off 5 = .ok (.invokestatic 221, 3) := by decide +kernel
theorem dX11_off_8 : decode cX11_off 8 = .ok (.ifCond .eq 12, 3) := by decide +kernel
theorem dX11_off_11 : decode cX11_off 11 = .ok (.iload_n 3, 1) := by decide +kernel
theorem dX11_off_12 : decode cX11_off 12 = .ok (.iload 4, 2) := by decide +kernel
theorem dX11_off_14 : decode cX11_off 14 = .ok (.invokestatic 173, 3) := by decide +kernel
theorem dX11_off_17 : decode cX11_off 17 = .ok (.ifCond .ne 6, 3) := by decide +kernel
theorem dX11_off_20 : decode cX11_off 20 = .ok (.bipush (-2), 2) := by decide +kernel
theorem dX11_off_22 : decode cX11_off 22 = .ok (.ireturn, 1) := by decide +kernel
theorem dX11_off_23 : decode cX11_off 23 = .ok (.aload_n 0, 1) := by decide +kernel
theorem dX11_off_24 : decode cX11_off 24 = .ok (.iload_n 1, 1) := by decide +kernel
theorem dX11_off_25 : decode cX11_off 25 = .ok (.iload_n 2, 1) := by decide +kernel
theorem dX11_off_26 : decode cX11_off 26 = .ok (.iload_n 3, 1) := by decide +kernel
theorem dX11_off_27 : decode cX11_off 27 = .ok (.iload 4, 2) := by decide +kernel
theorem dX11_off_29 : decode cX11_off 29 = .ok (.invokevirtual 224, 3) := by decide +kernel
theorem dX11_off_32 : decode cX11_off 32 = .ok (.aload_n 0, 1) := by decide +kernel
theorem dX11_off_33 : decode cX11_off 33 = .ok (.invokevirtual 231, 3) := by decide +kernel
theorem dX11_off_36 : decode cX11_off 36 = .ok (.ifCond .ne 19, 3) := by decide +kernel
theorem dX11_off_39 : decode cX11_off 39 = .ok (.aload_n 0, 1) := by decide +kernel
theorem dX11_off_40 : decode cX11_off 40 = .ok (.getfield 218, 3) := by decide +kernel
theorem dX11_off_43 : decode cX11_off 43 = .ok (.bipush 60, 2) := by decide +kernel
theorem dX11_off_45 : decode cX11_off 45 = .ok (.if_icmp .ge 10, 3) := by decide +kernel
theorem dX11_off_48 : decode cX11_off 48 = .ok (.aload_n 0, 1) := by decide +kernel
theorem dX11_off_49 : decode cX11_off 49 = .ok (.invokevirtual 228, 3) := by decide +kernel
theorem dX11_off_52 : decode cX11_off 52 = .ok (.goto (-20), 3) := by decide +kernel
theorem dX11_off_55 : decode cX11_off 55 = .ok (.aload_n 0, 1) := by decide +kernel
theorem dX11_off_56 : decode cX11_off 56 = .ok (.invokevirtual 231, 3) := by decide +kernel
theorem dX11_off_59 : decode cX11_off 59 = .ok (.ifCond .eq 10, 3) := by decide +kernel
theorem dX11_off_62 : decode cX11_off 62 = .ok (.aload_n 0, 1) := by decide +kernel
theorem dX11_off_63 : decode cX11_off 63 = .ok (.getfield 218, 3) := by decide +kernel
theorem dX11_off_66 : decode cX11_off 66 = .ok (.goto 5, 3) := by decide +kernel
theorem dX11_off_69 : decode cX11_off 69 = .ok (.bipush (-6), 2) := by decide +kernel
theorem dX11_off_71 : decode cX11_off 71 = .ok (.ireturn, 1) := by decide +kernel
theorem dX11_leansOf_0 : decode cX11_leansOf 0 = .ok (.iload_n 1, 1) := by decide +kernel
theorem dX11_leansOf_1 : decode cX11_leansOf 1 = .ok (.aload_n 0, 1) := by decide +kernel
theorem dX11_leansOf_2 : decode cX11_leansOf 2 = .ok (.getfield 13, 3) := by decide +kernel
theorem dX11_leansOf_5 : decode cX11_leansOf 5 = .ok (.iconst 0, 1) := by decide +kernel
theorem dX11_leansOf_6 : decode cX11_leansOf 6 = .ok (.iaload, 1) := by decide +kernel
theorem dX11_leansOf_7 : decode cX11_leansOf 7 = .ok (.imul, 1) := by decide +kernel
theorem dX11_leansOf_8 : decode cX11_leansOf 8 = .ok (.aload_n 0, 1) := by decide +kernel
theorem dX11_leansOf_9 : decode cX11_leansOf 9 = .ok (.getfield 13, 3) := by decide +kernel
theorem dX11_leansOf_12 : decode cX11_leansOf 12 = .ok (.iconst 0, 1) := by decide +kernel
theorem dX11_leansOf_13 : decode cX11_leansOf 13 = .ok (.iaload, 1) := by decide +kernel
theorem dX11_leansOf_14 : decode cX11_leansOf 14 = .ok (.imul, 1) := by decide +kernel
theorem dX11_leansOf_15 : decode cX11_leansOf 15 = .ok (.sipush 1000, 3) := by decide +kernel
theorem dX11_leansOf_18 : decode cX11_leansOf 18 = .ok (.idiv, 1) := by decide +kernel
theorem dX11_leansOf_19 : decode cX11_leansOf 19 = .ok (.ireturn, 1) := by decide +kernel
theorem dX11_leans_0 : decode cX11_leans 0 = .ok (.iload_n 1, 1) := by decide +kernel
theorem dX11_leans_1 : decode cX11_leans 1 = .ok (.i2l, 1) := by decide +kernel
theorem dX11_leans_2 : decode cX11_leans 2 = .ok (.lconst 0, 1) := by decide +kernel
theorem dX11_leans_3 : decode cX11_leans 3 = .ok (.ldc2_w 127, 3) := by decide +kernel
theorem dX11_leans_6 : decode cX11_leans 6 = .ok (.invokestatic 67, 3) := by decide +kernel
theorem dX11_leans_9 : decode cX11_leans 9 = .ok (.ifCond .eq 11, 3) := by decide +kernel
theorem dX11_leans_12 : decode cX11_leans 12 = .ok (.aload_n 0, 1) := by decide +kernel
theorem dX11_leans_13 : decode cX11_leans 13 = .ok (.iload_n 1, 1) := by decide +kernel
theorem dX11_leans_14 : decode cX11_leans 14 = .ok (.invokevirtual 235, 3) := by decide +kernel
theorem dX11_leans_17 : decode cX11_leans 17 = .ok (.goto 5, 3) := by decide +kernel
theorem dX11_leans_20 : decode cX11_leans 20 = .ok (.bipush (-2), 2) := by decide +kernel
theorem dX11_leans_22 : decode cX11_leans 22 = .ok (.ireturn, 1) := by decide +kernel
theorem dX11_stays_0 : decode cX11_stays 0 = .ok (.iload_n 1, 1) := by decide +kernel
theorem dX11_stays_1 : decode cX11_stays 1 = .ok (.i2l, 1) := by decide +kernel
theorem dX11_stays_2 : decode cX11_stays 2 = .ok (.lconst 0, 1) := by decide +kernel
theorem dX11_stays_3 : decode cX11_stays 3 = .ok (.ldc2_w 238, 3) := by decide +kernel
theorem dX11_stays_6 : decode cX11_stays 6 = .ok (.invokestatic 67, 3) := by decide +kernel
theorem dX11_stays_9 : decode cX11_stays 9 = .ok (.ifCond .ne 6, 3) := by decide +kernel
theorem dX11_stays_12 : decode cX11_stays 12 = .ok (.bipush (-2), 2) := by decide +kernel
theorem dX11_stays_14 : decode cX11_stays 14 = .ok (.ireturn, 1) := by decide +kernel
theorem dX11_stays_15 : decode cX11_stays 15 = .ok (.sipush 1000, 3) := by decide +kernel
theorem dX11_stays_18 : decode cX11_stays 18 = .ok (.istore_n 2, 1) := by decide +kernel
theorem dX11_stays_19 : decode cX11_stays 19 = .ok (.aload_n 0, 1) := by decide +kernel
theorem dX11_stays_20 : decode cX11_stays 20 = .ok (.iload_n 2, 1) := by decide +kernel
theorem dX11_stays_21 : decode cX11_stays 21 = .ok (.invokevirtual 235, 3) := by decide +kernel
theorem dX11_stays_24 : decode cX11_stays 24 = .ok (.iload_n 1, 1) := by decide +kernel
theorem dX11_stays_25 : decode cX11_stays 25 = .ok (.if_icmp .le 9, 3) := by decide +kernel
theorem dX11_stays_28 : decode cX11_stays 28 = .ok (.iinc 2 (-1), 3) := by decide +kernel
theorem dX11_stays_31 : decode cX11_stays 31 = .ok (.goto (-12), 3) := by decide +kernel
theorem dX11_stays_34 : decode cX11_stays 34 = .ok (.iload_n 2, 1) := by decide +kernel
theorem dX11_stays_35 : decode cX11_stays 35 = .ok (.ireturn, 1) := by decide +kernel
theorem dX11_hut_0 : decode cX11_hut 0 = .ok (.iload_n 1, 1) := by decide +kernel
theorem dX11_hut_1 : decode cX11_hut 1 = .ok (.i2l, 1) := by decide +kernel
theorem dX11_hut_2 : decode cX11_hut 2 = .ok (.lconst 1, 1) := by decide +kernel
theorem dX11_hut_3 : decode cX11_hut 3 = .ok (.ldc2_w 127, 3) := by decide +kernel
theorem dX11_hut_6 : decode cX11_hut 6 = .ok (.invokestatic 67, 3) := by decide +kernel
theorem dX11_hut_9 : decode cX11_hut 9 = .ok (.ifCond .eq 27, 3) := by decide +kernel
theorem dX11_hut_12 : decode cX11_hut 12 = .ok (.iload_n 2, 1) := by decide +kernel
theorem dX11_hut_13 : decode cX11_hut 13 = .ok (.i2l, 1) := by decide +kernel
theorem dX11_hut_14 : decode cX11_hut 14 = .ok (.lconst 1, 1) := by decide +kernel
theorem dX11_hut_15 : decode cX11_hut 15 = .ok (.ldc2_w 171, 3) := by decide +kernel
theorem dX11_hut_18 : decode cX11_hut 18 = .ok (.invokestatic 67, 3) := by decide +kernel
theorem dX11_hut_21 : decode cX11_hut 21 = .ok (.ifCond .eq 15, 3) := by decide +kernel
theorem dX11_hut_24 : decode cX11_hut 24 = .ok (.iload_n 3, 1) := by decide +kernel
theorem dX11_hut_25 : decode cX11_hut 25 = .ok (.i2l, 1) := by decide +kernel
theorem dX11_hut_26 : decode cX11_hut 26 = .ok (.lconst 0, 1) := by decide +kernel
theorem dX11_hut_27 : decode cX11_hut 27 = .ok (.ldc2_w 238, 3) := by decide +kernel
theorem dX11_hut_30 : decode cX11_hut 30 = .ok (.invokestatic 67, 3) := by decide +kernel
theorem dX11_hut_33 : decode cX11_hut 33 = .ok (.ifCond .ne 6, 3) := by decide +kernel
theorem dX11_hut_36 : decode cX11_hut 36 = .ok (.bipush (-2), 2) := by decide +kernel
theorem dX11_hut_38 : decode cX11_hut 38 = .ok (.ireturn, 1) := by decide +kernel
theorem dX11_hut_39 : decode cX11_hut 39 = .ok (.iload_n 1, 1) := by decide +kernel
theorem dX11_hut_40 : decode cX11_hut 40 = .ok (.iload_n 2, 1) := by decide +kernel
theorem dX11_hut_41 : decode cX11_hut 41 = .ok (.iadd, 1) := by decide +kernel
theorem dX11_hut_42 : decode cX11_hut 42 = .ok (.iconst 1, 1) := by decide +kernel
theorem dX11_hut_43 : decode cX11_hut 43 = .ok (.isub, 1) := by decide +kernel
theorem dX11_hut_44 : decode cX11_hut 44 = .ok (.iload_n 2, 1) := by decide +kernel
theorem dX11_hut_45 : decode cX11_hut 45 = .ok (.idiv, 1) := by decide +kernel
theorem dX11_hut_46 : decode cX11_hut 46 = .ok (.istore 4, 2) := by decide +kernel
theorem dX11_hut_48 : decode cX11_hut 48 = .ok (.iconst 1, 1) := by decide +kernel
theorem dX11_hut_49 : decode cX11_hut 49 = .ok (.istore 5, 2) := by decide +kernel
theorem dX11_hut_51 : decode cX11_hut 51 = .ok (.iload 5, 2) := by decide +kernel
theorem dX11_hut_53 : decode cX11_hut 53 = .ok (.bipush 99, 2) := by decide +kernel
theorem dX11_hut_55 : decode cX11_hut 55 = .ok (.if_icmp .gt 26, 3) := by decide +kernel
theorem dX11_hut_58 : decode cX11_hut 58 = .ok (.iload_n 1, 1) := by decide +kernel
theorem dX11_hut_59 : decode cX11_hut 59 = .ok (.iload 5, 2) := by decide +kernel
theorem dX11_hut_61 : decode cX11_hut 61 = .ok (.imul, 1) := by decide +kernel
theorem dX11_hut_62 : decode cX11_hut 62 = .ok (.iload 4, 2) := by decide +kernel
theorem dX11_hut_64 : decode cX11_hut 64 = .ok (.imul, 1) := by decide +kernel
theorem dX11_hut_65 : decode cX11_hut 65 = .ok (.bipush 38, 2) := by decide +kernel
theorem dX11_hut_67 : decode cX11_hut 67 = .ok (.idiv, 1) := by decide +kernel
theorem dX11_hut_68 : decode cX11_hut 68 = .ok (.iload_n 3, 1) := by decide +kernel
theorem dX11_hut_69 : decode cX11_hut 69 = .ok (.if_icmp .le 6, 3) := by decide +kernel
theorem dX11_hut_72 : decode cX11_hut 72 = .ok (.iload 5, 2) := by decide +kernel
theorem dX11_hut_74 : decode cX11_hut 74 = .ok (.ireturn, 1) := by decide +kernel
theorem dX11_hut_75 : decode cX11_hut 75 = .ok (.iinc 5 1, 3) := by decide +kernel
theorem dX11_hut_78 : decode cX11_hut 78 = .ok (.goto (-27), 3) := by decide +kernel
theorem dX11_hut_81 : decode cX11_hut 81 = .ok (.bipush (-6), 2) := by decide +kernel
theorem dX11_hut_83 : decode cX11_hut 83 = .ok (.ireturn, 1) := by decide +kernel
theorem dX11_film_0 : decode cX11_film 0 = .ok (.iload_n 1, 1) := by decide +kernel
theorem dX11_film_1 : decode cX11_film 1 = .ok (.iload_n 2, 1) := by decide +kernel
theorem dX11_film_2 : decode cX11_film 2 = .ok (.sipush 2000, 3) := by decide +kernel
theorem dX11_film_5 : decode cX11_film 5 = .ok (.invokestatic 221, 3) := by decide +kernel
theorem dX11_film_8 : decode cX11_film 8 = .ok (.ifCond .ne 6, 3) := by decide +kernel
theorem dX11_film_11 : decode cX11_film 11 = .ok (.bipush (-2), 2) := by decide +kernel
theorem dX11_film_13 : decode cX11_film 13 = .ok (.ireturn, 1) := by decide +kernel
theorem dX11_film_14 : decode cX11_film 14 = .ok (.aload_n 0, 1) := by decide +kernel
theorem dX11_film_15 : decode cX11_film 15 = .ok (.getfield 240, 3) := by decide +kernel
theorem dX11_film_18 : decode cX11_film 18 = .ok (.bipush 24, 2) := by decide +kernel
theorem dX11_film_20 : decode cX11_film 20 = .ok (.if_icmp .ne 6, 3) := by decide +kernel
theorem dX11_film_23 : decode cX11_film 23 = .ok (.bipush (-4), 2) := by decide +kernel
theorem dX11_film_25 : decode cX11_film 25 = .ok (.ireturn, 1) := by decide +kernel
theorem dX11_film_26 : decode cX11_film 26 = .ok (.aload_n 0, 1) := by decide +kernel
theorem dX11_film_27 : decode cX11_film 27 = .ok (.getfield 47, 3) := by decide +kernel
theorem dX11_film_30 : decode cX11_film 30 = .ok (.aload_n 0, 1) := by decide +kernel
theorem dX11_film_31 : decode cX11_film 31 = .ok (.getfield 240, 3) := by decide +kernel
theorem dX11_film_34 : decode cX11_film 34 = .ok (.iload_n 1, 1) := by decide +kernel
theorem dX11_film_35 : decode cX11_film 35 = .ok (.iastore, 1) := by decide +kernel
theorem dX11_film_36 : decode cX11_film 36 = .ok (.aload_n 0, 1) := by decide +kernel
theorem dX11_film_37 : decode cX11_film 37 = .ok (.getfield 50, 3) := by decide +kernel
theorem dX11_film_40 : decode cX11_film 40 = .ok (.aload_n 0, 1) := by decide +kernel
theorem dX11_film_41 : decode cX11_film 41 = .ok (.getfield 240, 3) := by decide +kernel
theorem dX11_film_44 : decode cX11_film 44 = .ok (.iload_n 2, 1) := by decide +kernel
theorem dX11_film_45 : decode cX11_film 45 = .ok (.iastore, 1) := by decide +kernel
theorem dX11_film_46 : decode cX11_film 46 = .ok (.aload_n 0, 1) := by decide +kernel
theorem dX11_film_47 : decode cX11_film 47 = .ok (.dup, 1) := by decide +kernel
theorem dX11_film_48 : decode cX11_film 48 = .ok (.getfield 240, 3) := by decide +kernel
theorem dX11_film_51 : decode cX11_film 51 = .ok (.iconst 1, 1) := by decide +kernel
theorem dX11_film_52 : decode cX11_film 52 = .ok (.iadd, 1) := by decide +kernel
theorem dX11_film_53 : decode cX11_film 53 = .ok (.putfield 240, 3) := by decide +kernel
theorem dX11_film_56 : decode cX11_film 56 = .ok (.aload_n 0, 1) := by decide +kernel
theorem dX11_film_57 : decode cX11_film 57 = .ok (.getfield 240, 3) := by decide +kernel
theorem dX11_film_60 : decode cX11_film 60 = .ok (.ireturn, 1) := by decide +kernel
theorem dX11_clear_0 : decode cX11_clear 0 = .ok (.aload_n 0, 1) := by decide +kernel
theorem dX11_clear_1 : decode cX11_clear 1 = .ok (.getfield 240, 3) := by decide +kernel
theorem dX11_clear_4 : decode cX11_clear 4 = .ok (.istore_n 1, 1) := by decide +kernel
theorem dX11_clear_5 : decode cX11_clear 5 = .ok (.aload_n 0, 1) := by decide +kernel
theorem dX11_clear_6 : decode cX11_clear 6 = .ok (.iconst 0, 1) := by decide +kernel
theorem dX11_clear_7 : decode cX11_clear 7 = .ok (.putfield 240, 3) := by decide +kernel
theorem dX11_clear_10 : decode cX11_clear 10 = .ok (.iload_n 1, 1) := by decide +kernel
theorem dX11_clear_11 : decode cX11_clear 11 = .ok (.ireturn, 1) := by decide +kernel
theorem dX11_bentOf_0 : decode cX11_bentOf 0 = .ok (.iconst 0, 1) := by decide +kernel
theorem dX11_bentOf_1 : decode cX11_bentOf 1 = .ok (.istore_n 2, 1) := by decide +kernel
theorem dX11_bentOf_2 : decode cX11_bentOf 2 = .ok (.iconst 0, 1) := by decide +kernel
theorem dX11_bentOf_3 : decode cX11_bentOf 3 = .ok (.istore_n 3, 1) := by decide +kernel
theorem dX11_bentOf_4 : decode cX11_bentOf 4 = .ok (.iconst 0, 1) := by decide +kernel
theorem dX11_bentOf_5 : decode cX11_bentOf 5 = .ok (.istore 4, 2) := by decide +kernel
theorem dX11_bentOf_7 : decode cX11_bentOf 7 = .ok (.iload 4, 2) := by decide +kernel
theorem dX11_bentOf_9 : decode cX11_bentOf 9 = .ok (.aload_n 0, 1) := by decide +kernel
theorem dX11_bentOf_10 : decode cX11_bentOf 10 = .ok (.getfield 240, 3) := by decide +kernel
theorem dX11_bentOf_13 : decode cX11_bentOf 13 = .ok (.if_icmp .ge 153, 3) := by decide +kernel
theorem dX11_bentOf_16 : decode cX11_bentOf 16 = .ok (.aload_n 0, 1) := by decide +kernel
theorem dX11_bentOf_17 : decode cX11_bentOf 17 = .ok (.aload_n 0, 1) := by decide +kernel
theorem dX11_bentOf_18 : decode cX11_bentOf 18 = .ok (.getfield 47, 3) := by decide +kernel
theorem dX11_bentOf_21 : decode cX11_bentOf 21 = .ok (.iload 4, 2) := by decide +kernel
theorem dX11_bentOf_23 : decode cX11_bentOf 23 = .ok (.iaload, 1) := by decide +kernel
theorem dX11_bentOf_24 : decode cX11_bentOf 24 = .ok (.aload_n 0, 1) := by decide +kernel
theorem dX11_bentOf_25 : decode cX11_bentOf 25 = .ok (.getfield 50, 3) := by decide +kernel
theorem dX11_bentOf_28 : decode cX11_bentOf 28 = .ok (.iload 4, 2) := by decide +kernel
theorem dX11_bentOf_30 : decode cX11_bentOf 30 = .ok (.iaload, 1) := by decide +kernel
theorem dX11_bentOf_31 : decode cX11_bentOf 31 = .ok (.iload_n 2, 1) := by decide +kernel
theorem dX11_bentOf_32 : decode cX11_bentOf 32 = .ok (.bipush 10, 2) := by decide +kernel
theorem dX11_bentOf_34 : decode cX11_bentOf 34 = .ok (.idiv, 1) := by decide +kernel
theorem dX11_bentOf_35 : decode cX11_bentOf 35 = .ok (.invokevirtual 135, 3) := by decide +kernel
theorem dX11_bentOf_38 : decode cX11_bentOf 38 = .ok (.aload_n 0, 1) := by decide +kernel
theorem dX11_bentOf_39 : decode cX11_bentOf 39 = .ok (.getfield 53, 3) := by decide +kernel
theorem dX11_bentOf_42 : decode cX11_bentOf 42 = .ok (.iload 4, 2) := by decide +kernel
theorem dX11_bentOf_44 : decode cX11_bentOf 44 = .ok (.aload_n 0, 1) := by decide +kernel
theorem dX11_bentOf_45 : decode cX11_bentOf 45 = .ok (.getfield 75, 3) := by decide +kernel
theorem dX11_bentOf_48 : decode cX11_bentOf 48 = .ok (.iastore, 1) := by decide +kernel
theorem dX11_bentOf_49 : decode cX11_bentOf 49 = .ok (.aload_n 0, 1) := by decide +kernel
theorem dX11_bentOf_50 : decode cX11_bentOf 50 = .ok (.getfield 56, 3) := by decide +kernel
theorem dX11_bentOf_53 : decode cX11_bentOf 53 = .ok (.iload 4, 2) := by decide +kernel
theorem dX11_bentOf_55 : decode cX11_bentOf 55 = .ok (.aload_n 0, 1) := by decide +kernel
theorem dX11_bentOf_56 : decode cX11_bentOf 56 = .ok (.getfield 79, 3) := by decide +kernel
theorem dX11_bentOf_59 : decode cX11_bentOf 59 = .ok (.iastore, 1) := by decide +kernel
theorem dX11_bentOf_60 : decode cX11_bentOf 60 = .ok (.iload_n 2, 1) := by decide +kernel
theorem dX11_bentOf_61 : decode cX11_bentOf 61 = .ok (.iload_n 1, 1) := by decide +kernel
theorem dX11_bentOf_62 : decode cX11_bentOf 62 = .ok (.iadd, 1) := by decide +kernel
theorem dX11_bentOf_63 : decode cX11_bentOf 63 = .ok (.sipush 240, 3) := by decide +kernel
theorem dX11_bentOf_66 : decode cX11_bentOf 66 = .ok (.irem, 1) := by decide +kernel
theorem dX11_bentOf_67 : decode cX11_bentOf 67 = .ok (.istore 5, 2) := by decide +kernel
theorem dX11_bentOf_69 : decode cX11_bentOf 69 = .ok (.iload 5, 2) := by decide +kernel
theorem dX11_bentOf_71 : decode cX11_bentOf 71 = .ok (.ifCond .ge 12, 3) := by decide +kernel
theorem dX11_bentOf_74 : decode cX11_bentOf 74 = .ok (.iload 5, 2) := by decide +kernel
theorem dX11_bentOf_76 : decode cX11_bentOf 76 = .ok (.sipush 240, 3) := by decide +kernel
theorem dX11_bentOf_79 : decode cX11_bentOf 79 = .ok (.iadd, 1) := by decide +kernel
theorem dX11_bentOf_80 : decode cX11_bentOf 80 = .ok (.goto 5, 3) := by decide +kernel
theorem dX11_bentOf_83 : decode cX11_bentOf 83 = .ok (.iload 5, 2) := by decide +kernel
theorem dX11_bentOf_85 : decode cX11_bentOf 85 = .ok (.istore_n 2, 1) := by decide +kernel
theorem dX11_bentOf_86 : decode cX11_bentOf 86 = .ok (.iload 4, 2) := by decide +kernel
theorem dX11_bentOf_88 : decode cX11_bentOf 88 = .ok (.iconst 1, 1) := by decide +kernel
theorem dX11_bentOf_89 : decode cX11_bentOf 89 = .ok (.if_icmp .le 71, 3) := by decide +kernel
theorem dX11_bentOf_92 : decode cX11_bentOf 92 = .ok (.iload_n 3, 1) := by decide +kernel
theorem dX11_bentOf_93 : decode cX11_bentOf 93 = .ok (.aload_n 0, 1) := by decide +kernel
theorem dX11_bentOf_94 : decode cX11_bentOf 94 = .ok (.getfield 53, 3) := by decide +kernel
theorem dX11_bentOf_97 : decode cX11_bentOf 97 = .ok (.iload 4, 2) := by decide +kernel
theorem dX11_bentOf_99 : decode cX11_bentOf 99 = .ok (.iaload, 1) := by decide +kernel
theorem dX11_bentOf_100 : decode cX11_bentOf 100 = .ok (.aload_n 0, 1) := by decide +kernel
theorem dX11_bentOf_101 : decode cX11_bentOf 101 = .ok (.getfield 53, 3) := by decide +kernel
theorem dX11_bentOf_104 : decode cX11_bentOf 104 = .ok (.iload 4, 2) := by decide +kernel
theorem dX11_bentOf_106 : decode cX11_bentOf 106 = .ok (.iconst 2, 1) := by decide +kernel
theorem dX11_bentOf_107 : decode cX11_bentOf 107 = .ok (.isub, 1) := by decide +kernel
theorem dX11_bentOf_108 : decode cX11_bentOf 108 = .ok (.iaload, 1) := by decide +kernel
theorem dX11_bentOf_109 : decode cX11_bentOf 109 = .ok (.iadd, 1) := by decide +kernel
theorem dX11_bentOf_110 : decode cX11_bentOf 110 = .ok (.iconst 2, 1) := by decide +kernel
theorem dX11_bentOf_111 : decode cX11_bentOf 111 = .ok (.aload_n 0, 1) := by decide +kernel
theorem dX11_bentOf_112 : decode cX11_bentOf 112 = .ok (.getfield 53, 3) := by decide +kernel
theorem dX11_bentOf_115 : decode cX11_bentOf 115 = .ok (.iload 4, 2) := by decide +kernel
theorem dX11_bentOf_117 : decode cX11_bentOf 117 = .ok (.iconst 1, 1) := by decide +kernel
theorem dX11_bentOf_118 : decode cX11_bentOf 118 = .ok (.isub, 1) := by decide +kernel
theorem dX11_bentOf_119 : decode cX11_bentOf 119 = .ok (.iaload, 1) := by decide +kernel
theorem dX11_bentOf_120 : decode cX11_bentOf 120 = .ok (.imul, 1) := by decide +kernel
theorem dX11_bentOf_121 : decode cX11_bentOf 121 = .ok (.isub, 1) := by decide +kernel
theorem dX11_bentOf_122 : decode cX11_bentOf 122 = .ok (.invokestatic 184, 3) := by decide +kernel
theorem dX11_bentOf_125 : decode cX11_bentOf 125 = .ok (.aload_n 0, 1) := by decide +kernel
theorem dX11_bentOf_126 : decode cX11_bentOf 126 = .ok (.getfield 56, 3) := by decide +kernel
theorem dX11_bentOf_129 : decode cX11_bentOf 129 = .ok (.iload 4, 2) := by decide +kernel
theorem dX11_bentOf_131 : decode cX11_bentOf 131 = .ok (.iaload, 1) := by decide +kernel
theorem dX11_bentOf_132 : decode cX11_bentOf 132 = .ok (.aload_n 0, 1) := by decide +kernel
theorem dX11_bentOf_133 : decode cX11_bentOf 133 = .ok (.getfield 56, 3) := by decide +kernel
theorem dX11_bentOf_136 : decode cX11_bentOf 136 = .ok (.iload 4, 2) := by decide +kernel
theorem dX11_bentOf_138 : decode cX11_bentOf 138 = .ok (.iconst 2, 1) := by decide +kernel
theorem dX11_bentOf_139 : decode cX11_bentOf 139 = .ok (.isub, 1) := by decide +kernel
theorem dX11_bentOf_140 : decode cX11_bentOf 140 = .ok (.iaload, 1) := by decide +kernel
theorem dX11_bentOf_141 : decode cX11_bentOf 141 = .ok (.iadd, 1) := by decide +kernel
theorem dX11_bentOf_142 : decode cX11_bentOf 142 = .ok (.iconst 2, 1) := by decide +kernel
theorem dX11_bentOf_143 : decode cX11_bentOf 143 = .ok (.aload_n 0, 1) := by decide +kernel
theorem dX11_bentOf_144 : decode cX11_bentOf 144 = .ok (.getfield 56, 3) := by decide +kernel
theorem dX11_bentOf_147 : decode cX11_bentOf 147 = .ok (.iload 4, 2) := by decide +kernel
theorem dX11_bentOf_149 : decode cX11_bentOf 149 = .ok (.iconst 1, 1) := by decide +kernel
theorem dX11_bentOf_150 : decode cX11_bentOf 150 = .ok (.isub, 1) := by decide +kernel
theorem dX11_bentOf_151 : decode cX11_bentOf 151 = .ok (.iaload, 1) := by decide +kernel
theorem dX11_bentOf_152 : decode cX11_bentOf 152 = .ok (.imul, 1) := by decide +kernel
theorem dX11_bentOf_153 : decode cX11_bentOf 153 = .ok (.isub, 1) := by decide +kernel
theorem dX11_bentOf_154 : decode cX11_bentOf 154 = .ok (.invokestatic 184, 3) := by decide +kernel
theorem dX11_bentOf_157 : decode cX11_bentOf 157 = .ok (.iadd, 1) := by decide +kernel
theorem dX11_bentOf_158 : decode cX11_bentOf 158 = .ok (.iadd, 1) := by decide +kernel
theorem dX11_bentOf_159 : decode cX11_bentOf 159 = .ok (.istore_n 3, 1) := by decide +kernel
theorem dX11_bentOf_160 : decode cX11_bentOf 160 = .ok (.iinc 4 1, 3) := by decide +kernel
theorem dX11_bentOf_163 : decode cX11_bentOf 163 = .ok (.goto (-156), 3) := by decide +kernel
theorem dX11_bentOf_166 : decode cX11_bentOf 166 = .ok (.iload_n 3, 1) := by decide +kernel
theorem dX11_bentOf_167 : decode cX11_bentOf 167 = .ok (.ireturn, 1) := by decide +kernel
theorem dX11_bent_0 : decode cX11_bent 0 = .ok (.iload_n 1, 1) := by decide +kernel
theorem dX11_bent_1 : decode cX11_bent 1 = .ok (.i2l, 1) := by decide +kernel
theorem dX11_bent_2 : decode cX11_bent 2 = .ok (.ldc2_w 243, 3) := by decide +kernel
theorem dX11_bent_5 : decode cX11_bent 5 = .ok (.ldc2_w 71, 3) := by decide +kernel
theorem dX11_bent_8 : decode cX11_bent 8 = .ok (.invokestatic 67, 3) := by decide +kernel
theorem dX11_bent_11 : decode cX11_bent 11 = .ok (.ifCond .eq 11, 3) := by decide +kernel
theorem dX11_bent_14 : decode cX11_bent 14 = .ok (.aload_n 0, 1) := by decide +kernel
theorem dX11_bent_15 : decode cX11_bent 15 = .ok (.iload_n 1, 1) := by decide +kernel
theorem dX11_bent_16 : decode cX11_bent 16 = .ok (.invokevirtual 245, 3) := by decide +kernel
theorem dX11_bent_19 : decode cX11_bent 19 = .ok (.goto 5, 3) := by decide +kernel
theorem dX11_bent_22 : decode cX11_bent 22 = .ok (.bipush (-2), 2) := by decide +kernel
theorem dX11_bent_24 : decode cX11_bent 24 = .ok (.ireturn, 1) := by decide +kernel
theorem dX11_turnedBy_0 : decode cX11_turnedBy 0 = .ok (.iconst 0, 1) := by decide +kernel
theorem dX11_turnedBy_1 : decode cX11_turnedBy 1 = .ok (.istore_n 1, 1) := by decide +kernel
theorem dX11_turnedBy_2 : decode cX11_turnedBy 2 = .ok (.iconst 1, 1) := by decide +kernel
theorem dX11_turnedBy_3 : decode cX11_turnedBy 3 = .ok (.istore_n 2, 1) := by decide +kernel
theorem dX11_turnedBy_4 : decode cX11_turnedBy 4 = .ok (.iload_n 2, 1) := by decide +kernel
theorem dX11_turnedBy_5 : decode cX11_turnedBy 5 = .ok (.bipush 60, 2) := by decide +kernel
theorem dX11_turnedBy_7 : decode cX11_turnedBy 7 = .ok (.if_icmp .gt 49, 3) := by decide +kernel
theorem dX11_turnedBy_10 : decode cX11_turnedBy 10 = .ok (.aload_n 0, 1) := by decide +kernel
theorem dX11_turnedBy_11 : decode cX11_turnedBy 11 = .ok (.iload_n 2, 1) := by decide +kernel
theorem dX11_turnedBy_12 : decode cX11_turnedBy 12 = .ok (.invokevirtual 245, 3) := by decide +kernel
theorem dX11_turnedBy_15 : decode cX11_turnedBy 15 = .ok (.aload_n 0, 1) := by decide +kernel
theorem dX11_turnedBy_16 : decode cX11_turnedBy 16 = .ok (.iload_n 1, 1) := by decide +kernel
theorem dX11_turnedBy_17 : decode cX11_turnedBy 17 = .ok (.invokevirtual 245, 3) := by decide +kernel
theorem dX11_turnedBy_20 : decode cX11_turnedBy 20 = .ok (.if_icmp .ge 7, 3) := by decide +kernel
theorem dX11_turnedBy_23 : decode cX11_turnedBy 23 = .ok (.iload_n 2, 1) := by decide +kernel
theorem dX11_turnedBy_24 : decode cX11_turnedBy 24 = .ok (.goto 4, 3) := by decide +kernel
theorem dX11_turnedBy_27 : decode cX11_turnedBy 27 = .ok (.iload_n 1, 1) := by decide +kernel
theorem dX11_turnedBy_28 : decode cX11_turnedBy 28 = .ok (.istore_n 1, 1) := by decide +kernel
theorem dX11_turnedBy_29 : decode cX11_turnedBy 29 = .ok (.aload_n 0, 1) := by decide +kernel
theorem dX11_turnedBy_30 : decode cX11_turnedBy 30 = .ok (.iload_n 2, 1) := by decide +kernel
theorem dX11_turnedBy_31 : decode cX11_turnedBy 31 = .ok (.ineg, 1) := by decide +kernel
theorem dX11_turnedBy_32 : decode cX11_turnedBy 32 = .ok (.invokevirtual 245, 3) := by decide +kernel
theorem dX11_turnedBy_35 : decode cX11_turnedBy 35 = .ok (.aload_n 0, 1) := by decide +kernel
theorem dX11_turnedBy_36 : decode cX11_turnedBy 36 = .ok (.iload_n 1, 1) := by decide +kernel
theorem dX11_turnedBy_37 : decode cX11_turnedBy 37 = .ok (.invokevirtual 245, 3) := by decide +kernel
theorem dX11_turnedBy_40 : decode cX11_turnedBy 40 = .ok (.if_icmp .ge 8, 3) := by decide +kernel
theorem dX11_turnedBy_43 : decode cX11_turnedBy 43 = .ok (.iload_n 2, 1) := by decide +kernel
theorem dX11_turnedBy_44 : decode cX11_turnedBy 44 = .ok (.ineg, 1) := by decide +kernel
theorem dX11_turnedBy_45 : decode cX11_turnedBy 45 = .ok (.goto 4, 3) := by decide +kernel
theorem dX11_turnedBy_48 : decode cX11_turnedBy 48 = .ok (.iload_n 1, 1) := by decide +kernel
theorem dX11_turnedBy_49 : decode cX11_turnedBy 49 = .ok (.istore_n 1, 1) := by decide +kernel
theorem dX11_turnedBy_50 : decode cX11_turnedBy 50 = .ok (.iinc 2 1, 3) := by decide +kernel
theorem dX11_turnedBy_53 : decode cX11_turnedBy 53 = .ok (.goto (-49), 3) := by decide +kernel
theorem dX11_turnedBy_56 : decode cX11_turnedBy 56 = .ok (.iload_n 1, 1) := by decide +kernel
theorem dX11_turnedBy_57 : decode cX11_turnedBy 57 = .ok (.ireturn, 1) := by decide +kernel
theorem dX11_turned_0 : decode cX11_turned 0 = .ok (.aload_n 0, 1) := by decide +kernel
theorem dX11_turned_1 : decode cX11_turned 1 = .ok (.getfield 240, 3) := by decide +kernel
theorem dX11_turned_4 : decode cX11_turned 4 = .ok (.iconst 3, 1) := by decide +kernel
theorem dX11_turned_5 : decode cX11_turned 5 = .ok (.if_icmp .ge 8, 3) := by decide +kernel
theorem dX11_turned_8 : decode cX11_turned 8 = .ok (.ldc 248, 2) := by decide +kernel
theorem dX11_turned_10 : decode cX11_turned 10 = .ok (.goto 7, 3) := by decide +kernel
theorem dX11_turned_13 : decode cX11_turned 13 = .ok (.aload_n 0, 1) := by decide +kernel
theorem dX11_turned_14 : decode cX11_turned 14 = .ok (.invokevirtual 249, 3) := by decide +kernel
theorem dX11_turned_17 : decode cX11_turned 17 = .ok (.ireturn, 1) := by decide +kernel
theorem dX11_span_0 : decode cX11_span 0 = .ok (.iload_n 1, 1) := by decide +kernel
theorem dX11_span_1 : decode cX11_span 1 = .ok (.i2l, 1) := by decide +kernel
theorem dX11_span_2 : decode cX11_span 2 = .ok (.lconst 0, 1) := by decide +kernel
theorem dX11_span_3 : decode cX11_span 3 = .ok (.ldc2_w 238, 3) := by decide +kernel
theorem dX11_span_6 : decode cX11_span 6 = .ok (.invokestatic 67, 3) := by decide +kernel
theorem dX11_span_9 : decode cX11_span 9 = .ok (.ifCond .eq 10, 3) := by decide +kernel
theorem dX11_span_12 : decode cX11_span 12 = .ok (.iload_n 2, 1) := by decide +kernel
theorem dX11_span_13 : decode cX11_span 13 = .ok (.invokestatic 121, 3) := by decide +kernel
theorem dX11_span_16 : decode cX11_span 16 = .ok (.ifCond .ne 6, 3) := by decide +kernel
theorem dX11_span_19 : decode cX11_span 19 = .ok (.ldc 148, 2) := by decide +kernel
theorem dX11_span_21 : decode cX11_span 21 = .ok (.ireturn, 1) := by decide +kernel
theorem dX11_span_22 : decode cX11_span 22 = .ok (.aload_n 0, 1) := by decide +kernel
theorem dX11_span_23 : decode cX11_span 23 = .ok (.getfield 240, 3) := by decide +kernel
theorem dX11_span_26 : decode cX11_span 26 = .ok (.iconst 3, 1) := by decide +kernel
theorem dX11_span_27 : decode cX11_span 27 = .ok (.if_icmp .ge 6, 3) := by decide +kernel
theorem dX11_span_30 : decode cX11_span 30 = .ok (.ldc 248, 2) := by decide +kernel
theorem dX11_span_32 : decode cX11_span 32 = .ok (.ireturn, 1) := by decide +kernel
theorem dX11_span_33 : decode cX11_span 33 = .ok (.aload_n 0, 1) := by decide +kernel
theorem dX11_span_34 : decode cX11_span 34 = .ok (.aload_n 0, 1) := by decide +kernel
theorem dX11_span_35 : decode cX11_span 35 = .ok (.invokevirtual 249, 3) := by decide +kernel
theorem dX11_span_38 : decode cX11_span 38 = .ok (.invokevirtual 245, 3) := by decide +kernel
theorem dX11_span_41 : decode cX11_span 41 = .ok (.iload_n 1, 1) := by decide +kernel
theorem dX11_span_42 : decode cX11_span 42 = .ok (.iadd, 1) := by decide +kernel
theorem dX11_span_43 : decode cX11_span 43 = .ok (.istore_n 3, 1) := by decide +kernel
theorem dX11_span_44 : decode cX11_span 44 = .ok (.iload_n 2, 1) := by decide +kernel
theorem dX11_span_45 : decode cX11_span 45 = .ok (.ifCond .ne 7, 3) := by decide +kernel
theorem dX11_span_48 : decode cX11_span 48 = .ok (.iconst 1, 1) := by decide +kernel
theorem dX11_span_49 : decode cX11_span 49 = .ok (.goto 4, 3) := by decide +kernel
theorem dX11_span_52 : decode cX11_span 52 = .ok (.iconst (-1), 1) := by decide +kernel
theorem dX11_span_53 : decode cX11_span 53 = .ok (.istore 4, 2) := by decide +kernel
theorem dX11_span_55 : decode cX11_span 55 = .ok (.iload_n 2, 1) := by decide +kernel
theorem dX11_span_56 : decode cX11_span 56 = .ok (.ifCond .ne 8, 3) := by decide +kernel
theorem dX11_span_59 : decode cX11_span 59 = .ok (.bipush (-60), 2) := by decide +kernel
theorem dX11_span_61 : decode cX11_span 61 = .ok (.goto 5, 3) := by decide +kernel
theorem dX11_span_64 : decode cX11_span 64 = .ok (.bipush 60, 2) := by decide +kernel
theorem dX11_span_66 : decode cX11_span 66 = .ok (.istore 5, 2) := by decide +kernel
theorem dX11_span_68 : decode cX11_span 68 = .ok (.aload_n 0, 1) := by decide +kernel
theorem dX11_span_69 : decode cX11_span 69 = .ok (.iload 5, 2) := by decide +kernel
theorem dX11_span_71 : decode cX11_span 71 = .ok (.invokevirtual 245, 3) := by decide +kernel
theorem dX11_span_74 : decode cX11_span 74 = .ok (.iload_n 3, 1) := by decide +kernel
theorem dX11_span_75 : decode cX11_span 75 = .ok (.if_icmp .le 13, 3) := by decide +kernel
theorem dX11_span_78 : decode cX11_span 78 = .ok (.iload 5, 2) := by decide +kernel
theorem dX11_span_80 : decode cX11_span 80 = .ok (.iload 4, 2) := by decide +kernel
theorem dX11_span_82 : decode cX11_span 82 = .ok (.iadd, 1) := by decide +kernel
theorem dX11_span_83 : decode cX11_span 83 = .ok (.istore 5, 2) := by decide +kernel
theorem dX11_span_85 : decode cX11_span 85 = .ok (.goto (-17), 3) := by decide +kernel
theorem dX11_span_88 : decode cX11_span 88 = .ok (.iload 5, 2) := by decide +kernel
theorem dX11_span_90 : decode cX11_span 90 = .ok (.ireturn, 1) := by decide +kernel
theorem dX11_firstWay_0 : decode cX11_firstWay 0 = .ok (.iconst 0, 1) := by decide +kernel
theorem dX11_firstWay_1 : decode cX11_firstWay 1 = .ok (.istore 4, 2) := by decide +kernel
theorem dX11_firstWay_3 : decode cX11_firstWay 3 = .ok (.lconst 0, 1) := by decide +kernel
theorem dX11_firstWay_4 : decode cX11_firstWay 4 = .ok (.lstore 5, 2) := by decide +kernel
theorem dX11_firstWay_6 : decode cX11_firstWay 6 = .ok (.iconst 0, 1) := by decide +kernel
theorem dX11_firstWay_7 : decode cX11_firstWay 7 = .ok (.istore 7, 2) := by decide +kernel
theorem dX11_firstWay_9 : decode cX11_firstWay 9 = .ok (.iload 7, 2) := by decide +kernel
theorem dX11_firstWay_11 : decode cX11_firstWay 11 = .ok (.bipush 24, 2) := by decide +kernel
theorem dX11_firstWay_13 : decode cX11_firstWay 13 = .ok (.if_icmp .ge 81, 3) := by decide +kernel
theorem dX11_firstWay_16 : decode cX11_firstWay 16 = .ok (.aload_n 0, 1) := by decide +kernel
theorem dX11_firstWay_17 : decode cX11_firstWay 17 = .ok (.iload_n 2, 1) := by decide +kernel
theorem dX11_firstWay_18 : decode cX11_firstWay 18 = .ok (.iconst 0, 1) := by decide +kernel
theorem dX11_firstWay_19 : decode cX11_firstWay 19 = .ok (.iload 7, 2) := by decide +kernel
theorem dX11_firstWay_21 : decode cX11_firstWay 21 = .ok (.invokevirtual 135, 3) := by decide +kernel
theorem dX11_firstWay_24 : decode cX11_firstWay 24 = .ok (.aload_n 0, 1) := by decide +kernel
theorem dX11_firstWay_25 : decode cX11_firstWay 25 = .ok (.getfield 75, 3) := by decide +kernel
theorem dX11_firstWay_28 : decode cX11_firstWay 28 = .ok (.i2l, 1) := by decide +kernel
theorem dX11_firstWay_29 : decode cX11_firstWay 29 = .ok (.aload_n 0, 1) := by decide +kernel
theorem dX11_firstWay_30 : decode cX11_firstWay 30 = .ok (.getfield 31, 3) := by decide +kernel
theorem dX11_firstWay_33 : decode cX11_firstWay 33 = .ok (.iload_n 3, 1) := by decide +kernel
theorem dX11_firstWay_34 : decode cX11_firstWay 34 = .ok (.iaload, 1) := by decide +kernel
theorem dX11_firstWay_35 : decode cX11_firstWay 35 = .ok (.aload_n 0, 1) := by decide +kernel
theorem dX11_firstWay_36 : decode cX11_firstWay 36 = .ok (.getfield 31, 3) := by decide +kernel
theorem dX11_firstWay_39 : decode cX11_firstWay 39 = .ok (.iload_n 1, 1) := by decide +kernel
theorem dX11_firstWay_40 : decode cX11_firstWay 40 = .ok (.iaload, 1) := by decide +kernel
theorem dX11_firstWay_41 : decode cX11_firstWay 41 = .ok (.isub, 1) := by decide +kernel
theorem dX11_firstWay_42 : decode cX11_firstWay 42 = .ok (.i2l, 1) := by decide +kernel
theorem dX11_firstWay_43 : decode cX11_firstWay 43 = .ok (.lmul, 1) := by decide +kernel
theorem dX11_firstWay_44 : decode cX11_firstWay 44 = .ok (.aload_n 0, 1) := by decide +kernel
theorem dX11_firstWay_45 : decode cX11_firstWay 45 = .ok (.getfield 79, 3) := by decide +kernel
theorem dX11_firstWay_48 : decode cX11_firstWay 48 = .ok (.i2l, 1) := by decide +kernel
theorem dX11_firstWay_49 : decode cX11_firstWay 49 = .ok (.aload_n 0, 1) := by decide +kernel
theorem dX11_firstWay_50 : decode cX11_firstWay 50 = .ok (.getfield 34, 3) := by decide +kernel
theorem dX11_firstWay_53 : decode cX11_firstWay 53 = .ok (.iload_n 3, 1) := by decide +kernel
theorem dX11_firstWay_54 : decode cX11_firstWay 54 = .ok (.iaload, 1) := by decide +kernel
theorem dX11_firstWay_55 : decode cX11_firstWay 55 = .ok (.aload_n 0, 1) := by decide +kernel
theorem dX11_firstWay_56 : decode cX11_firstWay 56 = .ok (.getfield 34, 3) := by decide +kernel
theorem dX11_firstWay_59 : decode cX11_firstWay 59 = .ok (.iload_n 1, 1) := by decide +kernel
theorem dX11_firstWay_60 : decode cX11_firstWay 60 = .ok (.iaload, 1) := by decide +kernel
theorem dX11_firstWay_61 : decode cX11_firstWay 61 = .ok (.isub, 1) := by decide +kernel
theorem dX11_firstWay_62 : decode cX11_firstWay 62 = .ok (.i2l, 1) := by decide +kernel
theorem dX11_firstWay_63 : decode cX11_firstWay 63 = .ok (.lmul, 1) := by decide +kernel
theorem dX11_firstWay_64 : decode cX11_firstWay 64 = .ok (.ladd, 1) := by decide +kernel
theorem dX11_firstWay_65 : decode cX11_firstWay 65 = .ok (.lstore 8, 2) := by decide +kernel
theorem dX11_firstWay_67 : decode cX11_firstWay 67 = .ok (.iload 7, 2) := by decide +kernel
theorem dX11_firstWay_69 : decode cX11_firstWay 69 = .ok (.ifCond .eq 11, 3) := by decide +kernel
theorem dX11_firstWay_72 : decode cX11_firstWay 72 = .ok (.lload 8, 2) := by decide +kernel
theorem dX11_firstWay_74 : decode cX11_firstWay 74 = .ok (.lload 5, 2) := by decide +kernel
theorem dX11_firstWay_76 : decode cX11_firstWay 76 = .ok (.lcmp, 1) := by decide +kernel
theorem dX11_firstWay_77 : decode cX11_firstWay 77 = .ok (.ifCond .le 11, 3) := by decide +kernel
theorem dX11_firstWay_80 : decode cX11_firstWay 80 = .ok (.iload 7, 2) := by decide +kernel
theorem dX11_firstWay_82 : decode cX11_firstWay 82 = .ok (.istore 4, 2) := by decide +kernel
theorem dX11_firstWay_84 : decode cX11_firstWay 84 = .ok (.lload 8, 2) := by decide +kernel
theorem dX11_firstWay_86 : decode cX11_firstWay 86 = .ok (.lstore 5, 2) := by decide +kernel
theorem dX11_firstWay_88 : decode cX11_firstWay 88 = .ok (.iinc 7 1, 3) := by decide +kernel
theorem dX11_firstWay_91 : decode cX11_firstWay 91 = .ok (.goto (-82), 3) := by decide +kernel
theorem dX11_firstWay_94 : decode cX11_firstWay 94 = .ok (.iload 4, 2) := by decide +kernel
theorem dX11_firstWay_96 : decode cX11_firstWay 96 = .ok (.ireturn, 1) := by decide +kernel
theorem dX11_nextWay_0 : decode cX11_nextWay 0 = .ok (.iconst 1, 1) := by decide +kernel
theorem dX11_nextWay_1 : decode cX11_nextWay 1 = .ok (.istore_n 3, 1) := by decide +kernel
theorem dX11_nextWay_2 : decode cX11_nextWay 2 = .ok (.aload_n 0, 1) := by decide +kernel
theorem dX11_nextWay_3 : decode cX11_nextWay 3 = .ok (.iload_n 2, 1) := by decide +kernel
theorem dX11_nextWay_4 : decode cX11_nextWay 4 = .ok (.iconst 1, 1) := by decide +kernel
theorem dX11_nextWay_5 : decode cX11_nextWay 5 = .ok (.invokevirtual 187, 3) := by decide +kernel
theorem dX11_nextWay_8 : decode cX11_nextWay 8 = .ok (.istore 4, 2) := by decide +kernel
theorem dX11_nextWay_10 : decode cX11_nextWay 10 = .ok (.iconst 2, 1) := by decide +kernel
theorem dX11_nextWay_11 : decode cX11_nextWay 11 = .ok (.istore 5, 2) := by decide +kernel
theorem dX11_nextWay_13 : decode cX11_nextWay 13 = .ok (.iload 5, 2) := by decide +kernel
theorem dX11_nextWay_15 : decode cX11_nextWay 15 = .ok (.bipush 60, 2) := by decide +kernel
theorem dX11_nextWay_17 : decode cX11_nextWay 17 = .ok (.if_icmp .gt 32, 3) := by decide +kernel
theorem dX11_nextWay_20 : decode cX11_nextWay 20 = .ok (.aload_n 0, 1) := by decide +kernel
theorem dX11_nextWay_21 : decode cX11_nextWay 21 = .ok (.iload_n 2, 1) := by decide +kernel
theorem dX11_nextWay_22 : decode cX11_nextWay 22 = .ok (.iload 5, 2) := by decide +kernel
theorem dX11_nextWay_24 : decode cX11_nextWay 24 = .ok (.invokevirtual 187, 3) := by decide +kernel
theorem dX11_nextWay_27 : decode cX11_nextWay 27 = .ok (.istore 6, 2) := by decide +kernel
theorem dX11_nextWay_29 : decode cX11_nextWay 29 = .ok (.iload 6, 2) := by decide +kernel
theorem dX11_nextWay_31 : decode cX11_nextWay 31 = .ok (.iload 4, 2) := by decide +kernel
theorem dX11_nextWay_33 : decode cX11_nextWay 33 = .ok (.if_icmp .ge 10, 3) := by decide +kernel
theorem dX11_nextWay_36 : decode cX11_nextWay 36 = .ok (.iload 5, 2) := by decide +kernel
theorem dX11_nextWay_38 : decode cX11_nextWay 38 = .ok (.istore_n 3, 1) := by decide +kernel
theorem dX11_nextWay_39 : decode cX11_nextWay 39 = .ok (.iload 6, 2) := by decide +kernel
theorem dX11_nextWay_41 : decode cX11_nextWay 41 = .ok (.istore 4, 2) := by decide +kernel
theorem dX11_nextWay_43 : decode cX11_nextWay 43 = .ok (.iinc 5 1, 3) := by decide +kernel
theorem dX11_nextWay_46 : decode cX11_nextWay 46 = .ok (.goto (-33), 3) := by decide +kernel
theorem dX11_nextWay_49 : decode cX11_nextWay 49 = .ok (.aload_n 0, 1) := by decide +kernel
theorem dX11_nextWay_50 : decode cX11_nextWay 50 = .ok (.iload_n 2, 1) := by decide +kernel
theorem dX11_nextWay_51 : decode cX11_nextWay 51 = .ok (.iload_n 3, 1) := by decide +kernel
theorem dX11_nextWay_52 : decode cX11_nextWay 52 = .ok (.invokevirtual 149, 3) := by decide +kernel
theorem dX11_nextWay_55 : decode cX11_nextWay 55 = .ok (.aload_n 0, 1) := by decide +kernel
theorem dX11_nextWay_56 : decode cX11_nextWay 56 = .ok (.getfield 75, 3) := by decide +kernel
theorem dX11_nextWay_59 : decode cX11_nextWay 59 = .ok (.i2l, 1) := by decide +kernel
theorem dX11_nextWay_60 : decode cX11_nextWay 60 = .ok (.aload_n 0, 1) := by decide +kernel
theorem dX11_nextWay_61 : decode cX11_nextWay 61 = .ok (.iload_n 3, 1) := by decide +kernel
theorem dX11_nextWay_62 : decode cX11_nextWay 62 = .ok (.invokevirtual 168, 3) := by decide +kernel
theorem dX11_nextWay_65 : decode cX11_nextWay 65 = .ok (.i2l, 1) := by decide +kernel
theorem dX11_nextWay_66 : decode cX11_nextWay 66 = .ok (.lmul, 1) := by decide +kernel
theorem dX11_nextWay_67 : decode cX11_nextWay 67 = .ok (.aload_n 0, 1) := by decide +kernel
theorem dX11_nextWay_68 : decode cX11_nextWay 68 = .ok (.getfield 79, 3) := by decide +kernel
theorem dX11_nextWay_71 : decode cX11_nextWay 71 = .ok (.i2l, 1) := by decide +kernel
theorem dX11_nextWay_72 : decode cX11_nextWay 72 = .ok (.aload_n 0, 1) := by decide +kernel
theorem dX11_nextWay_73 : decode cX11_nextWay 73 = .ok (.iload_n 3, 1) := by decide +kernel
theorem dX11_nextWay_74 : decode cX11_nextWay 74 = .ok (.invokevirtual 165, 3) := by decide +kernel
theorem dX11_nextWay_77 : decode cX11_nextWay 77 = .ok (.i2l, 1) := by decide +kernel
theorem dX11_nextWay_78 : decode cX11_nextWay 78 = .ok (.lmul, 1) := by decide +kernel
theorem dX11_nextWay_79 : decode cX11_nextWay 79 = .ok (.lsub, 1) := by decide +kernel
theorem dX11_nextWay_80 : decode cX11_nextWay 80 = .ok (.lstore 5, 2) := by decide +kernel
theorem dX11_nextWay_82 : decode cX11_nextWay 82 = .ok (.iload_n 1, 1) := by decide +kernel
theorem dX11_nextWay_83 : decode cX11_nextWay 83 = .ok (.lload 5, 2) := by decide +kernel
theorem dX11_nextWay_85 : decode cX11_nextWay 85 = .ok (.lconst 0, 1) := by decide +kernel
theorem dX11_nextWay_86 : decode cX11_nextWay 86 = .ok (.lcmp, 1) := by decide +kernel
theorem dX11_nextWay_87 : decode cX11_nextWay 87 = .ok (.ifCond .ge 7, 3) := by decide +kernel
theorem dX11_nextWay_90 : decode cX11_nextWay 90 = .ok (.iconst 1, 1) := by decide +kernel
theorem dX11_nextWay_91 : decode cX11_nextWay 91 = .ok (.goto 5, 3) := by decide +kernel
theorem dX11_nextWay_94 : decode cX11_nextWay 94 = .ok (.bipush 23, 2) := by decide +kernel
theorem dX11_nextWay_96 : decode cX11_nextWay 96 = .ok (.iadd, 1) := by decide +kernel
theorem dX11_nextWay_97 : decode cX11_nextWay 97 = .ok (.bipush 24, 2) := by decide +kernel
theorem dX11_nextWay_99 : decode cX11_nextWay 99 = .ok (.irem, 1) := by decide +kernel
theorem dX11_nextWay_100 : decode cX11_nextWay 100 = .ok (.ireturn, 1) := by decide +kernel
theorem dX11_triesFrom_0 : decode cX11_triesFrom 0 = .ok (.aload_n 0, 1) := by decide +kernel
theorem dX11_triesFrom_1 : decode cX11_triesFrom 1 = .ok (.invokevirtual 124, 3) := by decide +kernel
theorem dX11_triesFrom_4 : decode cX11_triesFrom 4 = .ok (.aload_n 0, 1) := by decide +kernel
theorem dX11_triesFrom_5 : decode cX11_triesFrom 5 = .ok (.iload 4, 2) := by decide +kernel
theorem dX11_triesFrom_7 : decode cX11_triesFrom 7 = .ok (.putfield 252, 3) := by decide +kernel
theorem dX11_triesFrom_10 : decode cX11_triesFrom 10 = .ok (.iconst 1, 1) := by decide +kernel
theorem dX11_triesFrom_11 : decode cX11_triesFrom 11 = .ok (.istore 5, 2) := by decide +kernel
theorem dX11_triesFrom_13 : decode cX11_triesFrom 13 = .ok (.iload 5, 2) := by decide +kernel
theorem dX11_triesFrom_15 : decode cX11_triesFrom 15 = .ok (.bipush 24, 2) := by decide +kernel
theorem dX11_triesFrom_17 : decode cX11_triesFrom 17 = .ok (.if_icmp .gt 39, 3) := by decide +kernel
theorem dX11_triesFrom_20 : decode cX11_triesFrom 20 = .ok (.aload_n 0, 1) := by decide +kernel
theorem dX11_triesFrom_21 : decode cX11_triesFrom 21 = .ok (.iload_n 1, 1) := by decide +kernel
theorem dX11_triesFrom_22 : decode cX11_triesFrom 22 = .ok (.iload_n 2, 1) := by decide +kernel
theorem dX11_triesFrom_23 : decode cX11_triesFrom 23 = .ok (.aload_n 0, 1) := by decide +kernel
theorem dX11_triesFrom_24 : decode cX11_triesFrom 24 = .ok (.getfield 252, 3) := by decide +kernel
theorem dX11_triesFrom_27 : decode cX11_triesFrom 27 = .ok (.iload_n 3, 1) := by decide +kernel
theorem dX11_triesFrom_28 : decode cX11_triesFrom 28 = .ok (.invokevirtual 191, 3) := by decide +kernel
theorem dX11_triesFrom_31 : decode cX11_triesFrom 31 = .ok (.ifCond .lt 6, 3) := by decide +kernel
theorem dX11_triesFrom_34 : decode cX11_triesFrom 34 = .ok (.iload 5, 2) := by decide +kernel
theorem dX11_triesFrom_36 : decode cX11_triesFrom 36 = .ok (.ireturn, 1) := by decide +kernel
theorem dX11_triesFrom_37 : decode cX11_triesFrom 37 = .ok (.aload_n 0, 1) := by decide +kernel
theorem dX11_triesFrom_38 : decode cX11_triesFrom 38 = .ok (.aload_n 0, 1) := by decide +kernel
theorem dX11_triesFrom_39 : decode cX11_triesFrom 39 = .ok (.aload_n 0, 1) := by decide +kernel
theorem dX11_triesFrom_40 : decode cX11_triesFrom 40 = .ok (.getfield 252, 3) := by decide +kernel
theorem dX11_triesFrom_43 : decode cX11_triesFrom 43 = .ok (.iload_n 3, 1) := by decide +kernel
theorem dX11_triesFrom_44 : decode cX11_triesFrom 44 = .ok (.invokevirtual 255, 3) := by decide +kernel
theorem dX11_triesFrom_47 : decode cX11_triesFrom 47 = .ok (.putfield 252, 3) := by decide +kernel
theorem dX11_triesFrom_50 : decode cX11_triesFrom 50 = .ok (.iinc 5 1, 3) := by decide +kernel
theorem dX11_triesFrom_53 : decode cX11_triesFrom 53 = .ok (.goto (-40), 3) := by decide +kernel
theorem dX11_triesFrom_56 : decode cX11_triesFrom 56 = .ok (.bipush (-6), 2) := by decide +kernel
theorem dX11_triesFrom_58 : decode cX11_triesFrom 58 = .ok (.ireturn, 1) := by decide +kernel
theorem dX11_areTwo_0 : decode cX11_areTwo 0 = .ok (.aload_n 0, 1) := by decide +kernel
theorem dX11_areTwo_1 : decode cX11_areTwo 1 = .ok (.iload_n 1, 1) := by decide +kernel
theorem dX11_areTwo_2 : decode cX11_areTwo 2 = .ok (.invokevirtual 142, 3) := by decide +kernel
theorem dX11_areTwo_5 : decode cX11_areTwo 5 = .ok (.ifCond .eq 20, 3) := by decide +kernel
theorem dX11_areTwo_8 : decode cX11_areTwo 8 = .ok (.aload_n 0, 1) := by decide +kernel
theorem dX11_areTwo_9 : decode cX11_areTwo 9 = .ok (.iload_n 2, 1) := by decide +kernel
theorem dX11_areTwo_10 : decode cX11_areTwo 10 = .ok (.invokevirtual 142, 3) := by decide +kernel
theorem dX11_areTwo_13 : decode cX11_areTwo 13 = .ok (.ifCond .eq 12, 3) := by decide +kernel
theorem dX11_areTwo_16 : decode cX11_areTwo 16 = .ok (.iload_n 1, 1) := by decide +kernel
theorem dX11_areTwo_17 : decode cX11_areTwo 17 = .ok (.iload_n 2, 1) := by decide +kernel
theorem dX11_areTwo_18 : decode cX11_areTwo 18 = .ok (.if_icmp .eq 7, 3) := by decide +kernel
theorem dX11_areTwo_21 : decode cX11_areTwo 21 = .ok (.iconst 1, 1) := by decide +kernel
theorem dX11_areTwo_22 : decode cX11_areTwo 22 = .ok (.goto 4, 3) := by decide +kernel
theorem dX11_areTwo_25 : decode cX11_areTwo 25 = .ok (.iconst 0, 1) := by decide +kernel
theorem dX11_areTwo_26 : decode cX11_areTwo 26 = .ok (.ireturn, 1) := by decide +kernel
theorem dX11_learns_0 : decode cX11_learns 0 = .ok (.aload_n 0, 1) := by decide +kernel
theorem dX11_learns_1 : decode cX11_learns 1 = .ok (.iload_n 1, 1) := by decide +kernel
theorem dX11_learns_2 : decode cX11_learns 2 = .ok (.iload_n 3, 1) := by decide +kernel
theorem dX11_learns_3 : decode cX11_learns 3 = .ok (.invokevirtual 258, 3) := by decide +kernel
theorem dX11_learns_6 : decode cX11_learns 6 = .ok (.ifCond .ne 5, 3) := by decide +kernel
theorem dX11_learns_9 : decode cX11_learns 9 = .ok (.iconst (-1), 1) := by decide +kernel
theorem dX11_learns_10 : decode cX11_learns 10 = .ok (.ireturn, 1) := by decide +kernel
theorem dX11_learns_11 : decode cX11_learns 11 = .ok (.iload_n 2, 1) := by decide +kernel
theorem dX11_learns_12 : decode cX11_learns 12 = .ok (.i2l, 1) := by decide +kernel
theorem dX11_learns_13 : decode cX11_learns 13 = .ok (.lconst 1, 1) := by decide +kernel
theorem dX11_learns_14 : decode cX11_learns 14 = .ok (.ldc2_w 171, 3) := by decide +kernel
theorem dX11_learns_17 : decode cX11_learns 17 = .ok (.invokestatic 67, 3) := by decide +kernel
theorem dX11_learns_20 : decode cX11_learns 20 = .ok (.ifCond .eq 11, 3) := by decide +kernel
theorem dX11_learns_23 : decode cX11_learns 23 = .ok (.iload 4, 2) := by decide +kernel
theorem dX11_learns_25 : decode cX11_learns 25 = .ok (.invokestatic 121, 3) := by decide +kernel
theorem dX11_learns_28 : decode cX11_learns 28 = .ok (.ifCond .ne 6, 3) := by decide +kernel
theorem dX11_learns_31 : decode cX11_learns 31 = .ok (.bipush (-2), 2) := by decide +kernel
theorem dX11_learns_33 : decode cX11_learns 33 = .ok (.ireturn, 1) := by decide +kernel
theorem dX11_learns_34 : decode cX11_learns 34 = .ok (.aload_n 0, 1) := by decide +kernel
theorem dX11_learns_35 : decode cX11_learns 35 = .ok (.iload_n 1, 1) := by decide +kernel
theorem dX11_learns_36 : decode cX11_learns 36 = .ok (.iload_n 2, 1) := by decide +kernel
theorem dX11_learns_37 : decode cX11_learns 37 = .ok (.iload_n 3, 1) := by decide +kernel
theorem dX11_learns_38 : decode cX11_learns 38 = .ok (.aload_n 0, 1) := by decide +kernel
theorem dX11_learns_39 : decode cX11_learns 39 = .ok (.iload_n 1, 1) := by decide +kernel
theorem dX11_learns_40 : decode cX11_learns 40 = .ok (.iload_n 2, 1) := by decide +kernel
theorem dX11_learns_41 : decode cX11_learns 41 = .ok (.iload_n 3, 1) := by decide +kernel
theorem dX11_learns_42 : decode cX11_learns 42 = .ok (.invokevirtual 261, 3) := by decide +kernel
theorem dX11_learns_45 : decode cX11_learns 45 = .ok (.invokevirtual 264, 3) := by decide +kernel
theorem dX11_learns_48 : decode cX11_learns 48 = .ok (.istore 5, 2) := by decide +kernel
theorem dX11_learns_50 : decode cX11_learns 50 = .ok (.iload 5, 2) := by decide +kernel
theorem dX11_learns_52 : decode cX11_learns 52 = .ok (.ifCond .ge 8, 3) := by decide +kernel
theorem dX11_learns_55 : decode cX11_learns 55 = .ok (.bipush (-6), 2) := by decide +kernel
theorem dX11_learns_57 : decode cX11_learns 57 = .ok (.goto 17, 3) := by decide +kernel
theorem dX11_learns_60 : decode cX11_learns 60 = .ok (.iload 4, 2) := by decide +kernel
theorem dX11_learns_62 : decode cX11_learns 62 = .ok (.ifCond .ne 8, 3) := by decide +kernel
theorem dX11_learns_65 : decode cX11_learns 65 = .ok (.iload 5, 2) := by decide +kernel
theorem dX11_learns_67 : decode cX11_learns 67 = .ok (.goto 7, 3) := by decide +kernel
theorem dX11_learns_70 : decode cX11_learns 70 = .ok (.aload_n 0, 1) := by decide +kernel
theorem dX11_learns_71 : decode cX11_learns 71 = .ok (.getfield 252, 3) := by decide +kernel
theorem dX11_learns_74 : decode cX11_learns 74 = .ok (.ireturn, 1) := by decide +kernel
theorem dX11_along_0 : decode cX11_along 0 = .ok (.aload_n 0, 1) := by decide +kernel
theorem dX11_along_1 : decode cX11_along 1 = .ok (.iload_n 1, 1) := by decide +kernel
theorem dX11_along_2 : decode cX11_along 2 = .ok (.iload_n 3, 1) := by decide +kernel
theorem dX11_along_3 : decode cX11_along 3 = .ok (.invokevirtual 258, 3) := by decide +kernel
theorem dX11_along_6 : decode cX11_along 6 = .ok (.ifCond .ne 5, 3) := by decide +kernel
theorem dX11_along_9 : decode cX11_along 9 = .ok (.iconst (-1), 1) := by decide +kernel
theorem dX11_along_10 : decode cX11_along 10 = .ok (.ireturn, 1) := by decide +kernel
theorem dX11_along_11 : decode cX11_along 11 = .ok (.iload_n 2, 1) := by decide +kernel
theorem dX11_along_12 : decode cX11_along 12 = .ok (.i2l, 1) := by decide +kernel
theorem dX11_along_13 : decode cX11_along 13 = .ok (.lconst 1, 1) := by decide +kernel
theorem dX11_along_14 : decode cX11_along 14 = .ok (.ldc2_w 171, 3) := by decide +kernel
theorem dX11_along_17 : decode cX11_along 17 = .ok (.invokestatic 67, 3) := by decide +kernel
theorem dX11_along_20 : decode cX11_along 20 = .ok (.ifCond .eq 16, 3) := by decide +kernel
theorem dX11_along_23 : decode cX11_along 23 = .ok (.iload 4, 2) := by decide +kernel
theorem dX11_along_25 : decode cX11_along 25 = .ok (.i2l, 1) := by decide +kernel
theorem dX11_along_26 : decode cX11_along 26 = .ok (.lconst 0, 1) := by decide +kernel
theorem dX11_along_27 : decode cX11_along 27 = .ok (.ldc2_w 267, 3) := by decide +kernel
theorem dX11_along_30 : decode cX11_along 30 = .ok (.invokestatic 67, 3) := by decide +kernel
theorem dX11_along_33 : decode cX11_along 33 = .ok (.ifCond .ne 6, 3) := by decide +kernel
theorem dX11_along_36 : decode cX11_along 36 = .ok (.bipush (-2), 2) := by decide +kernel
theorem dX11_along_38 : decode cX11_along 38 = .ok (.ireturn, 1) := by decide +kernel
theorem dX11_along_39 : decode cX11_along 39 = .ok (.aload_n 0, 1) := by decide +kernel
theorem dX11_along_40 : decode cX11_along 40 = .ok (.iload_n 1, 1) := by decide +kernel
theorem dX11_along_41 : decode cX11_along 41 = .ok (.iload_n 2, 1) := by decide +kernel
theorem dX11_along_42 : decode cX11_along 42 = .ok (.iload_n 3, 1) := by decide +kernel
theorem dX11_along_43 : decode cX11_along 43 = .ok (.aload_n 0, 1) := by decide +kernel
theorem dX11_along_44 : decode cX11_along 44 = .ok (.iload_n 1, 1) := by decide +kernel
theorem dX11_along_45 : decode cX11_along 45 = .ok (.iload_n 2, 1) := by decide +kernel
theorem dX11_along_46 : decode cX11_along 46 = .ok (.iload_n 3, 1) := by decide +kernel
theorem dX11_along_47 : decode cX11_along 47 = .ok (.invokevirtual 261, 3) := by decide +kernel
theorem dX11_along_50 : decode cX11_along 50 = .ok (.invokevirtual 264, 3) := by decide +kernel
theorem dX11_along_53 : decode cX11_along 53 = .ok (.ifCond .ge 6, 3) := by decide +kernel
theorem dX11_along_56 : decode cX11_along 56 = .ok (.bipush (-6), 2) := by decide +kernel
theorem dX11_along_58 : decode cX11_along 58 = .ok (.ireturn, 1) := by decide +kernel
theorem dX11_along_59 : decode cX11_along 59 = .ok (.aload_n 0, 1) := by decide +kernel
theorem dX11_along_60 : decode cX11_along 60 = .ok (.getfield 13, 3) := by decide +kernel
theorem dX11_along_63 : decode cX11_along 63 = .ok (.iconst 0, 1) := by decide +kernel
theorem dX11_along_64 : decode cX11_along 64 = .ok (.iaload, 1) := by decide +kernel
theorem dX11_along_65 : decode cX11_along 65 = .ok (.istore 5, 2) := by decide +kernel
theorem dX11_along_67 : decode cX11_along 67 = .ok (.aload_n 0, 1) := by decide +kernel
theorem dX11_along_68 : decode cX11_along 68 = .ok (.getfield 13, 3) := by decide +kernel
theorem dX11_along_71 : decode cX11_along 71 = .ok (.iconst 0, 1) := by decide +kernel
theorem dX11_along_72 : decode cX11_along 72 = .ok (.iload 4, 2) := by decide +kernel
theorem dX11_along_74 : decode cX11_along 74 = .ok (.bipush 99, 2) := by decide +kernel
theorem dX11_along_76 : decode cX11_along 76 = .ok (.isub, 1) := by decide +kernel
theorem dX11_along_77 : decode cX11_along 77 = .ok (.iastore, 1) := by decide +kernel
theorem dX11_along_78 : decode cX11_along 78 = .ok (.aload_n 0, 1) := by decide +kernel
theorem dX11_along_79 : decode cX11_along 79 = .ok (.iload_n 1, 1) := by decide +kernel
theorem dX11_along_80 : decode cX11_along 80 = .ok (.iload_n 2, 1) := by decide +kernel
theorem dX11_along_81 : decode cX11_along 81 = .ok (.iload_n 3, 1) := by decide +kernel
theorem dX11_along_82 : decode cX11_along 82 = .ok (.aload_n 0, 1) := by decide +kernel
theorem dX11_along_83 : decode cX11_along 83 = .ok (.getfield 252, 3) := by decide +kernel
theorem dX11_along_86 : decode cX11_along 86 = .ok (.invokevirtual 264, 3) := by decide +kernel
theorem dX11_along_89 : decode cX11_along 89 = .ok (.istore 6, 2) := by decide +kernel
theorem dX11_along_91 : decode cX11_along 91 = .ok (.aload_n 0, 1) := by decide +kernel
theorem dX11_along_92 : decode cX11_along 92 = .ok (.getfield 13, 3) := by decide +kernel
theorem dX11_along_95 : decode cX11_along 95 = .ok (.iconst 0, 1) := by decide +kernel
theorem dX11_along_96 : decode cX11_along 96 = .ok (.iload 5, 2) := by decide +kernel
theorem dX11_along_98 : decode cX11_along 98 = .ok (.iastore, 1) := by decide +kernel
theorem dX11_along_99 : decode cX11_along 99 = .ok (.iload 6, 2) := by decide +kernel
theorem dX11_along_101 : decode cX11_along 101 = .ok (.ireturn, 1) := by decide +kernel
theorem dX11_pass_0 : decode cX11_pass 0 = .ok (.aload_n 0, 1) := by decide +kernel
theorem dX11_pass_1 : decode cX11_pass 1 = .ok (.getfield 269, 3) := by decide +kernel
theorem dX11_pass_4 : decode cX11_pass 4 = .ok (.ifCond .eq 7, 3) := by decide +kernel
theorem dX11_pass_7 : decode cX11_pass 7 = .ok (.iload_n 1, 1) := by decide +kernel
theorem dX11_pass_8 : decode cX11_pass 8 = .ok (.goto 12, 3) := by decide +kernel
theorem dX11_pass_11 : decode cX11_pass 11 = .ok (.aload_n 0, 1) := by decide +kernel
theorem dX11_pass_12 : decode cX11_pass 12 = .ok (.getfield 59, 3) := by decide +kernel
theorem dX11_pass_15 : decode cX11_pass 15 = .ok (.aload_n 0, 1) := by decide +kernel
theorem dX11_pass_16 : decode cX11_pass 16 = .ok (.getfield 273, 3) := by decide +kernel
theorem dX11_pass_19 : decode cX11_pass 19 = .ok (.iaload, 1) := by decide +kernel
theorem dX11_pass_20 : decode cX11_pass 20 = .ok (.istore_n 2, 1) := by decide +kernel
theorem dX11_pass_21 : decode cX11_pass 21 = .ok (.aload_n 0, 1) := by decide +kernel
theorem dX11_pass_22 : decode cX11_pass 22 = .ok (.getfield 59, 3) := by decide +kernel
theorem dX11_pass_25 : decode cX11_pass 25 = .ok (.aload_n 0, 1) := by decide +kernel
theorem dX11_pass_26 : decode cX11_pass 26 = .ok (.getfield 273, 3) := by decide +kernel
theorem dX11_pass_29 : decode cX11_pass 29 = .ok (.iload_n 2, 1) := by decide +kernel
theorem dX11_pass_30 : decode cX11_pass 30 = .ok (.iastore, 1) := by decide +kernel
theorem dX11_pass_31 : decode cX11_pass 31 = .ok (.aload_n 0, 1) := by decide +kernel
theorem dX11_pass_32 : decode cX11_pass 32 = .ok (.dup, 1) := by decide +kernel
theorem dX11_pass_33 : decode cX11_pass 33 = .ok (.getfield 273, 3) := by decide +kernel
theorem dX11_pass_36 : decode cX11_pass 36 = .ok (.iconst 1, 1) := by decide +kernel
theorem dX11_pass_37 : decode cX11_pass 37 = .ok (.iadd, 1) := by decide +kernel
theorem dX11_pass_38 : decode cX11_pass 38 = .ok (.putfield 273, 3) := by decide +kernel
theorem dX11_pass_41 : decode cX11_pass 41 = .ok (.iload_n 2, 1) := by decide +kernel
theorem dX11_pass_42 : decode cX11_pass 42 = .ok (.ireturn, 1) := by decide +kernel
theorem dX11_passAll_0 : decode cX11_passAll 0 = .ok (.aload_n 0, 1) := by decide +kernel
theorem dX11_passAll_1 : decode cX11_passAll 1 = .ok (.aload_n 0, 1) := by decide +kernel
theorem dX11_passAll_2 : decode cX11_passAll 2 = .ok (.aload_n 0, 1) := by decide +kernel
theorem dX11_passAll_3 : decode cX11_passAll 3 = .ok (.getfield 109, 3) := by decide +kernel
theorem dX11_passAll_6 : decode cX11_passAll 6 = .ok (.invokevirtual 276, 3) := by decide +kernel
theorem dX11_passAll_9 : decode cX11_passAll 9 = .ok (.putfield 109, 3) := by decide +kernel
theorem dX11_passAll_12 : decode cX11_passAll 12 = .ok (.aload_n 0, 1) := by decide +kernel
theorem dX11_passAll_13 : decode cX11_passAll 13 = .ok (.aload_n 0, 1) := by decide +kernel
theorem dX11_passAll_14 : decode cX11_passAll 14 = .ok (.aload_n 0, 1) := by decide +kernel
theorem dX11_passAll_15 : decode cX11_passAll 15 = .ok (.getfield 112, 3) := by decide +kernel
theorem dX11_passAll_18 : decode cX11_passAll 18 = .ok (.invokevirtual 276, 3) := by decide +kernel
theorem dX11_passAll_21 : decode cX11_passAll 21 = .ok (.putfield 112, 3) := by decide +kernel
theorem dX11_passAll_24 : decode cX11_passAll 24 = .ok (.aload_n 0, 1) := by decide +kernel
theorem dX11_passAll_25 : decode cX11_passAll 25 = .ok (.aload_n 0, 1) := by decide +kernel
theorem dX11_passAll_26 : decode cX11_passAll 26 = .ok (.aload_n 0, 1) := by decide +kernel
theorem dX11_passAll_27 : decode cX11_passAll 27 = .ok (.getfield 132, 3) := by decide +kernel
theorem dX11_passAll_30 : decode cX11_passAll 30 = .ok (.invokevirtual 276, 3) := by decide +kernel
theorem dX11_passAll_33 : decode cX11_passAll 33 = .ok (.putfield 132, 3) := by decide +kernel
theorem dX11_passAll_36 : decode cX11_passAll 36 = .ok (.aload_n 0, 1) := by decide +kernel
theorem dX11_passAll_37 : decode cX11_passAll 37 = .ok (.aload_n 0, 1) := by decide +kernel
theorem dX11_passAll_38 : decode cX11_passAll 38 = .ok (.aload_n 0, 1) := by decide +kernel
theorem dX11_passAll_39 : decode cX11_passAll 39 = .ok (.getfield 240, 3) := by decide +kernel
theorem dX11_passAll_42 : decode cX11_passAll 42 = .ok (.invokevirtual 276, 3) := by decide +kernel
theorem dX11_passAll_45 : decode cX11_passAll 45 = .ok (.putfield 240, 3) := by decide +kernel
theorem dX11_passAll_48 : decode cX11_passAll 48 = .ok (.iconst 0, 1) := by decide +kernel
theorem dX11_passAll_49 : decode cX11_passAll 49 = .ok (.istore_n 1, 1) := by decide +kernel
theorem dX11_passAll_50 : decode cX11_passAll 50 = .ok (.iload_n 1, 1) := by decide +kernel
theorem dX11_passAll_51 : decode cX11_passAll 51 = .ok (.iconst 5, 1) := by decide +kernel
theorem dX11_passAll_52 : decode cX11_passAll 52 = .ok (.if_icmp .ge 25, 3) := by decide +kernel
theorem dX11_passAll_55 : decode cX11_passAll 55 = .ok (.aload_n 0, 1) := by decide +kernel
theorem dX11_passAll_56 : decode cX11_passAll 56 = .ok (.getfield 13, 3) := by decide +kernel
theorem dX11_passAll_59 : decode cX11_passAll 59 = .ok (.iload_n 1, 1) := by decide +kernel
theorem dX11_passAll_60 : decode cX11_passAll 60 = .ok (.aload_n 0, 1) := by decide +kernel
theorem dX11_passAll_61 : decode cX11_passAll 61 = .ok (.aload_n 0, 1) := by decide +kernel
theorem dX11_passAll_62 : decode cX11_passAll 62 = .ok (.getfield 13, 3) := by decide +kernel
theorem dX11_passAll_65 : decode cX11_passAll 65 = .ok (.iload_n 1, 1) := by decide +kernel
theorem dX11_passAll_66 : decode cX11_passAll 66 = .ok (.iaload, 1) := by decide +kernel
theorem dX11_passAll_67 : decode cX11_passAll 67 = .ok (.invokevirtual 276, 3) := by decide +kernel
theorem dX11_passAll_70 : decode cX11_passAll 70 = .ok (.iastore, 1) := by decide +kernel
theorem dX11_passAll_71 : decode cX11_passAll 71 = .ok (.iinc 1 1, 3) := by decide +kernel
theorem dX11_passAll_74 : decode cX11_passAll 74 = .ok (.goto (-24), 3) := by decide +kernel
theorem dX11_passAll_77 : decode cX11_passAll 77 = .ok (.iconst 0, 1) := by decide +kernel
theorem dX11_passAll_78 : decode cX11_passAll 78 = .ok (.istore_n 1, 1) := by decide +kernel
theorem dX11_passAll_79 : decode cX11_passAll 79 = .ok (.iload_n 1, 1) := by decide +kernel
theorem dX11_passAll_80 : decode cX11_passAll 80 = .ok (.bipush 20, 2) := by decide +kernel
theorem dX11_passAll_82 : decode cX11_passAll 82 = .ok (.if_icmp .ge 41, 3) := by decide +kernel
theorem dX11_passAll_85 : decode cX11_passAll 85 = .ok (.aload_n 0, 1) := by decide +kernel
theorem dX11_passAll_86 : decode cX11_passAll 86 = .ok (.getfield 25, 3) := by decide +kernel
theorem dX11_passAll_89 : decode cX11_passAll 89 = .ok (.iload_n 1, 1) := by decide +kernel
theorem dX11_passAll_90 : decode cX11_passAll 90 = .ok (.aload_n 0, 1) := by decide +kernel
theorem dX11_passAll_91 : decode cX11_passAll 91 = .ok (.aload_n 0, 1) := by decide +kernel
theorem dX11_passAll_92 : decode cX11_passAll 92 = .ok (.getfield 25, 3) := by decide +kernel
theorem dX11_passAll_95 : decode cX11_passAll 95 = .ok (.iload_n 1, 1) := by decide +kernel
theorem dX11_passAll_96 : decode cX11_passAll 96 = .ok (.iaload, 1) := by decide +kernel
theorem dX11_passAll_97 : decode cX11_passAll 97 = .ok (.invokevirtual 276, 3) := by decide +kernel
theorem dX11_passAll_100 : decode cX11_passAll 100 = .ok (.iastore, 1) := by decide +kernel
theorem dX11_passAll_101 : decode cX11_passAll 101 = .ok (.aload_n 0, 1) := by decide +kernel
theorem dX11_passAll_102 : decode cX11_passAll 102 = .ok (.getfield 28, 3) := by decide +kernel
theorem dX11_passAll_105 : decode cX11_passAll 105 = .ok (.iload_n 1, 1) := by decide +kernel
theorem dX11_passAll_106 : decode cX11_passAll 106 = .ok (.aload_n 0, 1) := by decide +kernel
theorem dX11_passAll_107 : decode cX11_passAll 107 = .ok (.aload_n 0, 1) := by decide +kernel
theorem dX11_passAll_108 : decode cX11_passAll 108 = .ok (.getfield 28, 3) := by decide +kernel
theorem dX11_passAll_111 : decode cX11_passAll 111 = .ok (.iload_n 1, 1) := by decide +kernel
theorem dX11_passAll_112 : decode cX11_passAll 112 = .ok (.iaload, 1) := by decide +kernel
theorem dX11_passAll_113 : decode cX11_passAll 113 = .ok (.invokevirtual 276, 3) := by decide +kernel
theorem dX11_passAll_116 : decode cX11_passAll 116 = .ok (.iastore, 1) := by decide +kernel
theorem dX11_passAll_117 : decode cX11_passAll 117 = .ok (.iinc 1 1, 3) := by decide +kernel
theorem dX11_passAll_120 : decode cX11_passAll 120 = .ok (.goto (-41), 3) := by decide +kernel
theorem dX11_passAll_123 : decode cX11_passAll 123 = .ok (.iconst 0, 1) := by decide +kernel
theorem dX11_passAll_124 : decode cX11_passAll 124 = .ok (.istore_n 1, 1) := by decide +kernel
theorem dX11_passAll_125 : decode cX11_passAll 125 = .ok (.iload_n 1, 1) := by decide +kernel
theorem dX11_passAll_126 : decode cX11_passAll 126 = .ok (.bipush 8, 2) := by decide +kernel
theorem dX11_passAll_128 : decode cX11_passAll 128 = .ok (.if_icmp .ge 41, 3) := by decide +kernel
theorem dX11_passAll_131 : decode cX11_passAll 131 = .ok (.aload_n 0, 1) := by decide +kernel
theorem dX11_passAll_132 : decode cX11_passAll 132 = .ok (.getfield 31, 3) := by decide +kernel
theorem dX11_passAll_135 : decode cX11_passAll 135 = .ok (.iload_n 1, 1) := by decide +kernel
theorem dX11_passAll_136 : decode cX11_passAll 136 = .ok (.aload_n 0, 1) := by decide +kernel
theorem dX11_passAll_137 : decode cX11_passAll 137 = .ok (.aload_n 0, 1) := by decide +kernel
theorem dX11_passAll_138 : decode cX11_passAll 138 = .ok (.getfield 31, 3) := by decide +kernel
theorem dX11_passAll_141 : decode cX11_passAll 141 = .ok (.iload_n 1, 1) := by decide +kernel
theorem dX11_passAll_142 : decode cX11_passAll 142 = .ok (.iaload, 1) := by decide +kernel
theorem dX11_passAll_143 : decode cX11_passAll 143 = .ok (.invokevirtual 276, 3) := by decide +kernel
theorem dX11_passAll_146 : decode cX11_passAll 146 = .ok (.iastore, 1) := by decide +kernel
theorem dX11_passAll_147 : decode cX11_passAll 147 = .ok (.aload_n 0, 1) := by decide +kernel
theorem dX11_passAll_148 : decode cX11_passAll 148 = .ok (.getfield 34, 3) := by decide +kernel
theorem dX11_passAll_151 : decode cX11_passAll 151 = .ok (.iload_n 1, 1) := by decide +kernel
theorem dX11_passAll_152 : decode cX11_passAll 152 = .ok (.aload_n 0, 1) := by decide +kernel
theorem dX11_passAll_153 : decode cX11_passAll 153 = .ok (.aload_n 0, 1) := by decide +kernel
theorem dX11_passAll_154 : decode cX11_passAll 154 = .ok (.getfield 34, 3) := by decide +kernel
theorem dX11_passAll_157 : decode cX11_passAll 157 = .ok (.iload_n 1, 1) := by decide +kernel
theorem dX11_passAll_158 : decode cX11_passAll 158 = .ok (.iaload, 1) := by decide +kernel
theorem dX11_passAll_159 : decode cX11_passAll 159 = .ok (.invokevirtual 276, 3) := by decide +kernel
theorem dX11_passAll_162 : decode cX11_passAll 162 = .ok (.iastore, 1) := by decide +kernel
theorem dX11_passAll_163 : decode cX11_passAll 163 = .ok (.iinc 1 1, 3) := by decide +kernel
theorem dX11_passAll_166 : decode cX11_passAll 166 = .ok (.goto (-41), 3) := by decide +kernel
theorem dX11_passAll_169 : decode cX11_passAll 169 = .ok (.iconst 0, 1) := by decide +kernel
theorem dX11_passAll_170 : decode cX11_passAll 170 = .ok (.istore_n 1, 1) := by decide +kernel
theorem dX11_passAll_171 : decode cX11_passAll 171 = .ok (.iload_n 1, 1) := by decide +kernel
theorem dX11_passAll_172 : decode cX11_passAll 172 = .ok (.bipush 24, 2) := by decide +kernel
theorem dX11_passAll_174 : decode cX11_passAll 174 = .ok (.if_icmp .ge 41, 3) := by decide +kernel
theorem dX11_passAll_177 : decode cX11_passAll 177 = .ok (.aload_n 0, 1) := by decide +kernel
theorem dX11_passAll_178 : decode cX11_passAll 178 = .ok (.getfield 47, 3) := by decide +kernel
theorem dX11_passAll_181 : decode cX11_passAll 181 = .ok (.iload_n 1, 1) := by decide +kernel
theorem dX11_passAll_182 : decode cX11_passAll 182 = .ok (.aload_n 0, 1) := by decide +kernel
theorem dX11_passAll_183 : decode cX11_passAll 183 = .ok (.aload_n 0, 1) := by decide +kernel
theorem dX11_passAll_184 : decode cX11_passAll 184 = .ok (.getfield 47, 3) := by decide +kernel
theorem dX11_passAll_187 : decode cX11_passAll 187 = .ok (.iload_n 1, 1) := by decide +kernel
theorem dX11_passAll_188 : decode cX11_passAll 188 = .ok (.iaload, 1) := by decide +kernel
theorem dX11_passAll_189 : decode cX11_passAll 189 = .ok (.invokevirtual 276, 3) := by decide +kernel
theorem dX11_passAll_192 : decode cX11_passAll 192 = .ok (.iastore, 1) := by decide +kernel
theorem dX11_passAll_193 : decode cX11_passAll 193 = .ok (.aload_n 0, 1) := by decide +kernel
theorem dX11_passAll_194 : decode cX11_passAll 194 = .ok (.getfield 50, 3) := by decide +kernel
theorem dX11_passAll_197 : decode cX11_passAll 197 = .ok (.iload_n 1, 1) := by decide +kernel
theorem dX11_passAll_198 : decode cX11_passAll 198 = .ok (.aload_n 0, 1) := by decide +kernel
theorem dX11_passAll_199 : decode cX11_passAll 199 = .ok (.aload_n 0, 1) := by decide +kernel
theorem dX11_passAll_200 : decode cX11_passAll 200 = .ok (.getfield 50, 3) := by decide +kernel
theorem dX11_passAll_203 : decode cX11_passAll 203 = .ok (.iload_n 1, 1) := by decide +kernel
theorem dX11_passAll_204 : decode cX11_passAll 204 = .ok (.iaload, 1) := by decide +kernel
theorem dX11_passAll_205 : decode cX11_passAll 205 = .ok (.invokevirtual 276, 3) := by decide +kernel
theorem dX11_passAll_208 : decode cX11_passAll 208 = .ok (.iastore, 1) := by decide +kernel
theorem dX11_passAll_209 : decode cX11_passAll 209 = .ok (.iinc 1 1, 3) := by decide +kernel
theorem dX11_passAll_212 : decode cX11_passAll 212 = .ok (.goto (-41), 3) := by decide +kernel
theorem dX11_passAll_215 : decode cX11_passAll 215 = .ok (.return_, 1) := by decide +kernel
theorem dX11_image_0 : decode cX11_image 0 = .ok (.iload_n 1, 1) := by decide +kernel
theorem dX11_image_1 : decode cX11_image 1 = .ok (.invokestatic 121, 3) := by decide +kernel
theorem dX11_image_4 : decode cX11_image 4 = .ok (.ifCond .ne 6, 3) := by decide +kernel
theorem dX11_image_7 : decode cX11_image 7 = .ok (.bipush (-2), 2) := by decide +kernel
theorem dX11_image_9 : decode cX11_image 9 = .ok (.ireturn, 1) := by decide +kernel
theorem dX11_image_10 : decode cX11_image 10 = .ok (.aload_n 0, 1) := by decide +kernel
theorem dX11_image_11 : decode cX11_image 11 = .ok (.sipush 140, 3) := by decide +kernel
theorem dX11_image_14 : decode cX11_image 14 = .ok (.iload_n 1, 1) := by decide +kernel
theorem dX11_image_15 : decode cX11_image 15 = .ok (.imul, 1) := by decide +kernel
theorem dX11_image_16 : decode cX11_image 16 = .ok (.putfield 273, 3) := by decide +kernel
theorem dX11_image_19 : decode cX11_image 19 = .ok (.aload_n 0, 1) := by decide +kernel
theorem dX11_image_20 : decode cX11_image 20 = .ok (.iconst 1, 1) := by decide +kernel
theorem dX11_image_21 : decode cX11_image 21 = .ok (.putfield 269, 3) := by decide +kernel
theorem dX11_image_24 : decode cX11_image 24 = .ok (.aload_n 0, 1) := by decide +kernel
theorem dX11_image_25 : decode cX11_image 25 = .ok (.invokevirtual 279, 3) := by decide +kernel
theorem dX11_image_28 : decode cX11_image 28 = .ok (.aload_n 0, 1) := by decide +kernel
theorem dX11_image_29 : decode cX11_image 29 = .ok (.getfield 62, 3) := by decide +kernel
theorem dX11_image_32 : decode cX11_image 32 = .ok (.iload_n 1, 1) := by decide +kernel
theorem dX11_image_33 : decode cX11_image 33 = .ok (.iconst 1, 1) := by decide +kernel
theorem dX11_image_34 : decode cX11_image 34 = .ok (.bastore, 1) := by decide +kernel
theorem dX11_image_35 : decode cX11_image 35 = .ok (.iconst 1, 1) := by decide +kernel
theorem dX11_image_36 : decode cX11_image 36 = .ok (.ireturn, 1) := by decide +kernel
theorem dX11_restore_0 : decode cX11_restore 0 = .ok (.iload_n 1, 1) := by decide +kernel
theorem dX11_restore_1 : decode cX11_restore 1 = .ok (.invokestatic 121, 3) := by decide +kernel
theorem dX11_restore_4 : decode cX11_restore 4 = .ok (.ifCond .ne 6, 3) := by decide +kernel
theorem dX11_restore_7 : decode cX11_restore 7 = .ok (.bipush (-2), 2) := by decide +kernel
theorem dX11_restore_9 : decode cX11_restore 9 = .ok (.ireturn, 1) := by decide +kernel
theorem dX11_restore_10 : decode cX11_restore 10 = .ok (.aload_n 0, 1) := by decide +kernel
theorem dX11_restore_11 : decode cX11_restore 11 = .ok (.getfield 62, 3) := by decide +kernel
theorem dX11_restore_14 : decode cX11_restore 14 = .ok (.iload_n 1, 1) := by decide +kernel
theorem dX11_restore_15 : decode cX11_restore 15 = .ok (.baload, 1) := by decide +kernel
theorem dX11_restore_16 : decode cX11_restore 16 = .ok (.ifCond .ne 6, 3) := by decide +kernel
theorem dX11_restore_19 : decode cX11_restore 19 = .ok (.bipush (-3), 2) := by decide +kernel
theorem dX11_restore_21 : decode cX11_restore 21 = .ok (.ireturn, 1) := by decide +kernel
theorem dX11_restore_22 : decode cX11_restore 22 = .ok (.aload_n 0, 1) := by decide +kernel
theorem dX11_restore_23 : decode cX11_restore 23 = .ok (.sipush 140, 3) := by decide +kernel
theorem dX11_restore_26 : decode cX11_restore 26 = .ok (.iload_n 1, 1) := by decide +kernel
theorem dX11_restore_27 : decode cX11_restore 27 = .ok (.imul, 1) := by decide +kernel
theorem dX11_restore_28 : decode cX11_restore 28 = .ok (.putfield 273, 3) := by decide +kernel
theorem dX11_restore_31 : decode cX11_restore 31 = .ok (.aload_n 0, 1) := by decide +kernel
theorem dX11_restore_32 : decode cX11_restore 32 = .ok (.iconst 0, 1) := by decide +kernel
theorem dX11_restore_33 : decode cX11_restore 33 = .ok (.putfield 269, 3) := by decide +kernel
theorem dX11_restore_36 : decode cX11_restore 36 = .ok (.aload_n 0, 1) := by decide +kernel
theorem dX11_restore_37 : decode cX11_restore 37 = .ok (.invokevirtual 279, 3) := by decide +kernel
theorem dX11_restore_40 : decode cX11_restore 40 = .ok (.iconst 1, 1) := by decide +kernel
theorem dX11_restore_41 : decode cX11_restore 41 = .ok (.ireturn, 1) := by decide +kernel
theorem dX11_told_0 : decode cX11_told 0 = .ok (.iload_n 1, 1) := by decide +kernel
theorem dX11_told_1 : decode cX11_told 1 = .ok (.i2l, 1) := by decide +kernel
theorem dX11_told_2 : decode cX11_told 2 = .ok (.ldc2_w 82, 3) := by decide +kernel
theorem dX11_told_5 : decode cX11_told 5 = .ok (.ldc2_w 282, 3) := by decide +kernel
theorem dX11_told_8 : decode cX11_told 8 = .ok (.invokestatic 67, 3) := by decide +kernel
theorem dX11_told_11 : decode cX11_told 11 = .ok (.ifCond .eq 11, 3) := by decide +kernel
theorem dX11_told_14 : decode cX11_told 14 = .ok (.aload_n 0, 1) := by decide +kernel
theorem dX11_told_15 : decode cX11_told 15 = .ok (.iload_n 1, 1) := by decide +kernel
theorem dX11_told_16 : decode cX11_told 16 = .ok (.iconst 4, 1) := by decide +kernel
theorem dX11_told_17 : decode cX11_told 17 = .ok (.isub, 1) := by decide +kernel
theorem dX11_told_18 : decode cX11_told 18 = .ok (.invokevirtual 84, 3) := by decide +kernel
theorem dX11_told_21 : decode cX11_told 21 = .ok (.ireturn, 1) := by decide +kernel
theorem dX11_told_22 : decode cX11_told 22 = .ok (.iload_n 1, 1) := by decide +kernel
theorem dX11_told_23 : decode cX11_told 23 = .ok (.tableswitch 49 0 3 #[29, 34, 39, 44], 29) := by decide +kernel
theorem dX11_told_52 : decode cX11_told 52 = .ok (.aload_n 0, 1) := by decide +kernel
theorem dX11_told_53 : decode cX11_told 53 = .ok (.getfield 92, 3) := by decide +kernel
theorem dX11_told_56 : decode cX11_told 56 = .ok (.ireturn, 1) := by decide +kernel
theorem dX11_told_57 : decode cX11_told 57 = .ok (.aload_n 0, 1) := by decide +kernel
theorem dX11_told_58 : decode cX11_told 58 = .ok (.getfield 112, 3) := by decide +kernel
theorem dX11_told_61 : decode cX11_told 61 = .ok (.ireturn, 1) := by decide +kernel
theorem dX11_told_62 : decode cX11_told 62 = .ok (.aload_n 0, 1) := by decide +kernel
theorem dX11_told_63 : decode cX11_told 63 = .ok (.getfield 132, 3) := by decide +kernel
theorem dX11_told_66 : decode cX11_told 66 = .ok (.ireturn, 1) := by decide +kernel
theorem dX11_told_67 : decode cX11_told 67 = .ok (.aload_n 0, 1) := by decide +kernel
theorem dX11_told_68 : decode cX11_told 68 = .ok (.getfield 240, 3) := by decide +kernel
theorem dX11_told_71 : decode cX11_told 71 = .ok (.ireturn, 1) := by decide +kernel
theorem dX11_told_72 : decode cX11_told 72 = .ok (.bipush (-2), 2) := by decide +kernel
theorem dX11_told_74 : decode cX11_told 74 = .ok (.ireturn, 1) := by decide +kernel
theorem dJ6_bitCount_0f7a4_0 : decode cJ6_bitCount_0f7a4 0 = .ok (.iload_n 0, 1) := by decide +kernel
theorem dJ6_bitCount_0f7a4_1 : decode cJ6_bitCount_0f7a4 1 = .ok (.iload_n 0, 1) := by decide +kernel
theorem dJ6_bitCount_0f7a4_2 : decode cJ6_bitCount_0f7a4 2 = .ok (.iconst 1, 1) := by decide +kernel
theorem dJ6_bitCount_0f7a4_3 : decode cJ6_bitCount_0f7a4 3 = .ok (.iushr, 1) := by decide +kernel
theorem dJ6_bitCount_0f7a4_4 : decode cJ6_bitCount_0f7a4 4 = .ok (.ldc_w 265, 3) := by decide +kernel
theorem dJ6_bitCount_0f7a4_7 : decode cJ6_bitCount_0f7a4 7 = .ok (.iand, 1) := by decide +kernel
theorem dJ6_bitCount_0f7a4_8 : decode cJ6_bitCount_0f7a4 8 = .ok (.isub, 1) := by decide +kernel
theorem dJ6_bitCount_0f7a4_9 : decode cJ6_bitCount_0f7a4 9 = .ok (.istore_n 0, 1) := by decide +kernel
theorem dJ6_bitCount_0f7a4_10 : decode cJ6_bitCount_0f7a4 10 = .ok (.iload_n 0, 1) := by decide +kernel
theorem dJ6_bitCount_0f7a4_11 : decode cJ6_bitCount_0f7a4 11 = .ok (.ldc_w 266, 3) := by decide +kernel
theorem dJ6_bitCount_0f7a4_14 : decode cJ6_bitCount_0f7a4 14 = .ok (.iand, 1) := by decide +kernel
theorem dJ6_bitCount_0f7a4_15 : decode cJ6_bitCount_0f7a4 15 = .ok (.iload_n 0, 1) := by decide +kernel
theorem dJ6_bitCount_0f7a4_16 : decode cJ6_bitCount_0f7a4 16 = .ok (.iconst 2, 1) := by decide +kernel
theorem dJ6_bitCount_0f7a4_17 : decode cJ6_bitCount_0f7a4 17 = .ok (.iushr, 1) := by decide +kernel
theorem dJ6_bitCount_0f7a4_18 : decode cJ6_bitCount_0f7a4 18 = .ok (.ldc_w 266, 3) := by decide +kernel
theorem dJ6_bitCount_0f7a4_21 : decode cJ6_bitCount_0f7a4 21 = .ok (.iand, 1) := by decide +kernel
theorem dJ6_bitCount_0f7a4_22 : decode cJ6_bitCount_0f7a4 22 = .ok (.iadd, 1) := by decide +kernel
theorem dJ6_bitCount_0f7a4_23 : decode cJ6_bitCount_0f7a4 23 = .ok (.istore_n 0, 1) := by decide +kernel
theorem dJ6_bitCount_0f7a4_24 : decode cJ6_bitCount_0f7a4 24 = .ok (.iload_n 0, 1) := by decide +kernel
theorem dJ6_bitCount_0f7a4_25 : decode cJ6_bitCount_0f7a4 25 = .ok (.iload_n 0, 1) := by decide +kernel
theorem dJ6_bitCount_0f7a4_26 : decode cJ6_bitCount_0f7a4 26 = .ok (.iconst 4, 1) := by decide +kernel
theorem dJ6_bitCount_0f7a4_27 : decode cJ6_bitCount_0f7a4 27 = .ok (.iushr, 1) := by decide +kernel
theorem dJ6_bitCount_0f7a4_28 : decode cJ6_bitCount_0f7a4 28 = .ok (.iadd, 1) := by decide +kernel
theorem dJ6_bitCount_0f7a4_29 : decode cJ6_bitCount_0f7a4 29 = .ok (.ldc_w 267, 3) := by decide +kernel
theorem dJ6_bitCount_0f7a4_32 : decode cJ6_bitCount_0f7a4 32 = .ok (.iand, 1) := by decide +kernel
theorem dJ6_bitCount_0f7a4_33 : decode cJ6_bitCount_0f7a4 33 = .ok (.istore_n 0, 1) := by decide +kernel
theorem dJ6_bitCount_0f7a4_34 : decode cJ6_bitCount_0f7a4 34 = .ok (.iload_n 0, 1) := by decide +kernel
theorem dJ6_bitCount_0f7a4_35 : decode cJ6_bitCount_0f7a4 35 = .ok (.iload_n 0, 1) := by decide +kernel
theorem dJ6_bitCount_0f7a4_36 : decode cJ6_bitCount_0f7a4 36 = .ok (.bipush 8, 2) := by decide +kernel
theorem dJ6_bitCount_0f7a4_38 : decode cJ6_bitCount_0f7a4 38 = .ok (.iushr, 1) := by decide +kernel
theorem dJ6_bitCount_0f7a4_39 : decode cJ6_bitCount_0f7a4 39 = .ok (.iadd, 1) := by decide +kernel
theorem dJ6_bitCount_0f7a4_40 : decode cJ6_bitCount_0f7a4 40 = .ok (.istore_n 0, 1) := by decide +kernel
theorem dJ6_bitCount_0f7a4_41 : decode cJ6_bitCount_0f7a4 41 = .ok (.iload_n 0, 1) := by decide +kernel
theorem dJ6_bitCount_0f7a4_42 : decode cJ6_bitCount_0f7a4 42 = .ok (.iload_n 0, 1) := by decide +kernel
theorem dJ6_bitCount_0f7a4_43 : decode cJ6_bitCount_0f7a4 43 = .ok (.bipush 16, 2) := by decide +kernel
theorem dJ6_bitCount_0f7a4_45 : decode cJ6_bitCount_0f7a4 45 = .ok (.iushr, 1) := by decide +kernel
theorem dJ6_bitCount_0f7a4_46 : decode cJ6_bitCount_0f7a4 46 = .ok (.iadd, 1) := by decide +kernel
theorem dJ6_bitCount_0f7a4_47 : decode cJ6_bitCount_0f7a4 47 = .ok (.istore_n 0, 1) := by decide +kernel
theorem dJ6_bitCount_0f7a4_48 : decode cJ6_bitCount_0f7a4 48 = .ok (.iload_n 0, 1) := by decide +kernel
theorem dJ6_bitCount_0f7a4_49 : decode cJ6_bitCount_0f7a4 49 = .ok (.bipush 63, 2) := by decide +kernel
theorem dJ6_bitCount_0f7a4_51 : decode cJ6_bitCount_0f7a4 51 = .ok (.iand, 1) := by decide +kernel
theorem dJ6_bitCount_0f7a4_52 : decode cJ6_bitCount_0f7a4 52 = .ok (.ireturn, 1) := by decide +kernel
theorem dJ13_signum_95d88_0 : decode cJ13_signum_95d88 0 = .ok (.lload_n 0, 1) := by decide +kernel
theorem dJ13_signum_95d88_1 : decode cJ13_signum_95d88 1 = .ok (.bipush 63, 2) := by decide +kernel
theorem dJ13_signum_95d88_3 : decode cJ13_signum_95d88 3 = .ok (.lshr, 1) := by decide +kernel
theorem dJ13_signum_95d88_4 : decode cJ13_signum_95d88 4 = .ok (.lload_n 0, 1) := by decide +kernel
theorem dJ13_signum_95d88_5 : decode cJ13_signum_95d88 5 = .ok (.lneg, 1) := by decide +kernel
theorem dJ13_signum_95d88_6 : decode cJ13_signum_95d88 6 = .ok (.bipush 63, 2) := by decide +kernel
theorem dJ13_signum_95d88_8 : decode cJ13_signum_95d88 8 = .ok (.lushr, 1) := by decide +kernel
theorem dJ13_signum_95d88_9 : decode cJ13_signum_95d88 9 = .ok (.lor, 1) := by decide +kernel
theorem dJ13_signum_95d88_10 : decode cJ13_signum_95d88 10 = .ok (.l2i, 1) := by decide +kernel
theorem dJ13_signum_95d88_11 : decode cJ13_signum_95d88 11 = .ok (.ireturn, 1) := by decide +kernel
theorem dJ9_floorMod_7cf53_0 : decode cJ9_floorMod_7cf53 0 = .ok (.iload_n 0, 1) := by decide +kernel
theorem dJ9_floorMod_7cf53_1 : decode cJ9_floorMod_7cf53 1 = .ok (.iload_n 1, 1) := by decide +kernel
theorem dJ9_floorMod_7cf53_2 : decode cJ9_floorMod_7cf53 2 = .ok (.irem, 1) := by decide +kernel
theorem dJ9_floorMod_7cf53_3 : decode cJ9_floorMod_7cf53 3 = .ok (.istore_n 2, 1) := by decide +kernel
theorem dJ9_floorMod_7cf53_4 : decode cJ9_floorMod_7cf53 4 = .ok (.iload_n 0, 1) := by decide +kernel
theorem dJ9_floorMod_7cf53_5 : decode cJ9_floorMod_7cf53 5 = .ok (.iload_n 1, 1) := by decide +kernel
theorem dJ9_floorMod_7cf53_6 : decode cJ9_floorMod_7cf53 6 = .ok (.ixor, 1) := by decide +kernel
theorem dJ9_floorMod_7cf53_7 : decode cJ9_floorMod_7cf53 7 = .ok (.ifCond .ge 11, 3) := by decide +kernel
theorem dJ9_floorMod_7cf53_10 : decode cJ9_floorMod_7cf53 10 = .ok (.iload_n 2, 1) := by decide +kernel
theorem dJ9_floorMod_7cf53_11 : decode cJ9_floorMod_7cf53 11 = .ok (.ifCond .eq 7, 3) := by decide +kernel
theorem dJ9_floorMod_7cf53_14 : decode cJ9_floorMod_7cf53 14 = .ok (.iload_n 2, 1) := by decide +kernel
theorem dJ9_floorMod_7cf53_15 : decode cJ9_floorMod_7cf53 15 = .ok (.iload_n 1, 1) := by decide +kernel
theorem dJ9_floorMod_7cf53_16 : decode cJ9_floorMod_7cf53 16 = .ok (.iadd, 1) := by decide +kernel
theorem dJ9_floorMod_7cf53_17 : decode cJ9_floorMod_7cf53 17 = .ok (.ireturn, 1) := by decide +kernel
theorem dJ9_floorMod_7cf53_18 : decode cJ9_floorMod_7cf53 18 = .ok (.iload_n 2, 1) := by decide +kernel
theorem dJ9_floorMod_7cf53_19 : decode cJ9_floorMod_7cf53 19 = .ok (.ireturn, 1) := by decide +kernel
theorem dJ9_abs_067f4_0 : decode cJ9_abs_067f4 0 = .ok (.lload_n 0, 1) := by decide +kernel
theorem dJ9_abs_067f4_1 : decode cJ9_abs_067f4 1 = .ok (.lconst 0, 1) := by decide +kernel
theorem dJ9_abs_067f4_2 : decode cJ9_abs_067f4 2 = .ok (.lcmp, 1) := by decide +kernel
theorem dJ9_abs_067f4_3 : decode cJ9_abs_067f4 3 = .ok (.ifCond .ge 8, 3) := by decide +kernel
theorem dJ9_abs_067f4_6 : decode cJ9_abs_067f4 6 = .ok (.lload_n 0, 1) := by decide +kernel
theorem dJ9_abs_067f4_7 : decode cJ9_abs_067f4 7 = .ok (.lneg, 1) := by decide +kernel
theorem dJ9_abs_067f4_8 : decode cJ9_abs_067f4 8 = .ok (.goto 4, 3) := by decide +kernel
theorem dJ9_abs_067f4_11 : decode cJ9_abs_067f4 11 = .ok (.lload_n 0, 1) := by decide +kernel
theorem dJ9_abs_067f4_12 : decode cJ9_abs_067f4 12 = .ok (.lreturn, 1) := by decide +kernel
theorem dJ9_max_7cf53_0 : decode cJ9_max_7cf53 0 = .ok (.iload_n 0, 1) := by decide +kernel
theorem dJ9_max_7cf53_1 : decode cJ9_max_7cf53 1 = .ok (.iload_n 1, 1) := by decide +kernel
theorem dJ9_max_7cf53_2 : decode cJ9_max_7cf53 2 = .ok (.if_icmp .lt 7, 3) := by decide +kernel
theorem dJ9_max_7cf53_5 : decode cJ9_max_7cf53 5 = .ok (.iload_n 0, 1) := by decide +kernel
theorem dJ9_max_7cf53_6 : decode cJ9_max_7cf53 6 = .ok (.goto 4, 3) := by decide +kernel
theorem dJ9_max_7cf53_9 : decode cJ9_max_7cf53 9 = .ok (.iload_n 1, 1) := by decide +kernel
theorem dJ9_max_7cf53_10 : decode cJ9_max_7cf53 10 = .ok (.ireturn, 1) := by decide +kernel
theorem dJ9_max_f86c9_0 : decode cJ9_max_f86c9 0 = .ok (.lload_n 0, 1) := by decide +kernel
theorem dJ9_max_f86c9_1 : decode cJ9_max_f86c9 1 = .ok (.lload_n 2, 1) := by decide +kernel
theorem dJ9_max_f86c9_2 : decode cJ9_max_f86c9 2 = .ok (.lcmp, 1) := by decide +kernel
theorem dJ9_max_f86c9_3 : decode cJ9_max_f86c9 3 = .ok (.ifCond .lt 7, 3) := by decide +kernel
theorem dJ9_max_f86c9_6 : decode cJ9_max_f86c9 6 = .ok (.lload_n 0, 1) := by decide +kernel
theorem dJ9_max_f86c9_7 : decode cJ9_max_f86c9 7 = .ok (.goto 4, 3) := by decide +kernel
theorem dJ9_max_f86c9_10 : decode cJ9_max_f86c9 10 = .ok (.lload_n 2, 1) := by decide +kernel
theorem dJ9_max_f86c9_11 : decode cJ9_max_f86c9 11 = .ok (.lreturn, 1) := by decide +kernel
theorem dJ9_min_7cf53_0 : decode cJ9_min_7cf53 0 = .ok (.iload_n 0, 1) := by decide +kernel
theorem dJ9_min_7cf53_1 : decode cJ9_min_7cf53 1 = .ok (.iload_n 1, 1) := by decide +kernel
theorem dJ9_min_7cf53_2 : decode cJ9_min_7cf53 2 = .ok (.if_icmp .gt 7, 3) := by decide +kernel
theorem dJ9_min_7cf53_5 : decode cJ9_min_7cf53 5 = .ok (.iload_n 0, 1) := by decide +kernel
theorem dJ9_min_7cf53_6 : decode cJ9_min_7cf53 6 = .ok (.goto 4, 3) := by decide +kernel
theorem dJ9_min_7cf53_9 : decode cJ9_min_7cf53 9 = .ok (.iload_n 1, 1) := by decide +kernel
theorem dJ9_min_7cf53_10 : decode cJ9_min_7cf53 10 = .ok (.ireturn, 1) := by decide +kernel
theorem dJ9_min_f86c9_0 : decode cJ9_min_f86c9 0 = .ok (.lload_n 0, 1) := by decide +kernel
theorem dJ9_min_f86c9_1 : decode cJ9_min_f86c9 1 = .ok (.lload_n 2, 1) := by decide +kernel
theorem dJ9_min_f86c9_2 : decode cJ9_min_f86c9 2 = .ok (.lcmp, 1) := by decide +kernel
theorem dJ9_min_f86c9_3 : decode cJ9_min_f86c9 3 = .ok (.ifCond .gt 7, 3) := by decide +kernel
theorem dJ9_min_f86c9_6 : decode cJ9_min_f86c9 6 = .ok (.lload_n 0, 1) := by decide +kernel
theorem dJ9_min_f86c9_7 : decode cJ9_min_f86c9 7 = .ok (.goto 4, 3) := by decide +kernel
theorem dJ9_min_f86c9_10 : decode cJ9_min_f86c9 10 = .ok (.lload_n 2, 1) := by decide +kernel
theorem dJ9_min_f86c9_11 : decode cJ9_min_f86c9 11 = .ok (.lreturn, 1) := by decide +kernel
theorem dL_law_0 : decode cL_law 0 = .ok (.new 7, 3) := by decide +kernel
theorem dL_law_3 : decode cL_law 3 = .ok (.dup, 1) := by decide +kernel
theorem dL_law_4 : decode cL_law 4 = .ok (.invokespecial 9, 3) := by decide +kernel
theorem dL_law_7 : decode cL_law 7 = .ok (.astore_n 1, 1) := by decide +kernel
theorem dL_law_8 : decode cL_law 8 = .ok (.new 10, 3) := by decide +kernel
theorem dL_law_11 : decode cL_law 11 = .ok (.dup, 1) := by decide +kernel
theorem dL_law_12 : decode cL_law 12 = .ok (.invokespecial 12, 3) := by decide +kernel
theorem dL_law_15 : decode cL_law 15 = .ok (.astore_n 2, 1) := by decide +kernel
theorem dL_law_16 : decode cL_law 16 = .ok (.iconst 0, 1) := by decide +kernel
theorem dL_law_17 : decode cL_law 17 = .ok (.istore_n 3, 1) := by decide +kernel
theorem dL_law_18 : decode cL_law 18 = .ok (.iload_n 3, 1) := by decide +kernel
theorem dL_law_19 : decode cL_law 19 = .ok (.aload_n 0, 1) := by decide +kernel
theorem dL_law_20 : decode cL_law 20 = .ok (.arraylength, 1) := by decide +kernel
theorem dL_law_21 : decode cL_law 21 = .ok (.bipush 7, 2) := by decide +kernel
theorem dL_law_23 : decode cL_law 23 = .ok (.isub, 1) := by decide +kernel
theorem dL_law_24 : decode cL_law 24 = .ok (.if_icmp .gt 1051, 3) := by decide +kernel
theorem dL_law_27 : decode cL_law 27 = .ok (.aload_n 0, 1) := by decide +kernel
theorem dL_law_28 : decode cL_law 28 = .ok (.iload_n 3, 1) := by decide +kernel
theorem dL_law_29 : decode cL_law 29 = .ok (.iaload, 1) := by decide +kernel
theorem dL_law_30 : decode cL_law 30 = .ok (.bipush 31, 2) := by decide +kernel
theorem dL_law_32 : decode cL_law 32 = .ok (.iand, 1) := by decide +kernel
theorem dL_law_33 : decode cL_law 33 = .ok (.tableswitch 1036 0 26 #[123, 156, 179, 192, 205, 218, 251, 284, 327, 390, 443, 486, 529, 604, 657, 680, 703, 746, 779, 792, 815, 828, 861, 914, 967, 990, 1013], 123) := by decide +kernel
theorem dL_law_156 : decode cL_law 156 = .ok (.aload_n 1, 1) := by decide +kernel
theorem dL_law_157 : decode cL_law 157 = .ok (.aload_n 0, 1) := by decide +kernel
theorem dL_law_158 : decode cL_law 158 = .ok (.iload_n 3, 1) := by decide +kernel
theorem dL_law_159 : decode cL_law 159 = .ok (.iconst 1, 1) := by decide +kernel
theorem dL_law_160 : decode cL_law 160 = .ok (.iadd, 1) := by decide +kernel
theorem dL_law_161 : decode cL_law 161 = .ok (.iaload, 1) := by decide +kernel
theorem dL_law_162 : decode cL_law 162 = .ok (.aload_n 0, 1) := by decide +kernel
theorem dL_law_163 : decode cL_law 163 = .ok (.iload_n 3, 1) := by decide +kernel
theorem dL_law_164 : decode cL_law 164 = .ok (.iconst 2, 1) := by decide +kernel
theorem dL_law_165 : decode cL_law 165 = .ok (.iadd, 1) := by decide +kernel
theorem dL_law_166 : decode cL_law 166 = .ok (.iaload, 1) := by decide +kernel
theorem dL_law_167 : decode cL_law 167 = .ok (.invokevirtual 13, 3) := by decide +kernel
theorem dL_law_170 : decode cL_law 170 = .ok (.aload_n 2, 1) := by decide +kernel
theorem dL_law_171 : decode cL_law 171 = .ok (.aload_n 0, 1) := by decide +kernel
theorem dL_law_172 : decode cL_law 172 = .ok (.iload_n 3, 1) := by decide +kernel
theorem dL_law_173 : decode cL_law 173 = .ok (.iconst 1, 1) := by decide +kernel
theorem dL_law_174 : decode cL_law 174 = .ok (.iadd, 1) := by decide +kernel
theorem dL_law_175 : decode cL_law 175 = .ok (.iaload, 1) := by decide +kernel
theorem dL_law_176 : decode cL_law 176 = .ok (.aload_n 0, 1) := by decide +kernel
theorem dL_law_177 : decode cL_law 177 = .ok (.iload_n 3, 1) := by decide +kernel
theorem dL_law_178 : decode cL_law 178 = .ok (.iconst 2, 1) := by decide +kernel
theorem dL_law_179 : decode cL_law 179 = .ok (.iadd, 1) := by decide +kernel
theorem dL_law_180 : decode cL_law 180 = .ok (.iaload, 1) := by decide +kernel
theorem dL_law_181 : decode cL_law 181 = .ok (.invokevirtual 17, 3) := by decide +kernel
theorem dL_law_184 : decode cL_law 184 = .ok (.if_icmp .eq 885, 3) := by decide +kernel
theorem dL_law_187 : decode cL_law 187 = .ok (.iconst 0, 1) := by decide +kernel
theorem dL_law_188 : decode cL_law 188 = .ok (.ireturn, 1) := by decide +kernel
theorem dL_law_189 : decode cL_law 189 = .ok (.aload_n 1, 1) := by decide +kernel
theorem dL_law_190 : decode cL_law 190 = .ok (.aload_n 0, 1) := by decide +kernel
theorem dL_law_191 : decode cL_law 191 = .ok (.iload_n 3, 1) := by decide +kernel
theorem dL_law_192 : decode cL_law 192 = .ok (.iconst 1, 1) := by decide +kernel
theorem dL_law_193 : decode cL_law 193 = .ok (.iadd, 1) := by decide +kernel
theorem dL_law_194 : decode cL_law 194 = .ok (.iaload, 1) := by decide +kernel
theorem dL_law_195 : decode cL_law 195 = .ok (.invokevirtual 18, 3) := by decide +kernel
theorem dL_law_198 : decode cL_law 198 = .ok (.aload_n 2, 1) := by decide +kernel
theorem dL_law_199 : decode cL_law 199 = .ok (.aload_n 0, 1) := by decide +kernel
theorem dL_law_200 : decode cL_law 200 = .ok (.iload_n 3, 1) := by decide +kernel
theorem dL_law_201 : decode cL_law 201 = .ok (.iconst 1, 1) := by decide +kernel
theorem dL_law_202 : decode cL_law 202 = .ok (.iadd, 1) := by decide +kernel
theorem dL_law_203 : decode cL_law 203 = .ok (.iaload, 1) := by decide +kernel
theorem dL_law_204 : decode cL_law 204 = .ok (.invokevirtual 22, 3) := by decide +kernel
theorem dL_law_207 : decode cL_law 207 = .ok (.if_icmp .eq 862, 3) := by decide +kernel
theorem dL_law_210 : decode cL_law 210 = .ok (.iconst 0, 1) := by decide +kernel
theorem dL_law_211 : decode cL_law 211 = .ok (.ireturn, 1) := by decide +kernel
theorem dL_law_212 : decode cL_law 212 = .ok (.aload_n 1, 1) := by decide +kernel
theorem dL_law_213 : decode cL_law 213 = .ok (.invokevirtual 23, 3) := by decide +kernel
theorem dL_law_216 : decode cL_law 216 = .ok (.aload_n 2, 1) := by decide +kernel
theorem dL_law_217 : decode cL_law 217 = .ok (.invokevirtual 27, 3) := by decide +kernel
theorem dL_law_220 : decode cL_law 220 = .ok (.if_icmp .eq 849, 3) := by decide +kernel
theorem dL_law_223 : decode cL_law 223 = .ok (.iconst 0, 1) := by decide +kernel
theorem dL_law_224 : decode cL_law 224 = .ok (.ireturn, 1) := by decide +kernel
theorem dL_law_225 : decode cL_law 225 = .ok (.aload_n 1, 1) := by decide +kernel
theorem dL_law_226 : decode cL_law 226 = .ok (.invokevirtual 28, 3) := by decide +kernel
theorem dL_law_229 : decode cL_law 229 = .ok (.aload_n 2, 1) := by decide +kernel
theorem dL_law_230 : decode cL_law 230 = .ok (.invokevirtual 31, 3) := by decide +kernel
theorem dL_law_233 : decode cL_law 233 = .ok (.if_icmp .eq 836, 3) := by decide +kernel
theorem dL_law_236 : decode cL_law 236 = .ok (.iconst 0, 1) := by decide +kernel
theorem dL_law_237 : decode cL_law 237 = .ok (.ireturn, 1) := by decide +kernel
theorem dL_law_238 : decode cL_law 238 = .ok (.aload_n 1, 1) := by decide +kernel
theorem dL_law_239 : decode cL_law 239 = .ok (.invokevirtual 32, 3) := by decide +kernel
theorem dL_law_242 : decode cL_law 242 = .ok (.aload_n 2, 1) := by decide +kernel
theorem dL_law_243 : decode cL_law 243 = .ok (.invokevirtual 35, 3) := by decide +kernel
theorem dL_law_246 : decode cL_law 246 = .ok (.if_icmp .eq 823, 3) := by decide +kernel
theorem dL_law_249 : decode cL_law 249 = .ok (.iconst 0, 1) := by decide +kernel
theorem dL_law_250 : decode cL_law 250 = .ok (.ireturn, 1) := by decide +kernel
theorem dL_law_251 : decode cL_law 251 = .ok (.aload_n 1, 1) := by decide +kernel
theorem dL_law_252 : decode cL_law 252 = .ok (.aload_n 0, 1) := by decide +kernel
theorem dL_law_253 : decode cL_law 253 = .ok (.iload_n 3, 1) := by decide +kernel
theorem dL_law_254 : decode cL_law 254 = .ok (.iconst 1, 1) := by decide +kernel
theorem dL_law_255 : decode cL_law 255 = .ok (.iadd, 1) := by decide +kernel
theorem dL_law_256 : decode cL_law 256 = .ok (.iaload, 1) := by decide +kernel
theorem dL_law_257 : decode cL_law 257 = .ok (.aload_n 0, 1) := by decide +kernel
theorem dL_law_258 : decode cL_law 258 = .ok (.iload_n 3, 1) := by decide +kernel
theorem dL_law_259 : decode cL_law 259 = .ok (.iconst 2, 1) := by decide +kernel
theorem dL_law_260 : decode cL_law 260 = .ok (.iadd, 1) := by decide +kernel
theorem dL_law_261 : decode cL_law 261 = .ok (.iaload, 1) := by decide +kernel
theorem dL_law_262 : decode cL_law 262 = .ok (.invokevirtual 36, 3) := by decide +kernel
theorem dL_law_265 : decode cL_law 265 = .ok (.aload_n 2, 1) := by decide +kernel
theorem dL_law_266 : decode cL_law 266 = .ok (.aload_n 0, 1) := by decide +kernel
theorem dL_law_267 : decode cL_law 267 = .ok (.iload_n 3, 1) := by decide +kernel
theorem dL_law_268 : decode cL_law 268 = .ok (.iconst 1, 1) := by decide +kernel
theorem dL_law_269 : decode cL_law 269 = .ok (.iadd, 1) := by decide +kernel
theorem dL_law_270 : decode cL_law 270 = .ok (.iaload, 1) := by decide +kernel
theorem dL_law_271 : decode cL_law 271 = .ok (.aload_n 0, 1) := by decide +kernel
theorem dL_law_272 : decode cL_law 272 = .ok (.iload_n 3, 1) := by decide +kernel
theorem dL_law_273 : decode cL_law 273 = .ok (.iconst 2, 1) := by decide +kernel
theorem dL_law_274 : decode cL_law 274 = .ok (.iadd, 1) := by decide +kernel
theorem dL_law_275 : decode cL_law 275 = .ok (.iaload, 1) := by decide +kernel
theorem dL_law_276 : decode cL_law 276 = .ok (.invokevirtual 39, 3) := by decide +kernel
theorem dL_law_279 : decode cL_law 279 = .ok (.if_icmp .eq 790, 3) := by decide +kernel
theorem dL_law_282 : decode cL_law 282 = .ok (.iconst 0, 1) := by decide +kernel
theorem dL_law_283 : decode cL_law 283 = .ok (.ireturn, 1) := by decide +kernel
theorem dL_law_284 : decode cL_law 284 = .ok (.aload_n 1, 1) := by decide +kernel
theorem dL_law_285 : decode cL_law 285 = .ok (.aload_n 0, 1) := by decide +kernel
theorem dL_law_286 : decode cL_law 286 = .ok (.iload_n 3, 1) := by decide +kernel
theorem dL_law_287 : decode cL_law 287 = .ok (.iconst 1, 1) := by decide +kernel
theorem dL_law_288 : decode cL_law 288 = .ok (.iadd, 1) := by decide +kernel
theorem dL_law_289 : decode cL_law 289 = .ok (.iaload, 1) := by decide +kernel
theorem dL_law_290 : decode cL_law 290 = .ok (.aload_n 0, 1) := by decide +kernel
theorem dL_law_291 : decode cL_law 291 = .ok (.iload_n 3, 1) := by decide +kernel
theorem dL_law_292 : decode cL_law 292 = .ok (.iconst 2, 1) := by decide +kernel
theorem dL_law_293 : decode cL_law 293 = .ok (.iadd, 1) := by decide +kernel
theorem dL_law_294 : decode cL_law 294 = .ok (.iaload, 1) := by decide +kernel
theorem dL_law_295 : decode cL_law 295 = .ok (.invokevirtual 40, 3) := by decide +kernel
theorem dL_law_298 : decode cL_law 298 = .ok (.aload_n 2, 1) := by decide +kernel
theorem dL_law_299 : decode cL_law 299 = .ok (.aload_n 0, 1) := by decide +kernel
theorem dL_law_300 : decode cL_law 300 = .ok (.iload_n 3, 1) := by decide +kernel
theorem dL_law_301 : decode cL_law 301 = .ok (.iconst 1, 1) := by decide +kernel
theorem dL_law_302 : decode cL_law 302 = .ok (.iadd, 1) := by decide +kernel
theorem dL_law_303 : decode cL_law 303 = .ok (.iaload, 1) := by decide +kernel
theorem dL_law_304 : decode cL_law 304 = .ok (.aload_n 0, 1) := by decide +kernel
theorem dL_law_305 : decode cL_law 305 = .ok (.iload_n 3, 1) := by decide +kernel
theorem dL_law_306 : decode cL_law 306 = .ok (.iconst 2, 1) := by decide +kernel
theorem dL_law_307 : decode cL_law 307 = .ok (.iadd, 1) := by decide +kernel
theorem dL_law_308 : decode cL_law 308 = .ok (.iaload, 1) := by decide +kernel
theorem dL_law_309 : decode cL_law 309 = .ok (.invokevirtual 43, 3) := by decide +kernel
theorem dL_law_312 : decode cL_law 312 = .ok (.if_icmp .eq 757, 3) := by decide +kernel
theorem dL_law_315 : decode cL_law 315 = .ok (.iconst 0, 1) := by decide +kernel
theorem dL_law_316 : decode cL_law 316 = .ok (.ireturn, 1) := by decide +kernel
theorem dL_law_317 : decode cL_law 317 = .ok (.aload_n 1, 1) := by decide +kernel
theorem dL_law_318 : decode cL_law 318 = .ok (.aload_n 0, 1) := by decide +kernel
theorem dL_law_319 : decode cL_law 319 = .ok (.iload_n 3, 1) := by decide +kernel
theorem dL_law_320 : decode cL_law 320 = .ok (.iconst 1, 1) := by decide +kernel
theorem dL_law_321 : decode cL_law 321 = .ok (.iadd, 1) := by decide +kernel
theorem dL_law_322 : decode cL_law 322 = .ok (.iaload, 1) := by decide +kernel
theorem dL_law_323 : decode cL_law 323 = .ok (.aload_n 0, 1) := by decide +kernel
theorem dL_law_324 : decode cL_law 324 = .ok (.iload_n 3, 1) := by decide +kernel
theorem dL_law_325 : decode cL_law 325 = .ok (.iconst 2, 1) := by decide +kernel
theorem dL_law_326 : decode cL_law 326 = .ok (.iadd, 1) := by decide +kernel
theorem dL_law_327 : decode cL_law 327 = .ok (.iaload, 1) := by decide +kernel
theorem dL_law_328 : decode cL_law 328 = .ok (.aload_n 0, 1) := by decide +kernel
theorem dL_law_329 : decode cL_law 329 = .ok (.iload_n 3, 1) := by decide +kernel
theorem dL_law_330 : decode cL_law 330 = .ok (.iconst 3, 1) := by decide +kernel
theorem dL_law_331 : decode cL_law 331 = .ok (.iadd, 1) := by decide +kernel
theorem dL_law_332 : decode cL_law 332 = .ok (.iaload, 1) := by decide +kernel
theorem dL_law_333 : decode cL_law 333 = .ok (.invokevirtual 44, 3) := by decide +kernel
theorem dL_law_336 : decode cL_law 336 = .ok (.aload_n 2, 1) := by decide +kernel
theorem dL_law_337 : decode cL_law 337 = .ok (.aload_n 0, 1) := by decide +kernel
theorem dL_law_338 : decode cL_law 338 = .ok (.iload_n 3, 1) := by decide +kernel
theorem dL_law_339 : decode cL_law 339 = .ok (.iconst 1, 1) := by decide +kernel
theorem dL_law_340 : decode cL_law 340 = .ok (.iadd, 1) := by decide +kernel
theorem dL_law_341 : decode cL_law 341 = .ok (.iaload, 1) := by decide +kernel
theorem dL_law_342 : decode cL_law 342 = .ok (.aload_n 0, 1) := by decide +kernel
theorem dL_law_343 : decode cL_law 343 = .ok (.iload_n 3, 1) := by decide +kernel
theorem dL_law_344 : decode cL_law 344 = .ok (.iconst 2, 1) := by decide +kernel
theorem dL_law_345 : decode cL_law 345 = .ok (.iadd, 1) := by decide +kernel
theorem dL_law_346 : decode cL_law 346 = .ok (.iaload, 1) := by decide +kernel
theorem dL_law_347 : decode cL_law 347 = .ok (.aload_n 0, 1) := by decide +kernel
theorem dL_law_348 : decode cL_law 348 = .ok (.iload_n 3, 1) := by decide +kernel
theorem dL_law_349 : decode cL_law 349 = .ok (.iconst 3, 1) := by decide +kernel
theorem dL_law_350 : decode cL_law 350 = .ok (.iadd, 1) := by decide +kernel
theorem dL_law_351 : decode cL_law 351 = .ok (.iaload, 1) := by decide +kernel
theorem dL_law_352 : decode cL_law 352 = .ok (.invokevirtual 48, 3) := by decide +kernel
theorem dL_law_355 : decode cL_law 355 = .ok (.if_icmp .eq 714, 3) := by decide +kernel
theorem dL_law_358 : decode cL_law 358 = .ok (.iconst 0, 1) := by decide +kernel
theorem dL_law_359 : decode cL_law 359 = .ok (.ireturn, 1) := by decide +kernel
theorem dL_law_360 : decode cL_law 360 = .ok (.aload_n 1, 1) := by decide +kernel
theorem dL_law_361 : decode cL_law 361 = .ok (.aload_n 0, 1) := by decide +kernel
theorem dL_law_362 : decode cL_law 362 = .ok (.iload_n 3, 1) := by decide +kernel
theorem dL_law_363 : decode cL_law 363 = .ok (.iconst 1, 1) := by decide +kernel
theorem dL_law_364 : decode cL_law 364 = .ok (.iadd, 1) := by decide +kernel
theorem dL_law_365 : decode cL_law 365 = .ok (.iaload, 1) := by decide +kernel
theorem dL_law_366 : decode cL_law 366 = .ok (.aload_n 0, 1) := by decide +kernel
theorem dL_law_367 : decode cL_law 367 = .ok (.iload_n 3, 1) := by decide +kernel
theorem dL_law_368 : decode cL_law 368 = .ok (.iconst 2, 1) := by decide +kernel
theorem dL_law_369 : decode cL_law 369 = .ok (.iadd, 1) := by decide +kernel
theorem dL_law_370 : decode cL_law 370 = .ok (.iaload, 1) := by decide +kernel
theorem dL_law_371 : decode cL_law 371 = .ok (.aload_n 0, 1) := by decide +kernel
theorem dL_law_372 : decode cL_law 372 = .ok (.iload_n 3, 1) := by decide +kernel
theorem dL_law_373 : decode cL_law 373 = .ok (.iconst 3, 1) := by decide +kernel
theorem dL_law_374 : decode cL_law 374 = .ok (.iadd, 1) := by decide +kernel
theorem dL_law_375 : decode cL_law 375 = .ok (.iaload, 1) := by decide +kernel
theorem dL_law_376 : decode cL_law 376 = .ok (.aload_n 0, 1) := by decide +kernel
theorem dL_law_377 : decode cL_law 377 = .ok (.iload_n 3, 1) := by decide +kernel
theorem dL_law_378 : decode cL_law 378 = .ok (.iconst 4, 1) := by decide +kernel
theorem dL_law_379 : decode cL_law 379 = .ok (.iadd, 1) := by decide +kernel
theorem dL_law_380 : decode cL_law 380 = .ok (.iaload, 1) := by decide +kernel
theorem dL_law_381 : decode cL_law 381 = .ok (.aload_n 0, 1) := by decide +kernel
theorem dL_law_382 : decode cL_law 382 = .ok (.iload_n 3, 1) := by decide +kernel
theorem dL_law_383 : decode cL_law 383 = .ok (.iconst 5, 1) := by decide +kernel
theorem dL_law_384 : decode cL_law 384 = .ok (.iadd, 1) := by decide +kernel
theorem dL_law_385 : decode cL_law 385 = .ok (.iaload, 1) := by decide +kernel
theorem dL_law_386 : decode cL_law 386 = .ok (.invokevirtual 49, 3) := by decide +kernel
theorem dL_law_389 : decode cL_law 389 = .ok (.aload_n 2, 1) := by decide +kernel
theorem dL_law_390 : decode cL_law 390 = .ok (.aload_n 0, 1) := by decide +kernel
theorem dL_law_391 : decode cL_law 391 = .ok (.iload_n 3, 1) := by decide +kernel
theorem dL_law_392 : decode cL_law 392 = .ok (.iconst 1, 1) := by decide +kernel
theorem dL_law_393 : decode cL_law 393 = .ok (.iadd, 1) := by decide +kernel
theorem dL_law_394 : decode cL_law 394 = .ok (.iaload, 1) := by decide +kernel
theorem dL_law_395 : decode cL_law 395 = .ok (.aload_n 0, 1) := by decide +kernel
theorem dL_law_396 : decode cL_law 396 = .ok (.iload_n 3, 1) := by decide +kernel
theorem dL_law_397 : decode cL_law 397 = .ok (.iconst 2, 1) := by decide +kernel
theorem dL_law_398 : decode cL_law 398 = .ok (.iadd, 1) := by decide +kernel
theorem dL_law_399 : decode cL_law 399 = .ok (.iaload, 1) := by decide +kernel
theorem dL_law_400 : decode cL_law 400 = .ok (.aload_n 0, 1) := by decide +kernel
theorem dL_law_401 : decode cL_law 401 = .ok (.iload_n 3, 1) := by decide +kernel
theorem dL_law_402 : decode cL_law 402 = .ok (.iconst 3, 1) := by decide +kernel
theorem dL_law_403 : decode cL_law 403 = .ok (.iadd, 1) := by decide +kernel
theorem dL_law_404 : decode cL_law 404 = .ok (.iaload, 1) := by decide +kernel
theorem dL_law_405 : decode cL_law 405 = .ok (.aload_n 0, 1) := by decide +kernel
theorem dL_law_406 : decode cL_law 406 = .ok (.iload_n 3, 1) := by decide +kernel
theorem dL_law_407 : decode cL_law 407 = .ok (.iconst 4, 1) := by decide +kernel
theorem dL_law_408 : decode cL_law 408 = .ok (.iadd, 1) := by decide +kernel
theorem dL_law_409 : decode cL_law 409 = .ok (.iaload, 1) := by decide +kernel
theorem dL_law_410 : decode cL_law 410 = .ok (.aload_n 0, 1) := by decide +kernel
theorem dL_law_411 : decode cL_law 411 = .ok (.iload_n 3, 1) := by decide +kernel
theorem dL_law_412 : decode cL_law 412 = .ok (.iconst 5, 1) := by decide +kernel
theorem dL_law_413 : decode cL_law 413 = .ok (.iadd, 1) := by decide +kernel
theorem dL_law_414 : decode cL_law 414 = .ok (.iaload, 1) := by decide +kernel
theorem dL_law_415 : decode cL_law 415 = .ok (.invokevirtual 53, 3) := by decide +kernel
theorem dL_law_418 : decode cL_law 418 = .ok (.if_icmp .eq 651, 3) := by decide +kernel
theorem dL_law_421 : decode cL_law 421 = .ok (.iconst 0, 1) := by decide +kernel
theorem dL_law_422 : decode cL_law 422 = .ok (.ireturn, 1) := by decide +kernel
theorem dL_law_423 : decode cL_law 423 = .ok (.aload_n 1, 1) := by decide +kernel
theorem dL_law_424 : decode cL_law 424 = .ok (.aload_n 0, 1) := by decide +kernel
theorem dL_law_425 : decode cL_law 425 = .ok (.iload_n 3, 1) := by decide +kernel
theorem dL_law_426 : decode cL_law 426 = .ok (.iconst 1, 1) := by decide +kernel
theorem dL_law_427 : decode cL_law 427 = .ok (.iadd, 1) := by decide +kernel
theorem dL_law_428 : decode cL_law 428 = .ok (.iaload, 1) := by decide +kernel
theorem dL_law_429 : decode cL_law 429 = .ok (.aload_n 0, 1) := by decide +kernel
theorem dL_law_430 : decode cL_law 430 = .ok (.iload_n 3, 1) := by decide +kernel
theorem dL_law_431 : decode cL_law 431 = .ok (.iconst 2, 1) := by decide +kernel
theorem dL_law_432 : decode cL_law 432 = .ok (.iadd, 1) := by decide +kernel
theorem dL_law_433 : decode cL_law 433 = .ok (.iaload, 1) := by decide +kernel
theorem dL_law_434 : decode cL_law 434 = .ok (.aload_n 0, 1) := by decide +kernel
theorem dL_law_435 : decode cL_law 435 = .ok (.iload_n 3, 1) := by decide +kernel
theorem dL_law_436 : decode cL_law 436 = .ok (.iconst 3, 1) := by decide +kernel
theorem dL_law_437 : decode cL_law 437 = .ok (.iadd, 1) := by decide +kernel
theorem dL_law_438 : decode cL_law 438 = .ok (.iaload, 1) := by decide +kernel
theorem dL_law_439 : decode cL_law 439 = .ok (.aload_n 0, 1) := by decide +kernel
theorem dL_law_440 : decode cL_law 440 = .ok (.iload_n 3, 1) := by decide +kernel
theorem dL_law_441 : decode cL_law 441 = .ok (.iconst 4, 1) := by decide +kernel
theorem dL_law_442 : decode cL_law 442 = .ok (.iadd, 1) := by decide +kernel
theorem dL_law_443 : decode cL_law 443 = .ok (.iaload, 1) := by decide +kernel
theorem dL_law_444 : decode cL_law 444 = .ok (.invokevirtual 54, 3) := by decide +kernel
theorem dL_law_447 : decode cL_law 447 = .ok (.aload_n 2, 1) := by decide +kernel
theorem dL_law_448 : decode cL_law 448 = .ok (.aload_n 0, 1) := by decide +kernel
theorem dL_law_449 : decode cL_law 449 = .ok (.iload_n 3, 1) := by decide +kernel
theorem dL_law_450 : decode cL_law 450 = .ok (.iconst 1, 1) := by decide +kernel
theorem dL_law_451 : decode cL_law 451 = .ok (.iadd, 1) := by decide +kernel
theorem dL_law_452 : decode cL_law 452 = .ok (.iaload, 1) := by decide +kernel
theorem dL_law_453 : decode cL_law 453 = .ok (.aload_n 0, 1) := by decide +kernel
theorem dL_law_454 : decode cL_law 454 = .ok (.iload_n 3, 1) := by decide +kernel
theorem dL_law_455 : decode cL_law 455 = .ok (.iconst 2, 1) := by decide +kernel
theorem dL_law_456 : decode cL_law 456 = .ok (.iadd, 1) := by decide +kernel
theorem dL_law_457 : decode cL_law 457 = .ok (.iaload, 1) := by decide +kernel
theorem dL_law_458 : decode cL_law 458 = .ok (.aload_n 0, 1) := by decide +kernel
theorem dL_law_459 : decode cL_law 459 = .ok (.iload_n 3, 1) := by decide +kernel
theorem dL_law_460 : decode cL_law 460 = .ok (.iconst 3, 1) := by decide +kernel
theorem dL_law_461 : decode cL_law 461 = .ok (.iadd, 1) := by decide +kernel
theorem dL_law_462 : decode cL_law 462 = .ok (.iaload, 1) := by decide +kernel
theorem dL_law_463 : decode cL_law 463 = .ok (.aload_n 0, 1) := by decide +kernel
theorem dL_law_464 : decode cL_law 464 = .ok (.iload_n 3, 1) := by decide +kernel
theorem dL_law_465 : decode cL_law 465 = .ok (.iconst 4, 1) := by decide +kernel
theorem dL_law_466 : decode cL_law 466 = .ok (.iadd, 1) := by decide +kernel
theorem dL_law_467 : decode cL_law 467 = .ok (.iaload, 1) := by decide +kernel
theorem dL_law_468 : decode cL_law 468 = .ok (.invokevirtual 58, 3) := by decide +kernel
theorem dL_law_471 : decode cL_law 471 = .ok (.if_icmp .eq 598, 3) := by decide +kernel
theorem dL_law_474 : decode cL_law 474 = .ok (.iconst 0, 1) := by decide +kernel
theorem dL_law_475 : decode cL_law 475 = .ok (.ireturn, 1) := by decide +kernel
theorem dL_law_476 : decode cL_law 476 = .ok (.aload_n 1, 1) := by decide +kernel
theorem dL_law_477 : decode cL_law 477 = .ok (.aload_n 0, 1) := by decide +kernel
theorem dL_law_478 : decode cL_law 478 = .ok (.iload_n 3, 1) := by decide +kernel
theorem dL_law_479 : decode cL_law 479 = .ok (.iconst 1, 1) := by decide +kernel
theorem dL_law_480 : decode cL_law 480 = .ok (.iadd, 1) := by decide +kernel
theorem dL_law_481 : decode cL_law 481 = .ok (.iaload, 1) := by decide +kernel
theorem dL_law_482 : decode cL_law 482 = .ok (.aload_n 0, 1) := by decide +kernel
theorem dL_law_483 : decode cL_law 483 = .ok (.iload_n 3, 1) := by decide +kernel
theorem dL_law_484 : decode cL_law 484 = .ok (.iconst 2, 1) := by decide +kernel
theorem dL_law_485 : decode cL_law 485 = .ok (.iadd, 1) := by decide +kernel
theorem dL_law_486 : decode cL_law 486 = .ok (.iaload, 1) := by decide +kernel
theorem dL_law_487 : decode cL_law 487 = .ok (.aload_n 0, 1) := by decide +kernel
theorem dL_law_488 : decode cL_law 488 = .ok (.iload_n 3, 1) := by decide +kernel
theorem dL_law_489 : decode cL_law 489 = .ok (.iconst 3, 1) := by decide +kernel
theorem dL_law_490 : decode cL_law 490 = .ok (.iadd, 1) := by decide +kernel
theorem dL_law_491 : decode cL_law 491 = .ok (.iaload, 1) := by decide +kernel
theorem dL_law_492 : decode cL_law 492 = .ok (.invokevirtual 59, 3) := by decide +kernel
theorem dL_law_495 : decode cL_law 495 = .ok (.aload_n 2, 1) := by decide +kernel
theorem dL_law_496 : decode cL_law 496 = .ok (.aload_n 0, 1) := by decide +kernel
theorem dL_law_497 : decode cL_law 497 = .ok (.iload_n 3, 1) := by decide +kernel
theorem dL_law_498 : decode cL_law 498 = .ok (.iconst 1, 1) := by decide +kernel
theorem dL_law_499 : decode cL_law 499 = .ok (.iadd, 1) := by decide +kernel
theorem dL_law_500 : decode cL_law 500 = .ok (.iaload, 1) := by decide +kernel
theorem dL_law_501 : decode cL_law 501 = .ok (.aload_n 0, 1) := by decide +kernel
theorem dL_law_502 : decode cL_law 502 = .ok (.iload_n 3, 1) := by decide +kernel
theorem dL_law_503 : decode cL_law 503 = .ok (.iconst 2, 1) := by decide +kernel
theorem dL_law_504 : decode cL_law 504 = .ok (.iadd, 1) := by decide +kernel
theorem dL_law_505 : decode cL_law 505 = .ok (.iaload, 1) := by decide +kernel
theorem dL_law_506 : decode cL_law 506 = .ok (.aload_n 0, 1) := by decide +kernel
theorem dL_law_507 : decode cL_law 507 = .ok (.iload_n 3, 1) := by decide +kernel
theorem dL_law_508 : decode cL_law 508 = .ok (.iconst 3, 1) := by decide +kernel
theorem dL_law_509 : decode cL_law 509 = .ok (.iadd, 1) := by decide +kernel
theorem dL_law_510 : decode cL_law 510 = .ok (.iaload, 1) := by decide +kernel
theorem dL_law_511 : decode cL_law 511 = .ok (.invokevirtual 62, 3) := by decide +kernel
theorem dL_law_514 : decode cL_law 514 = .ok (.if_icmp .eq 555, 3) := by decide +kernel
theorem dL_law_517 : decode cL_law 517 = .ok (.iconst 0, 1) := by decide +kernel
theorem dL_law_518 : decode cL_law 518 = .ok (.ireturn, 1) := by decide +kernel
theorem dL_law_519 : decode cL_law 519 = .ok (.aload_n 1, 1) := by decide +kernel
theorem dL_law_520 : decode cL_law 520 = .ok (.aload_n 0, 1) := by decide +kernel
theorem dL_law_521 : decode cL_law 521 = .ok (.iload_n 3, 1) := by decide +kernel
theorem dL_law_522 : decode cL_law 522 = .ok (.iconst 1, 1) := by decide +kernel
theorem dL_law_523 : decode cL_law 523 = .ok (.iadd, 1) := by decide +kernel
theorem dL_law_524 : decode cL_law 524 = .ok (.iaload, 1) := by decide +kernel
theorem dL_law_525 : decode cL_law 525 = .ok (.aload_n 0, 1) := by decide +kernel
theorem dL_law_526 : decode cL_law 526 = .ok (.iload_n 3, 1) := by decide +kernel
theorem dL_law_527 : decode cL_law 527 = .ok (.iconst 2, 1) := by decide +kernel
theorem dL_law_528 : decode cL_law 528 = .ok (.iadd, 1) := by decide +kernel
theorem dL_law_529 : decode cL_law 529 = .ok (.iaload, 1) := by decide +kernel
theorem dL_law_530 : decode cL_law 530 = .ok (.aload_n 0, 1) := by decide +kernel
theorem dL_law_531 : decode cL_law 531 = .ok (.iload_n 3, 1) := by decide +kernel
theorem dL_law_532 : decode cL_law 532 = .ok (.iconst 3, 1) := by decide +kernel
theorem dL_law_533 : decode cL_law 533 = .ok (.iadd, 1) := by decide +kernel
theorem dL_law_534 : decode cL_law 534 = .ok (.iaload, 1) := by decide +kernel
theorem dL_law_535 : decode cL_law 535 = .ok (.invokevirtual 63, 3) := by decide +kernel
theorem dL_law_538 : decode cL_law 538 = .ok (.aload_n 2, 1) := by decide +kernel
theorem dL_law_539 : decode cL_law 539 = .ok (.aload_n 0, 1) := by decide +kernel
theorem dL_law_540 : decode cL_law 540 = .ok (.iload_n 3, 1) := by decide +kernel
theorem dL_law_541 : decode cL_law 541 = .ok (.iconst 1, 1) := by decide +kernel
theorem dL_law_542 : decode cL_law 542 = .ok (.iadd, 1) := by decide +kernel
theorem dL_law_543 : decode cL_law 543 = .ok (.iaload, 1) := by decide +kernel
theorem dL_law_544 : decode cL_law 544 = .ok (.aload_n 0, 1) := by decide +kernel
theorem dL_law_545 : decode cL_law 545 = .ok (.iload_n 3, 1) := by decide +kernel
theorem dL_law_546 : decode cL_law 546 = .ok (.iconst 2, 1) := by decide +kernel
theorem dL_law_547 : decode cL_law 547 = .ok (.iadd, 1) := by decide +kernel
theorem dL_law_548 : decode cL_law 548 = .ok (.iaload, 1) := by decide +kernel
theorem dL_law_549 : decode cL_law 549 = .ok (.aload_n 0, 1) := by decide +kernel
theorem dL_law_550 : decode cL_law 550 = .ok (.iload_n 3, 1) := by decide +kernel
theorem dL_law_551 : decode cL_law 551 = .ok (.iconst 3, 1) := by decide +kernel
theorem dL_law_552 : decode cL_law 552 = .ok (.iadd, 1) := by decide +kernel
theorem dL_law_553 : decode cL_law 553 = .ok (.iaload, 1) := by decide +kernel
theorem dL_law_554 : decode cL_law 554 = .ok (.invokevirtual 66, 3) := by decide +kernel
theorem dL_law_557 : decode cL_law 557 = .ok (.if_icmp .eq 512, 3) := by decide +kernel
theorem dL_law_560 : decode cL_law 560 = .ok (.iconst 0, 1) := by decide +kernel
theorem dL_law_561 : decode cL_law 561 = .ok (.ireturn, 1) := by decide +kernel
theorem dL_law_562 : decode cL_law 562 = .ok (.aload_n 1, 1) := by decide +kernel
theorem dL_law_563 : decode cL_law 563 = .ok (.aload_n 0, 1) := by decide +kernel
theorem dL_law_564 : decode cL_law 564 = .ok (.iload_n 3, 1) := by decide +kernel
theorem dL_law_565 : decode cL_law 565 = .ok (.iconst 1, 1) := by decide +kernel
theorem dL_law_566 : decode cL_law 566 = .ok (.iadd, 1) := by decide +kernel
theorem dL_law_567 : decode cL_law 567 = .ok (.iaload, 1) := by decide +kernel
theorem dL_law_568 : decode cL_law 568 = .ok (.aload_n 0, 1) := by decide +kernel
theorem dL_law_569 : decode cL_law 569 = .ok (.iload_n 3, 1) := by decide +kernel
theorem dL_law_570 : decode cL_law 570 = .ok (.iconst 2, 1) := by decide +kernel
theorem dL_law_571 : decode cL_law 571 = .ok (.iadd, 1) := by decide +kernel
theorem dL_law_572 : decode cL_law 572 = .ok (.iaload, 1) := by decide +kernel
theorem dL_law_573 : decode cL_law 573 = .ok (.aload_n 0, 1) := by decide +kernel
theorem dL_law_574 : decode cL_law 574 = .ok (.iload_n 3, 1) := by decide +kernel
theorem dL_law_575 : decode cL_law 575 = .ok (.iconst 3, 1) := by decide +kernel
theorem dL_law_576 : decode cL_law 576 = .ok (.iadd, 1) := by decide +kernel
theorem dL_law_577 : decode cL_law 577 = .ok (.iaload, 1) := by decide +kernel
theorem dL_law_578 : decode cL_law 578 = .ok (.aload_n 0, 1) := by decide +kernel
theorem dL_law_579 : decode cL_law 579 = .ok (.iload_n 3, 1) := by decide +kernel
theorem dL_law_580 : decode cL_law 580 = .ok (.iconst 4, 1) := by decide +kernel
theorem dL_law_581 : decode cL_law 581 = .ok (.iadd, 1) := by decide +kernel
theorem dL_law_582 : decode cL_law 582 = .ok (.iaload, 1) := by decide +kernel
theorem dL_law_583 : decode cL_law 583 = .ok (.aload_n 0, 1) := by decide +kernel
theorem dL_law_584 : decode cL_law 584 = .ok (.iload_n 3, 1) := by decide +kernel
theorem dL_law_585 : decode cL_law 585 = .ok (.iconst 5, 1) := by decide +kernel
theorem dL_law_586 : decode cL_law 586 = .ok (.iadd, 1) := by decide +kernel
theorem dL_law_587 : decode cL_law 587 = .ok (.iaload, 1) := by decide +kernel
theorem dL_law_588 : decode cL_law 588 = .ok (.aload_n 0, 1) := by decide +kernel
theorem dL_law_589 : decode cL_law 589 = .ok (.iload_n 3, 1) := by decide +kernel
theorem dL_law_590 : decode cL_law 590 = .ok (.bipush 6, 2) := by decide +kernel
theorem dL_law_592 : decode cL_law 592 = .ok (.iadd, 1) := by decide +kernel
theorem dL_law_593 : decode cL_law 593 = .ok (.iaload, 1) := by decide +kernel
theorem dL_law_594 : decode cL_law 594 = .ok (.invokevirtual 67, 3) := by decide +kernel
theorem dL_law_597 : decode cL_law 597 = .ok (.aload_n 2, 1) := by decide +kernel
theorem dL_law_598 : decode cL_law 598 = .ok (.aload_n 0, 1) := by decide +kernel
theorem dL_law_599 : decode cL_law 599 = .ok (.iload_n 3, 1) := by decide +kernel
theorem dL_law_600 : decode cL_law 600 = .ok (.iconst 1, 1) := by decide +kernel
theorem dL_law_601 : decode cL_law 601 = .ok (.iadd, 1) := by decide +kernel
theorem dL_law_602 : decode cL_law 602 = .ok (.iaload, 1) := by decide +kernel
theorem dL_law_603 : decode cL_law 603 = .ok (.aload_n 0, 1) := by decide +kernel
theorem dL_law_604 : decode cL_law 604 = .ok (.iload_n 3, 1) := by decide +kernel
theorem dL_law_605 : decode cL_law 605 = .ok (.iconst 2, 1) := by decide +kernel
theorem dL_law_606 : decode cL_law 606 = .ok (.iadd, 1) := by decide +kernel
theorem dL_law_607 : decode cL_law 607 = .ok (.iaload, 1) := by decide +kernel
theorem dL_law_608 : decode cL_law 608 = .ok (.aload_n 0, 1) := by decide +kernel
theorem dL_law_609 : decode cL_law 609 = .ok (.iload_n 3, 1) := by decide +kernel
theorem dL_law_610 : decode cL_law 610 = .ok (.iconst 3, 1) := by decide +kernel
theorem dL_law_611 : decode cL_law 611 = .ok (.iadd, 1) := by decide +kernel
theorem dL_law_612 : decode cL_law 612 = .ok (.iaload, 1) := by decide +kernel
theorem dL_law_613 : decode cL_law 613 = .ok (.aload_n 0, 1) := by decide +kernel
theorem dL_law_614 : decode cL_law 614 = .ok (.iload_n 3, 1) := by decide +kernel
theorem dL_law_615 : decode cL_law 615 = .ok (.iconst 4, 1) := by decide +kernel
theorem dL_law_616 : decode cL_law 616 = .ok (.iadd, 1) := by decide +kernel
theorem dL_law_617 : decode cL_law 617 = .ok (.iaload, 1) := by decide +kernel
theorem dL_law_618 : decode cL_law 618 = .ok (.aload_n 0, 1) := by decide +kernel
theorem dL_law_619 : decode cL_law 619 = .ok (.iload_n 3, 1) := by decide +kernel
theorem dL_law_620 : decode cL_law 620 = .ok (.iconst 5, 1) := by decide +kernel
theorem dL_law_621 : decode cL_law 621 = .ok (.iadd, 1) := by decide +kernel
theorem dL_law_622 : decode cL_law 622 = .ok (.iaload, 1) := by decide +kernel
theorem dL_law_623 : decode cL_law 623 = .ok (.aload_n 0, 1) := by decide +kernel
theorem dL_law_624 : decode cL_law 624 = .ok (.iload_n 3, 1) := by decide +kernel
theorem dL_law_625 : decode cL_law 625 = .ok (.bipush 6, 2) := by decide +kernel
theorem dL_law_627 : decode cL_law 627 = .ok (.iadd, 1) := by decide +kernel
theorem dL_law_628 : decode cL_law 628 = .ok (.iaload, 1) := by decide +kernel
theorem dL_law_629 : decode cL_law 629 = .ok (.invokevirtual 71, 3) := by decide +kernel
theorem dL_law_632 : decode cL_law 632 = .ok (.if_icmp .eq 437, 3) := by decide +kernel
theorem dL_law_635 : decode cL_law 635 = .ok (.iconst 0, 1) := by decide +kernel
theorem dL_law_636 : decode cL_law 636 = .ok (.ireturn, 1) := by decide +kernel
theorem dL_law_637 : decode cL_law 637 = .ok (.aload_n 1, 1) := by decide +kernel
theorem dL_law_638 : decode cL_law 638 = .ok (.aload_n 0, 1) := by decide +kernel
theorem dL_law_639 : decode cL_law 639 = .ok (.iload_n 3, 1) := by decide +kernel
theorem dL_law_640 : decode cL_law 640 = .ok (.iconst 1, 1) := by decide +kernel
theorem dL_law_641 : decode cL_law 641 = .ok (.iadd, 1) := by decide +kernel
theorem dL_law_642 : decode cL_law 642 = .ok (.iaload, 1) := by decide +kernel
theorem dL_law_643 : decode cL_law 643 = .ok (.aload_n 0, 1) := by decide +kernel
theorem dL_law_644 : decode cL_law 644 = .ok (.iload_n 3, 1) := by decide +kernel
theorem dL_law_645 : decode cL_law 645 = .ok (.iconst 2, 1) := by decide +kernel
theorem dL_law_646 : decode cL_law 646 = .ok (.iadd, 1) := by decide +kernel
theorem dL_law_647 : decode cL_law 647 = .ok (.iaload, 1) := by decide +kernel
theorem dL_law_648 : decode cL_law 648 = .ok (.aload_n 0, 1) := by decide +kernel
theorem dL_law_649 : decode cL_law 649 = .ok (.iload_n 3, 1) := by decide +kernel
theorem dL_law_650 : decode cL_law 650 = .ok (.iconst 3, 1) := by decide +kernel
theorem dL_law_651 : decode cL_law 651 = .ok (.iadd, 1) := by decide +kernel
theorem dL_law_652 : decode cL_law 652 = .ok (.iaload, 1) := by decide +kernel
theorem dL_law_653 : decode cL_law 653 = .ok (.aload_n 0, 1) := by decide +kernel
theorem dL_law_654 : decode cL_law 654 = .ok (.iload_n 3, 1) := by decide +kernel
theorem dL_law_655 : decode cL_law 655 = .ok (.iconst 4, 1) := by decide +kernel
theorem dL_law_656 : decode cL_law 656 = .ok (.iadd, 1) := by decide +kernel
theorem dL_law_657 : decode cL_law 657 = .ok (.iaload, 1) := by decide +kernel
theorem dL_law_658 : decode cL_law 658 = .ok (.invokevirtual 72, 3) := by decide +kernel
theorem dL_law_661 : decode cL_law 661 = .ok (.aload_n 2, 1) := by decide +kernel
theorem dL_law_662 : decode cL_law 662 = .ok (.aload_n 0, 1) := by decide +kernel
theorem dL_law_663 : decode cL_law 663 = .ok (.iload_n 3, 1) := by decide +kernel
theorem dL_law_664 : decode cL_law 664 = .ok (.iconst 1, 1) := by decide +kernel
theorem dL_law_665 : decode cL_law 665 = .ok (.iadd, 1) := by decide +kernel
theorem dL_law_666 : decode cL_law 666 = .ok (.iaload, 1) := by decide +kernel
theorem dL_law_667 : decode cL_law 667 = .ok (.aload_n 0, 1) := by decide +kernel
theorem dL_law_668 : decode cL_law 668 = .ok (.iload_n 3, 1) := by decide +kernel
theorem dL_law_669 : decode cL_law 669 = .ok (.iconst 2, 1) := by decide +kernel
theorem dL_law_670 : decode cL_law 670 = .ok (.iadd, 1) := by decide +kernel
theorem dL_law_671 : decode cL_law 671 = .ok (.iaload, 1) := by decide +kernel
theorem dL_law_672 : decode cL_law 672 = .ok (.aload_n 0, 1) := by decide +kernel
theorem dL_law_673 : decode cL_law 673 = .ok (.iload_n 3, 1) := by decide +kernel
theorem dL_law_674 : decode cL_law 674 = .ok (.iconst 3, 1) := by decide +kernel
theorem dL_law_675 : decode cL_law 675 = .ok (.iadd, 1) := by decide +kernel
theorem dL_law_676 : decode cL_law 676 = .ok (.iaload, 1) := by decide +kernel
theorem dL_law_677 : decode cL_law 677 = .ok (.aload_n 0, 1) := by decide +kernel
theorem dL_law_678 : decode cL_law 678 = .ok (.iload_n 3, 1) := by decide +kernel
theorem dL_law_679 : decode cL_law 679 = .ok (.iconst 4, 1) := by decide +kernel
theorem dL_law_680 : decode cL_law 680 = .ok (.iadd, 1) := by decide +kernel
theorem dL_law_681 : decode cL_law 681 = .ok (.iaload, 1) := by decide +kernel
theorem dL_law_682 : decode cL_law 682 = .ok (.invokevirtual 75, 3) := by decide +kernel
theorem dL_law_685 : decode cL_law 685 = .ok (.if_icmp .eq 384, 3) := by decide +kernel
theorem dL_law_688 : decode cL_law 688 = .ok (.iconst 0, 1) := by decide +kernel
theorem dL_law_689 : decode cL_law 689 = .ok (.ireturn, 1) := by decide +kernel
theorem dL_law_690 : decode cL_law 690 = .ok (.aload_n 1, 1) := by decide +kernel
theorem dL_law_691 : decode cL_law 691 = .ok (.aload_n 0, 1) := by decide +kernel
theorem dL_law_692 : decode cL_law 692 = .ok (.iload_n 3, 1) := by decide +kernel
theorem dL_law_693 : decode cL_law 693 = .ok (.iconst 1, 1) := by decide +kernel
theorem dL_law_694 : decode cL_law 694 = .ok (.iadd, 1) := by decide +kernel
theorem dL_law_695 : decode cL_law 695 = .ok (.iaload, 1) := by decide +kernel
theorem dL_law_696 : decode cL_law 696 = .ok (.invokevirtual 76, 3) := by decide +kernel
theorem dL_law_699 : decode cL_law 699 = .ok (.aload_n 2, 1) := by decide +kernel
theorem dL_law_700 : decode cL_law 700 = .ok (.aload_n 0, 1) := by decide +kernel
theorem dL_law_701 : decode cL_law 701 = .ok (.iload_n 3, 1) := by decide +kernel
theorem dL_law_702 : decode cL_law 702 = .ok (.iconst 1, 1) := by decide +kernel
theorem dL_law_703 : decode cL_law 703 = .ok (.iadd, 1) := by decide +kernel
theorem dL_law_704 : decode cL_law 704 = .ok (.iaload, 1) := by decide +kernel
theorem dL_law_705 : decode cL_law 705 = .ok (.invokevirtual 79, 3) := by decide +kernel
theorem dL_law_708 : decode cL_law 708 = .ok (.if_icmp .eq 361, 3) := by decide +kernel
theorem dL_law_711 : decode cL_law 711 = .ok (.iconst 0, 1) := by decide +kernel
theorem dL_law_712 : decode cL_law 712 = .ok (.ireturn, 1) := by decide +kernel
theorem dL_law_713 : decode cL_law 713 = .ok (.aload_n 1, 1) := by decide +kernel
theorem dL_law_714 : decode cL_law 714 = .ok (.aload_n 0, 1) := by decide +kernel
theorem dL_law_715 : decode cL_law 715 = .ok (.iload_n 3, 1) := by decide +kernel
theorem dL_law_716 : decode cL_law 716 = .ok (.iconst 1, 1) := by decide +kernel
theorem dL_law_717 : decode cL_law 717 = .ok (.iadd, 1) := by decide +kernel
theorem dL_law_718 : decode cL_law 718 = .ok (.iaload, 1) := by decide +kernel
theorem dL_law_719 : decode cL_law 719 = .ok (.invokevirtual 80, 3) := by decide +kernel
theorem dL_law_722 : decode cL_law 722 = .ok (.aload_n 2, 1) := by decide +kernel
theorem dL_law_723 : decode cL_law 723 = .ok (.aload_n 0, 1) := by decide +kernel
theorem dL_law_724 : decode cL_law 724 = .ok (.iload_n 3, 1) := by decide +kernel
theorem dL_law_725 : decode cL_law 725 = .ok (.iconst 1, 1) := by decide +kernel
theorem dL_law_726 : decode cL_law 726 = .ok (.iadd, 1) := by decide +kernel
theorem dL_law_727 : decode cL_law 727 = .ok (.iaload, 1) := by decide +kernel
theorem dL_law_728 : decode cL_law 728 = .ok (.invokevirtual 83, 3) := by decide +kernel
theorem dL_law_731 : decode cL_law 731 = .ok (.if_icmp .eq 338, 3) := by decide +kernel
theorem dL_law_734 : decode cL_law 734 = .ok (.iconst 0, 1) := by decide +kernel
theorem dL_law_735 : decode cL_law 735 = .ok (.ireturn, 1) := by decide +kernel
theorem dL_law_736 : decode cL_law 736 = .ok (.aload_n 1, 1) := by decide +kernel
theorem dL_law_737 : decode cL_law 737 = .ok (.aload_n 0, 1) := by decide +kernel
theorem dL_law_738 : decode cL_law 738 = .ok (.iload_n 3, 1) := by decide +kernel
theorem dL_law_739 : decode cL_law 739 = .ok (.iconst 1, 1) := by decide +kernel
theorem dL_law_740 : decode cL_law 740 = .ok (.iadd, 1) := by decide +kernel
theorem dL_law_741 : decode cL_law 741 = .ok (.iaload, 1) := by decide +kernel
theorem dL_law_742 : decode cL_law 742 = .ok (.aload_n 0, 1) := by decide +kernel
theorem dL_law_743 : decode cL_law 743 = .ok (.iload_n 3, 1) := by decide +kernel
theorem dL_law_744 : decode cL_law 744 = .ok (.iconst 2, 1) := by decide +kernel
theorem dL_law_745 : decode cL_law 745 = .ok (.iadd, 1) := by decide +kernel
theorem dL_law_746 : decode cL_law 746 = .ok (.iaload, 1) := by decide +kernel
theorem dL_law_747 : decode cL_law 747 = .ok (.aload_n 0, 1) := by decide +kernel
theorem dL_law_748 : decode cL_law 748 = .ok (.iload_n 3, 1) := by decide +kernel
theorem dL_law_749 : decode cL_law 749 = .ok (.iconst 3, 1) := by decide +kernel
theorem dL_law_750 : decode cL_law 750 = .ok (.iadd, 1) := by decide +kernel
theorem dL_law_751 : decode cL_law 751 = .ok (.iaload, 1) := by decide +kernel
theorem dL_law_752 : decode cL_law 752 = .ok (.invokevirtual 84, 3) := by decide +kernel
theorem dL_law_755 : decode cL_law 755 = .ok (.aload_n 2, 1) := by decide +kernel
theorem dL_law_756 : decode cL_law 756 = .ok (.aload_n 0, 1) := by decide +kernel
theorem dL_law_757 : decode cL_law 757 = .ok (.iload_n 3, 1) := by decide +kernel
theorem dL_law_758 : decode cL_law 758 = .ok (.iconst 1, 1) := by decide +kernel
theorem dL_law_759 : decode cL_law 759 = .ok (.iadd, 1) := by decide +kernel
theorem dL_law_760 : decode cL_law 760 = .ok (.iaload, 1) := by decide +kernel
theorem dL_law_761 : decode cL_law 761 = .ok (.aload_n 0, 1) := by decide +kernel
theorem dL_law_762 : decode cL_law 762 = .ok (.iload_n 3, 1) := by decide +kernel
theorem dL_law_763 : decode cL_law 763 = .ok (.iconst 2, 1) := by decide +kernel
theorem dL_law_764 : decode cL_law 764 = .ok (.iadd, 1) := by decide +kernel
theorem dL_law_765 : decode cL_law 765 = .ok (.iaload, 1) := by decide +kernel
theorem dL_law_766 : decode cL_law 766 = .ok (.aload_n 0, 1) := by decide +kernel
theorem dL_law_767 : decode cL_law 767 = .ok (.iload_n 3, 1) := by decide +kernel
theorem dL_law_768 : decode cL_law 768 = .ok (.iconst 3, 1) := by decide +kernel
theorem dL_law_769 : decode cL_law 769 = .ok (.iadd, 1) := by decide +kernel
theorem dL_law_770 : decode cL_law 770 = .ok (.iaload, 1) := by decide +kernel
theorem dL_law_771 : decode cL_law 771 = .ok (.invokevirtual 87, 3) := by decide +kernel
theorem dL_law_774 : decode cL_law 774 = .ok (.if_icmp .eq 295, 3) := by decide +kernel
theorem dL_law_777 : decode cL_law 777 = .ok (.iconst 0, 1) := by decide +kernel
theorem dL_law_778 : decode cL_law 778 = .ok (.ireturn, 1) := by decide +kernel
theorem dL_law_779 : decode cL_law 779 = .ok (.aload_n 1, 1) := by decide +kernel
theorem dL_law_780 : decode cL_law 780 = .ok (.aload_n 0, 1) := by decide +kernel
theorem dL_law_781 : decode cL_law 781 = .ok (.iload_n 3, 1) := by decide +kernel
theorem dL_law_782 : decode cL_law 782 = .ok (.iconst 1, 1) := by decide +kernel
theorem dL_law_783 : decode cL_law 783 = .ok (.iadd, 1) := by decide +kernel
theorem dL_law_784 : decode cL_law 784 = .ok (.iaload, 1) := by decide +kernel
theorem dL_law_785 : decode cL_law 785 = .ok (.aload_n 0, 1) := by decide +kernel
theorem dL_law_786 : decode cL_law 786 = .ok (.iload_n 3, 1) := by decide +kernel
theorem dL_law_787 : decode cL_law 787 = .ok (.iconst 2, 1) := by decide +kernel
theorem dL_law_788 : decode cL_law 788 = .ok (.iadd, 1) := by decide +kernel
theorem dL_law_789 : decode cL_law 789 = .ok (.iaload, 1) := by decide +kernel
theorem dL_law_790 : decode cL_law 790 = .ok (.invokevirtual 88, 3) := by decide +kernel
theorem dL_law_793 : decode cL_law 793 = .ok (.aload_n 2, 1) := by decide +kernel
theorem dL_law_794 : decode cL_law 794 = .ok (.aload_n 0, 1) := by decide +kernel
theorem dL_law_795 : decode cL_law 795 = .ok (.iload_n 3, 1) := by decide +kernel
theorem dL_law_796 : decode cL_law 796 = .ok (.iconst 1, 1) := by decide +kernel
theorem dL_law_797 : decode cL_law 797 = .ok (.iadd, 1) := by decide +kernel
theorem dL_law_798 : decode cL_law 798 = .ok (.iaload, 1) := by decide +kernel
theorem dL_law_799 : decode cL_law 799 = .ok (.aload_n 0, 1) := by decide +kernel
theorem dL_law_800 : decode cL_law 800 = .ok (.iload_n 3, 1) := by decide +kernel
theorem dL_law_801 : decode cL_law 801 = .ok (.iconst 2, 1) := by decide +kernel
theorem dL_law_802 : decode cL_law 802 = .ok (.iadd, 1) := by decide +kernel
theorem dL_law_803 : decode cL_law 803 = .ok (.iaload, 1) := by decide +kernel
theorem dL_law_804 : decode cL_law 804 = .ok (.invokevirtual 91, 3) := by decide +kernel
theorem dL_law_807 : decode cL_law 807 = .ok (.if_icmp .eq 262, 3) := by decide +kernel
theorem dL_law_810 : decode cL_law 810 = .ok (.iconst 0, 1) := by decide +kernel
theorem dL_law_811 : decode cL_law 811 = .ok (.ireturn, 1) := by decide +kernel
theorem dL_law_812 : decode cL_law 812 = .ok (.aload_n 1, 1) := by decide +kernel
theorem dL_law_813 : decode cL_law 813 = .ok (.invokevirtual 92, 3) := by decide +kernel
theorem dL_law_816 : decode cL_law 816 = .ok (.aload_n 2, 1) := by decide +kernel
theorem dL_law_817 : decode cL_law 817 = .ok (.invokevirtual 95, 3) := by decide +kernel
theorem dL_law_820 : decode cL_law 820 = .ok (.if_icmp .eq 249, 3) := by decide +kernel
theorem dL_law_823 : decode cL_law 823 = .ok (.iconst 0, 1) := by decide +kernel
theorem dL_law_824 : decode cL_law 824 = .ok (.ireturn, 1) := by decide +kernel
theorem dL_law_825 : decode cL_law 825 = .ok (.aload_n 1, 1) := by decide +kernel
theorem dL_law_826 : decode cL_law 826 = .ok (.aload_n 0, 1) := by decide +kernel
theorem dL_law_827 : decode cL_law 827 = .ok (.iload_n 3, 1) := by decide +kernel
theorem dL_law_828 : decode cL_law 828 = .ok (.iconst 1, 1) := by decide +kernel
theorem dL_law_829 : decode cL_law 829 = .ok (.iadd, 1) := by decide +kernel
theorem dL_law_830 : decode cL_law 830 = .ok (.iaload, 1) := by decide +kernel
theorem dL_law_831 : decode cL_law 831 = .ok (.invokevirtual 96, 3) := by decide +kernel
theorem dL_law_834 : decode cL_law 834 = .ok (.aload_n 2, 1) := by decide +kernel
theorem dL_law_835 : decode cL_law 835 = .ok (.aload_n 0, 1) := by decide +kernel
theorem dL_law_836 : decode cL_law 836 = .ok (.iload_n 3, 1) := by decide +kernel
theorem dL_law_837 : decode cL_law 837 = .ok (.iconst 1, 1) := by decide +kernel
theorem dL_law_838 : decode cL_law 838 = .ok (.iadd, 1) := by decide +kernel
theorem dL_law_839 : decode cL_law 839 = .ok (.iaload, 1) := by decide +kernel
theorem dL_law_840 : decode cL_law 840 = .ok (.invokevirtual 99, 3) := by decide +kernel
theorem dL_law_843 : decode cL_law 843 = .ok (.if_icmp .eq 226, 3) := by decide +kernel
theorem dL_law_846 : decode cL_law 846 = .ok (.iconst 0, 1) := by decide +kernel
theorem dL_law_847 : decode cL_law 847 = .ok (.ireturn, 1) := by decide +kernel
theorem dL_law_848 : decode cL_law 848 = .ok (.aload_n 1, 1) := by decide +kernel
theorem dL_law_849 : decode cL_law 849 = .ok (.invokevirtual 100, 3) := by decide +kernel
theorem dL_law_852 : decode cL_law 852 = .ok (.aload_n 2, 1) := by decide +kernel
theorem dL_law_853 : decode cL_law 853 = .ok (.invokevirtual 103, 3) := by decide +kernel
theorem dL_law_856 : decode cL_law 856 = .ok (.if_icmp .eq 213, 3) := by decide +kernel
theorem dL_law_859 : decode cL_law 859 = .ok (.iconst 0, 1) := by decide +kernel
theorem dL_law_860 : decode cL_law 860 = .ok (.ireturn, 1) := by decide +kernel
theorem dL_law_861 : decode cL_law 861 = .ok (.aload_n 1, 1) := by decide +kernel
theorem dL_law_862 : decode cL_law 862 = .ok (.aload_n 0, 1) := by decide +kernel
theorem dL_law_863 : decode cL_law 863 = .ok (.iload_n 3, 1) := by decide +kernel
theorem dL_law_864 : decode cL_law 864 = .ok (.iconst 1, 1) := by decide +kernel
theorem dL_law_865 : decode cL_law 865 = .ok (.iadd, 1) := by decide +kernel
theorem dL_law_866 : decode cL_law 866 = .ok (.iaload, 1) := by decide +kernel
theorem dL_law_867 : decode cL_law 867 = .ok (.aload_n 0, 1) := by decide +kernel
theorem dL_law_868 : decode cL_law 868 = .ok (.iload_n 3, 1) := by decide +kernel
theorem dL_law_869 : decode cL_law 869 = .ok (.iconst 2, 1) := by decide +kernel
theorem dL_law_870 : decode cL_law 870 = .ok (.iadd, 1) := by decide +kernel
theorem dL_law_871 : decode cL_law 871 = .ok (.iaload, 1) := by decide +kernel
theorem dL_law_872 : decode cL_law 872 = .ok (.invokevirtual 104, 3) := by decide +kernel
theorem dL_law_875 : decode cL_law 875 = .ok (.aload_n 2, 1) := by decide +kernel
theorem dL_law_876 : decode cL_law 876 = .ok (.aload_n 0, 1) := by decide +kernel
theorem dL_law_877 : decode cL_law 877 = .ok (.iload_n 3, 1) := by decide +kernel
theorem dL_law_878 : decode cL_law 878 = .ok (.iconst 1, 1) := by decide +kernel
theorem dL_law_879 : decode cL_law 879 = .ok (.iadd, 1) := by decide +kernel
theorem dL_law_880 : decode cL_law 880 = .ok (.iaload, 1) := by decide +kernel
theorem dL_law_881 : decode cL_law 881 = .ok (.aload_n 0, 1) := by decide +kernel
theorem dL_law_882 : decode cL_law 882 = .ok (.iload_n 3, 1) := by decide +kernel
theorem dL_law_883 : decode cL_law 883 = .ok (.iconst 2, 1) := by decide +kernel
theorem dL_law_884 : decode cL_law 884 = .ok (.iadd, 1) := by decide +kernel
theorem dL_law_885 : decode cL_law 885 = .ok (.iaload, 1) := by decide +kernel
theorem dL_law_886 : decode cL_law 886 = .ok (.invokevirtual 107, 3) := by decide +kernel
theorem dL_law_889 : decode cL_law 889 = .ok (.if_icmp .eq 180, 3) := by decide +kernel
theorem dL_law_892 : decode cL_law 892 = .ok (.iconst 0, 1) := by decide +kernel
theorem dL_law_893 : decode cL_law 893 = .ok (.ireturn, 1) := by decide +kernel
theorem dL_law_894 : decode cL_law 894 = .ok (.aload_n 1, 1) := by decide +kernel
theorem dL_law_895 : decode cL_law 895 = .ok (.aload_n 0, 1) := by decide +kernel
theorem dL_law_896 : decode cL_law 896 = .ok (.iload_n 3, 1) := by decide +kernel
theorem dL_law_897 : decode cL_law 897 = .ok (.iconst 1, 1) := by decide +kernel
theorem dL_law_898 : decode cL_law 898 = .ok (.iadd, 1) := by decide +kernel
theorem dL_law_899 : decode cL_law 899 = .ok (.iaload, 1) := by decide +kernel
theorem dL_law_900 : decode cL_law 900 = .ok (.aload_n 0, 1) := by decide +kernel
theorem dL_law_901 : decode cL_law 901 = .ok (.iload_n 3, 1) := by decide +kernel
theorem dL_law_902 : decode cL_law 902 = .ok (.iconst 2, 1) := by decide +kernel
theorem dL_law_903 : decode cL_law 903 = .ok (.iadd, 1) := by decide +kernel
theorem dL_law_904 : decode cL_law 904 = .ok (.iaload, 1) := by decide +kernel
theorem dL_law_905 : decode cL_law 905 = .ok (.aload_n 0, 1) := by decide +kernel
theorem dL_law_906 : decode cL_law 906 = .ok (.iload_n 3, 1) := by decide +kernel
theorem dL_law_907 : decode cL_law 907 = .ok (.iconst 3, 1) := by decide +kernel
theorem dL_law_908 : decode cL_law 908 = .ok (.iadd, 1) := by decide +kernel
theorem dL_law_909 : decode cL_law 909 = .ok (.iaload, 1) := by decide +kernel
theorem dL_law_910 : decode cL_law 910 = .ok (.aload_n 0, 1) := by decide +kernel
theorem dL_law_911 : decode cL_law 911 = .ok (.iload_n 3, 1) := by decide +kernel
theorem dL_law_912 : decode cL_law 912 = .ok (.iconst 4, 1) := by decide +kernel
theorem dL_law_913 : decode cL_law 913 = .ok (.iadd, 1) := by decide +kernel
theorem dL_law_914 : decode cL_law 914 = .ok (.iaload, 1) := by decide +kernel
theorem dL_law_915 : decode cL_law 915 = .ok (.invokevirtual 108, 3) := by decide +kernel
theorem dL_law_918 : decode cL_law 918 = .ok (.aload_n 2, 1) := by decide +kernel
theorem dL_law_919 : decode cL_law 919 = .ok (.aload_n 0, 1) := by decide +kernel
theorem dL_law_920 : decode cL_law 920 = .ok (.iload_n 3, 1) := by decide +kernel
theorem dL_law_921 : decode cL_law 921 = .ok (.iconst 1, 1) := by decide +kernel
theorem dL_law_922 : decode cL_law 922 = .ok (.iadd, 1) := by decide +kernel
theorem dL_law_923 : decode cL_law 923 = .ok (.iaload, 1) := by decide +kernel
theorem dL_law_924 : decode cL_law 924 = .ok (.aload_n 0, 1) := by decide +kernel
theorem dL_law_925 : decode cL_law 925 = .ok (.iload_n 3, 1) := by decide +kernel
theorem dL_law_926 : decode cL_law 926 = .ok (.iconst 2, 1) := by decide +kernel
theorem dL_law_927 : decode cL_law 927 = .ok (.iadd, 1) := by decide +kernel
theorem dL_law_928 : decode cL_law 928 = .ok (.iaload, 1) := by decide +kernel
theorem dL_law_929 : decode cL_law 929 = .ok (.aload_n 0, 1) := by decide +kernel
theorem dL_law_930 : decode cL_law 930 = .ok (.iload_n 3, 1) := by decide +kernel
theorem dL_law_931 : decode cL_law 931 = .ok (.iconst 3, 1) := by decide +kernel
theorem dL_law_932 : decode cL_law 932 = .ok (.iadd, 1) := by decide +kernel
theorem dL_law_933 : decode cL_law 933 = .ok (.iaload, 1) := by decide +kernel
theorem dL_law_934 : decode cL_law 934 = .ok (.aload_n 0, 1) := by decide +kernel
theorem dL_law_935 : decode cL_law 935 = .ok (.iload_n 3, 1) := by decide +kernel
theorem dL_law_936 : decode cL_law 936 = .ok (.iconst 4, 1) := by decide +kernel
theorem dL_law_937 : decode cL_law 937 = .ok (.iadd, 1) := by decide +kernel
theorem dL_law_938 : decode cL_law 938 = .ok (.iaload, 1) := by decide +kernel
theorem dL_law_939 : decode cL_law 939 = .ok (.invokevirtual 111, 3) := by decide +kernel
theorem dL_law_942 : decode cL_law 942 = .ok (.if_icmp .eq 127, 3) := by decide +kernel
theorem dL_law_945 : decode cL_law 945 = .ok (.iconst 0, 1) := by decide +kernel
theorem dL_law_946 : decode cL_law 946 = .ok (.ireturn, 1) := by decide +kernel
theorem dL_law_947 : decode cL_law 947 = .ok (.aload_n 1, 1) := by decide +kernel
theorem dL_law_948 : decode cL_law 948 = .ok (.aload_n 0, 1) := by decide +kernel
theorem dL_law_949 : decode cL_law 949 = .ok (.iload_n 3, 1) := by decide +kernel
theorem dL_law_950 : decode cL_law 950 = .ok (.iconst 1, 1) := by decide +kernel
theorem dL_law_951 : decode cL_law 951 = .ok (.iadd, 1) := by decide +kernel
theorem dL_law_952 : decode cL_law 952 = .ok (.iaload, 1) := by decide +kernel
theorem dL_law_953 : decode cL_law 953 = .ok (.aload_n 0, 1) := by decide +kernel
theorem dL_law_954 : decode cL_law 954 = .ok (.iload_n 3, 1) := by decide +kernel
theorem dL_law_955 : decode cL_law 955 = .ok (.iconst 2, 1) := by decide +kernel
theorem dL_law_956 : decode cL_law 956 = .ok (.iadd, 1) := by decide +kernel
theorem dL_law_957 : decode cL_law 957 = .ok (.iaload, 1) := by decide +kernel
theorem dL_law_958 : decode cL_law 958 = .ok (.aload_n 0, 1) := by decide +kernel
theorem dL_law_959 : decode cL_law 959 = .ok (.iload_n 3, 1) := by decide +kernel
theorem dL_law_960 : decode cL_law 960 = .ok (.iconst 3, 1) := by decide +kernel
theorem dL_law_961 : decode cL_law 961 = .ok (.iadd, 1) := by decide +kernel
theorem dL_law_962 : decode cL_law 962 = .ok (.iaload, 1) := by decide +kernel
theorem dL_law_963 : decode cL_law 963 = .ok (.aload_n 0, 1) := by decide +kernel
theorem dL_law_964 : decode cL_law 964 = .ok (.iload_n 3, 1) := by decide +kernel
theorem dL_law_965 : decode cL_law 965 = .ok (.iconst 4, 1) := by decide +kernel
theorem dL_law_966 : decode cL_law 966 = .ok (.iadd, 1) := by decide +kernel
theorem dL_law_967 : decode cL_law 967 = .ok (.iaload, 1) := by decide +kernel
theorem dL_law_968 : decode cL_law 968 = .ok (.invokevirtual 112, 3) := by decide +kernel
theorem dL_law_971 : decode cL_law 971 = .ok (.aload_n 2, 1) := by decide +kernel
theorem dL_law_972 : decode cL_law 972 = .ok (.aload_n 0, 1) := by decide +kernel
theorem dL_law_973 : decode cL_law 973 = .ok (.iload_n 3, 1) := by decide +kernel
theorem dL_law_974 : decode cL_law 974 = .ok (.iconst 1, 1) := by decide +kernel
theorem dL_law_975 : decode cL_law 975 = .ok (.iadd, 1) := by decide +kernel
theorem dL_law_976 : decode cL_law 976 = .ok (.iaload, 1) := by decide +kernel
theorem dL_law_977 : decode cL_law 977 = .ok (.aload_n 0, 1) := by decide +kernel
theorem dL_law_978 : decode cL_law 978 = .ok (.iload_n 3, 1) := by decide +kernel
theorem dL_law_979 : decode cL_law 979 = .ok (.iconst 2, 1) := by decide +kernel
theorem dL_law_980 : decode cL_law 980 = .ok (.iadd, 1) := by decide +kernel
theorem dL_law_981 : decode cL_law 981 = .ok (.iaload, 1) := by decide +kernel
theorem dL_law_982 : decode cL_law 982 = .ok (.aload_n 0, 1) := by decide +kernel
theorem dL_law_983 : decode cL_law 983 = .ok (.iload_n 3, 1) := by decide +kernel
theorem dL_law_984 : decode cL_law 984 = .ok (.iconst 3, 1) := by decide +kernel
theorem dL_law_985 : decode cL_law 985 = .ok (.iadd, 1) := by decide +kernel
theorem dL_law_986 : decode cL_law 986 = .ok (.iaload, 1) := by decide +kernel
theorem dL_law_987 : decode cL_law 987 = .ok (.aload_n 0, 1) := by decide +kernel
theorem dL_law_988 : decode cL_law 988 = .ok (.iload_n 3, 1) := by decide +kernel
theorem dL_law_989 : decode cL_law 989 = .ok (.iconst 4, 1) := by decide +kernel
theorem dL_law_990 : decode cL_law 990 = .ok (.iadd, 1) := by decide +kernel
theorem dL_law_991 : decode cL_law 991 = .ok (.iaload, 1) := by decide +kernel
theorem dL_law_992 : decode cL_law 992 = .ok (.invokevirtual 115, 3) := by decide +kernel
theorem dL_law_995 : decode cL_law 995 = .ok (.if_icmp .eq 74, 3) := by decide +kernel
theorem dL_law_998 : decode cL_law 998 = .ok (.iconst 0, 1) := by decide +kernel
theorem dL_law_999 : decode cL_law 999 = .ok (.ireturn, 1) := by decide +kernel
theorem dL_law_1000 : decode cL_law 1000 = .ok (.aload_n 1, 1) := by decide +kernel
theorem dL_law_1001 : decode cL_law 1001 = .ok (.aload_n 0, 1) := by decide +kernel
theorem dL_law_1002 : decode cL_law 1002 = .ok (.iload_n 3, 1) := by decide +kernel
theorem dL_law_1003 : decode cL_law 1003 = .ok (.iconst 1, 1) := by decide +kernel
theorem dL_law_1004 : decode cL_law 1004 = .ok (.iadd, 1) := by decide +kernel
theorem dL_law_1005 : decode cL_law 1005 = .ok (.iaload, 1) := by decide +kernel
theorem dL_law_1006 : decode cL_law 1006 = .ok (.invokevirtual 116, 3) := by decide +kernel
theorem dL_law_1009 : decode cL_law 1009 = .ok (.aload_n 2, 1) := by decide +kernel
theorem dL_law_1010 : decode cL_law 1010 = .ok (.aload_n 0, 1) := by decide +kernel
theorem dL_law_1011 : decode cL_law 1011 = .ok (.iload_n 3, 1) := by decide +kernel
theorem dL_law_1012 : decode cL_law 1012 = .ok (.iconst 1, 1) := by decide +kernel
theorem dL_law_1013 : decode cL_law 1013 = .ok (.iadd, 1) := by decide +kernel
theorem dL_law_1014 : decode cL_law 1014 = .ok (.iaload, 1) := by decide +kernel
theorem dL_law_1015 : decode cL_law 1015 = .ok (.invokevirtual 119, 3) := by decide +kernel
theorem dL_law_1018 : decode cL_law 1018 = .ok (.if_icmp .eq 51, 3) := by decide +kernel
theorem dL_law_1021 : decode cL_law 1021 = .ok (.iconst 0, 1) := by decide +kernel
theorem dL_law_1022 : decode cL_law 1022 = .ok (.ireturn, 1) := by decide +kernel
theorem dL_law_1023 : decode cL_law 1023 = .ok (.aload_n 1, 1) := by decide +kernel
theorem dL_law_1024 : decode cL_law 1024 = .ok (.aload_n 0, 1) := by decide +kernel
theorem dL_law_1025 : decode cL_law 1025 = .ok (.iload_n 3, 1) := by decide +kernel
theorem dL_law_1026 : decode cL_law 1026 = .ok (.iconst 1, 1) := by decide +kernel
theorem dL_law_1027 : decode cL_law 1027 = .ok (.iadd, 1) := by decide +kernel
theorem dL_law_1028 : decode cL_law 1028 = .ok (.iaload, 1) := by decide +kernel
theorem dL_law_1029 : decode cL_law 1029 = .ok (.invokevirtual 120, 3) := by decide +kernel
theorem dL_law_1032 : decode cL_law 1032 = .ok (.aload_n 2, 1) := by decide +kernel
theorem dL_law_1033 : decode cL_law 1033 = .ok (.aload_n 0, 1) := by decide +kernel
theorem dL_law_1034 : decode cL_law 1034 = .ok (.iload_n 3, 1) := by decide +kernel
theorem dL_law_1035 : decode cL_law 1035 = .ok (.iconst 1, 1) := by decide +kernel
theorem dL_law_1036 : decode cL_law 1036 = .ok (.iadd, 1) := by decide +kernel
theorem dL_law_1037 : decode cL_law 1037 = .ok (.iaload, 1) := by decide +kernel
theorem dL_law_1038 : decode cL_law 1038 = .ok (.invokevirtual 123, 3) := by decide +kernel
theorem dL_law_1041 : decode cL_law 1041 = .ok (.if_icmp .eq 28, 3) := by decide +kernel
theorem dL_law_1044 : decode cL_law 1044 = .ok (.iconst 0, 1) := by decide +kernel
theorem dL_law_1045 : decode cL_law 1045 = .ok (.ireturn, 1) := by decide +kernel
theorem dL_law_1046 : decode cL_law 1046 = .ok (.aload_n 1, 1) := by decide +kernel
theorem dL_law_1047 : decode cL_law 1047 = .ok (.aload_n 0, 1) := by decide +kernel
theorem dL_law_1048 : decode cL_law 1048 = .ok (.iload_n 3, 1) := by decide +kernel
theorem dL_law_1049 : decode cL_law 1049 = .ok (.iconst 1, 1) := by decide +kernel
theorem dL_law_1050 : decode cL_law 1050 = .ok (.iadd, 1) := by decide +kernel
theorem dL_law_1051 : decode cL_law 1051 = .ok (.iaload, 1) := by decide +kernel
theorem dL_law_1052 : decode cL_law 1052 = .ok (.invokevirtual 124, 3) := by decide +kernel
theorem dL_law_1055 : decode cL_law 1055 = .ok (.aload_n 2, 1) := by decide +kernel
theorem dL_law_1056 : decode cL_law 1056 = .ok (.aload_n 0, 1) := by decide +kernel
theorem dL_law_1057 : decode cL_law 1057 = .ok (.iload_n 3, 1) := by decide +kernel
theorem dL_law_1058 : decode cL_law 1058 = .ok (.iconst 1, 1) := by decide +kernel
theorem dL_law_1059 : decode cL_law 1059 = .ok (.iadd, 1) := by decide +kernel
theorem dL_law_1060 : decode cL_law 1060 = .ok (.iaload, 1) := by decide +kernel
theorem dL_law_1061 : decode cL_law 1061 = .ok (.invokevirtual 127, 3) := by decide +kernel
theorem dL_law_1064 : decode cL_law 1064 = .ok (.if_icmp .eq 5, 3) := by decide +kernel
theorem dL_law_1067 : decode cL_law 1067 = .ok (.iconst 0, 1) := by decide +kernel
theorem dL_law_1068 : decode cL_law 1068 = .ok (.ireturn, 1) := by decide +kernel
theorem dL_law_1069 : decode cL_law 1069 = .ok (.iinc 3 7, 3) := by decide +kernel
theorem dL_law_1072 : decode cL_law 1072 = .ok (.goto (-1054), 3) := by decide +kernel
theorem dL_law_1075 : decode cL_law 1075 = .ok (.iconst 1, 1) := by decide +kernel
theorem dL_law_1076 : decode cL_law 1076 = .ok (.ireturn, 1) := by decide +kernel
